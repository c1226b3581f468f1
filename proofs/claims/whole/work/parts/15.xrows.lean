/-! rows over the world of the class -/
def lawc (σ : St) (d : Nat) : List Int32 := match d with
  | 0 => [10000]
  | 1 => [1]
  | k + 2 => (σ.2.2.2.getD k (0, [])).2
def lawok (σ : St) (d : Nat) : Bool := decide (d < Kn σ + 2)
section KX
variable {X : CX} {cc : ByteArray} {nL : Nat} {own : String} {ret : Option FieldType} {pc : Nat} {lv : List (Nat × Value)} {rest st0 : List Value} {σ : St} {α : Type} {res : α}
theorem X_sx (hX : gd X cc nL own ret) (hw : isX (xw X)) : xSx (wadW (xw X)) (wSt2 (xw X)) (wReg (xw X)) (xs X) (xs X).heap := by
  have h := hX.2.2.2.2.2.2.2.1
  rw [hw.2] at h
  exact h
theorem J_gets {C n d : String} {v : Value} {idx : Nat} (hX : gd X cc nL own ret) (hZ : va_Z C n d v (wReg (xw X)) (xs X) (xs X).heap) (hlink : Cond.fieldLink own idx C n d ∈ U0) (hd : decode cc pc = .ok (.getstatic idx, 3)) (kk : Jd X nL (pc + 3) lv (v :: rest) σ) : Jd X nL pc lv rest σ :=
  fun H locs ls hH hS hz hl => va_gets hX.1 hX.2.1 hZ hS hX.2.2.2.1 (hX.2.2.2.2.1 _ hlink) (fun _ h => h) hd (kk H locs ls hH hS hz hl)
theorem J_getk {o n d : String} {v : Value} {idx q : Nat} (hX : gd X cc nL own ret) (hE : va_OF o n d v q (wReg (xw X)) (xs X) (xs X).heap) (hlink : Cond.fieldLink own idx o n d ∈ U0) (hd : decode cc pc = .ok (.getfield idx, 3)) (kk : Jd X nL (pc + 3) lv (v :: rest) σ) : Jd X nL pc lv (.ref q :: rest) σ :=
  fun H locs ls hH hS hz hl => vk_getf hX.1 hX.2.1 hE hS hX.2.2.2.1 (hX.2.2.2.2.1 _ hlink) (fun _ h => h) hd (kk H locs ls hH hS hz hl)
theorem K_gWord (k : Nat) {idx : Nat} (hX : gd X cc nL own ret) (hw : isX (xw X)) (hk : k < 42) (hlink : Cond.fieldLink own idx "SkinCarriers$Word" (wdN.getD k "") "LSkinCarriers$Word;" ∈ U0) (hd : decode cc pc = .ok (.getstatic idx, 3)) (kk : Jd X nL (pc + 3) lv (.ref (wadW (xw X) k) :: rest) σ) : Jd X nL pc lv rest σ := J_gets hX ((X_sx hX hw).1 k hk).1 hlink hd kk
theorem K_gAll {idx : Nat} (hX : gd X cc nL own ret) (hw : isX (xw X)) (hlink : Cond.fieldLink own idx "SkinCarriers$Word" "ALL" "[LSkinCarriers$Word;" ∈ U0) (hd : decode cc pc = .ok (.getstatic idx, 3)) (kk : Jd X nL (pc + 3) lv (.ref (wadW (xw X) 300) :: rest) σ) : Jd X nL pc lv rest σ := J_gets hX (X_sx hX hw).2.2.1 hlink hd kk
theorem K_gPd {idx : Nat} (hX : gd X cc nL own ret) (hw : isX (xw X)) (hlink : Cond.fieldLink own idx "SkinCarriers$Mountain" "PLAIN_DRINK" "[I" ∈ U0) (hd : decode cc pc = .ok (.getstatic idx, 3)) (kk : Jd X nL (pc + 3) lv (.ref (lawad (xw X) σ 0) :: rest) σ) : Jd X nL pc lv rest σ := J_gets hX (X_sx hX hw).2.2.2.2.1 hlink hd kk
theorem K_gPp {idx : Nat} (hX : gd X cc nL own ret) (hw : isX (xw X)) (hlink : Cond.fieldLink own idx "SkinCarriers$Mountain" "PLAIN_PRICE" "[I" ∈ U0) (hd : decode cc pc = .ok (.getstatic idx, 3)) (kk : Jd X nL (pc + 3) lv (.ref (lawad (xw X) σ 1) :: rest) σ) : Jd X nL pc lv rest σ := J_gets hX (X_sx hX hw).2.2.2.2.2.2.1 hlink hd kk
theorem K_gCs {idx : Nat} (hX : gd X cc nL own ret) (hw : isX (xw X)) (hlink : Cond.fieldLink own idx "java/lang/String" "COMPACT_STRINGS" "Z" ∈ U0) (hd : decode cc pc = .ok (.getstatic idx, 3)) (kk : Jd X nL (pc + 3) lv (.int 1 :: rest) σ) : Jd X nL pc lv rest σ := J_gets hX (X_sx hX hw).2.2.2.2.2.2.2.2.1 hlink hd kk
theorem K_wsort {o idx : Nat} {a : Option α} (hX : gd X cc nL own ret) (hw : isX (xw X)) (hlink : Cond.fieldLink own idx "SkinCarriers$Word" "sort" "I" ∈ U0) (hd : decode cc pc = .ok (.getfield idx, 3)) (h : chk (decide (o < 42)) a = some res) (kk : a = some res → Jd X nL (pc + 3) lv (.int (wdS.getD o 0) :: rest) σ) : Jd X nL pc lv (.ref (wadW (xw X) o) :: rest) σ := J_getk hX ((X_sx hX hw).1 o (of_decide_eq_true (chk_some h).1)).2.2.1 hlink hd (kk (chk_some h).2)
theorem K_wnum {o idx : Nat} {a : Option α} (hX : gd X cc nL own ret) (hw : isX (xw X)) (hlink : Cond.fieldLink own idx "SkinCarriers$Word" "number" "I" ∈ U0) (hd : decode cc pc = .ok (.getfield idx, 3)) (h : chk (decide (o < 42)) a = some res) (kk : a = some res → Jd X nL (pc + 3) lv (.int (wdM.getD o 0) :: rest) σ) : Jd X nL pc lv (.ref (wadW (xw X) o) :: rest) σ := J_getk hX ((X_sx hX hw).1 o (of_decide_eq_true (chk_some h).1)).2.2.2.1 hlink hd (kk (chk_some h).2)
theorem K_wtext {o idx : Nat} {a : Option α} (hX : gd X cc nL own ret) (hw : isX (xw X)) (hlink : Cond.fieldLink own idx "SkinCarriers$Word" "text" "Ljava/lang/String;" ∈ U0) (hd : decode cc pc = .ok (.getfield idx, 3)) (h : chk (decide (o < 42)) a = some res) (kk : a = some res → Jd X nL (pc + 3) lv (.ref (wadW (xw X) (100 + o)) :: rest) σ) : Jd X nL pc lv (.ref (wadW (xw X) o) :: rest) σ := J_getk hX ((X_sx hX hw).1 o (of_decide_eq_true (chk_some h).1)).2.2.2.2.1 hlink hd (kk (chk_some h).2)
theorem K_scod {o idx : Nat} {a : Option α} (hX : gd X cc nL own ret) (hw : isX (xw X)) (hlink : Cond.fieldLink own idx "java/lang/String" "coder" "B" ∈ U0) (hd : decode cc pc = .ok (.getfield idx, 3)) (h : chk (decide (100 ≤ o ∧ o < 142)) a = some res) (kk : a = some res → Jd X nL (pc + 3) lv (.int 0 :: rest) σ) : Jd X nL pc lv (.ref (wadW (xw X) o) :: rest) σ := by
  have ho := of_decide_eq_true (chk_some h).1
  obtain ⟨k, rfl⟩ : ∃ k, o = 100 + k := ⟨o - 100, by omega⟩
  exact J_getk hX ((X_sx hX hw).1 k (by omega)).2.2.2.2.2.2.1 hlink hd (kk (chk_some h).2)
theorem K_sval {o idx : Nat} {a : Option α} (hX : gd X cc nL own ret) (hw : isX (xw X)) (hlink : Cond.fieldLink own idx "java/lang/String" "value" "[B" ∈ U0) (hd : decode cc pc = .ok (.getfield idx, 3)) (h : chk (decide (100 ≤ o ∧ o < 142)) a = some res) (kk : a = some res → Jd X nL (pc + 3) lv (.ref (wadW (xw X) (100 + o)) :: rest) σ) : Jd X nL pc lv (.ref (wadW (xw X) o) :: rest) σ := by
  have ho := of_decide_eq_true (chk_some h).1
  obtain ⟨k, rfl⟩ : ∃ k, o = 100 + k := ⟨o - 100, by omega⟩
  have e : 100 + (100 + k) = 200 + k := by omega
  refine J_getk hX ((X_sx hX hw).1 k (by omega)).2.2.2.2.2.2.2.1 hlink hd ?_
  rw [← e]
  exact kk (chk_some h).2
theorem K_sbald {o : Nat} {j : Int32} {a : Option α} (hX : gd X cc nL own ret) (hw : isX (xw X)) (hd : decode cc pc = .ok (.baload, 1)) (h : chk (decide (200 ≤ o ∧ o < 242)) (chk (ib j (wdT.getD (o - 200) []).length) a) = some res) (kk : a = some res → Jd X nL (pc + 1) lv (.int ((wdT.getD (o - 200) []).getD j.toNatClampNeg 0) :: rest) σ) : Jd X nL pc lv (.int j :: .ref (wadW (xw X) o) :: rest) σ := by
  have ho := of_decide_eq_true (chk_some h).1
  obtain ⟨k, rfl⟩ : ∃ k, o = 200 + k := ⟨o - 200, by omega⟩
  rw [Nat.add_sub_cancel_left] at h kk
  intro H locs ls hH hS hz hl
  exact va_tb hX.1 hX.2.1 ((X_sx hX hw).1 k (by omega)).2.2.2.2.2.2.2.2 hS (ib_in (chk_some (chk_some h).2).1) rfl hd (kk (chk_some (chk_some h).2).2 H locs ls hH hS hz hl)
theorem K_slen {o : Nat} {a : Option α} (hX : gd X cc nL own ret) (hw : isX (xw X)) (hd : decode cc pc = .ok (.arraylength, 1)) (h : chk (decide (200 ≤ o ∧ o < 242)) a = some res) (kk : a = some res → Jd X nL (pc + 1) lv (.int (nI (wdT.getD (o - 200) []).length) :: rest) σ) : Jd X nL pc lv (.ref (wadW (xw X) o) :: rest) σ := by
  have ho := of_decide_eq_true (chk_some h).1
  obtain ⟨k, rfl⟩ : ∃ k, o = 200 + k := ⟨o - 200, by omega⟩
  rw [Nat.add_sub_cancel_left] at kk
  intro H locs ls hH hS hz hl
  exact va_tlen hX.1 hX.2.1 ((X_sx hX hw).1 k (by omega)).2.2.2.2.2.2.2.2 hS rfl hd (kk (chk_some h).2 H locs ls hH hS hz hl)
theorem K_allen (hX : gd X cc nL own ret) (hw : isX (xw X)) (hd : decode cc pc = .ok (.arraylength, 1)) (kk : Jd X nL (pc + 1) lv (.int (nI 42) :: rest) σ) : Jd X nL pc lv (.ref (wadW (xw X) 300) :: rest) σ :=
  fun H locs ls hH hS hz hl => va_tlen hX.1 hX.2.1 (X_sx hX hw).2.2.2.1 hS rfl hd (kk H locs ls hH hS hz hl)
theorem K_allald {j : Int32} {a : Option α} (hX : gd X cc nL own ret) (hw : isX (xw X)) (hd : decode cc pc = .ok (.aaload, 1)) (h : chk (ib j 42) a = some res) (kk : a = some res → Jd X nL (pc + 1) lv (.ref (wadW (xw X) j.toNatClampNeg) :: rest) σ) : Jd X nL pc lv (.int j :: .ref (wadW (xw X) 300) :: rest) σ :=
  fun H locs ls hH hS hz hl => vb_tq hX.1 hX.2.1 (X_sx hX hw).2.2.2.1 hS (ib_in (chk_some h).1) rfl hd (kk (chk_some h).2 H locs ls hH hS hz hl)
theorem K_acmp_eq {x y : Nat} {off : Int} {tgt : Nat} {a b : Option α} (hX : gd X cc nL own ret) (hw : isX (xw X)) (hd : decode cc pc = .ok (.if_acmp .eq off, 3)) (ht : (pc : Int) + off = (tgt : Int)) (h : chk (decide (x < 42 ∧ y < 42)) (brc (x = y) a b) = some res) (kt : a = some res → Jd X nL tgt lv rest σ) (kf : b = some res → Jd X nL (pc + 3) lv rest σ) : Jd X nL pc lv (.ref (wadW (xw X) y) :: .ref (wadW (xw X) x) :: rest) σ := by
  have hxy := of_decide_eq_true (chk_some h).1
  have hi := (X_sx hX hw).2.1
  intro H locs ls hH hS hz hl
  rcases brc_some (chk_some h).2 with ⟨hc, h⟩ | ⟨hc, h⟩
  · exact lv_acmp_eq (rx := some (wadW (xw X) x)) (ry := some (wadW (xw X) y)) hX.1 hX.2.1 hd ht (fun _ => kt h H locs ls hH hS hz hl) (fun h9 => absurd (by rw [hc]) h9)
  · exact lv_acmp_eq (rx := some (wadW (xw X) x)) (ry := some (wadW (xw X) y)) hX.1 hX.2.1 hd ht (fun h9 => absurd (hi x y hxy.1 hxy.2 (Option.some.inj h9)) hc) (fun _ => kf h H locs ls hH hS hz hl)
theorem K_acmp_ne {x y : Nat} {off : Int} {tgt : Nat} {a b : Option α} (hX : gd X cc nL own ret) (hw : isX (xw X)) (hd : decode cc pc = .ok (.if_acmp .ne off, 3)) (ht : (pc : Int) + off = (tgt : Int)) (h : chk (decide (x < 42 ∧ y < 42)) (brc (¬ x = y) a b) = some res) (kt : a = some res → Jd X nL tgt lv rest σ) (kf : b = some res → Jd X nL (pc + 3) lv rest σ) : Jd X nL pc lv (.ref (wadW (xw X) y) :: .ref (wadW (xw X) x) :: rest) σ := by
  have hxy := of_decide_eq_true (chk_some h).1
  have hi := (X_sx hX hw).2.1
  intro H locs ls hH hS hz hl
  rcases brc_some (chk_some h).2 with ⟨hc, h⟩ | ⟨hc, h⟩
  · exact lv_acmp_ne (rx := some (wadW (xw X) x)) (ry := some (wadW (xw X) y)) hX.1 hX.2.1 hd ht (fun _ => kt h H locs ls hH hS hz hl) (fun h9 => absurd (hi x y hxy.1 hxy.2 (Option.some.inj h9)) hc)
  · exact lv_acmp_ne (rx := some (wadW (xw X) x)) (ry := some (wadW (xw X) y)) hX.1 hX.2.1 hd ht (fun h9 => absurd (by rw [Decidable.not_not.mp hc]) h9) (fun _ => kf h H locs ls hH hS hz hl)
theorem K_putw {i ci N k idx t d : Nat} {fk : Nat → Nat × Nat} {C E : String} {T : u_T} {ty : Nat → FieldType} {f : St → Option α} (hX : gd X cc nL own ret) (hq : isC (xw X) i (.inr (ci, N, fk))) (hc : clsOK ci C T N ty) (hk : k < N) (hlink : Cond.fieldLink own idx (T k).1 (T k).2.1 (T k).2.2.1 ∈ U0) (hf : fk k = (3, t)) (hfin : (T k).2.2.2 = false) (hty : ty k = .object E) (hd : decode cc pc = .ok (.putfield idx, 3)) (h : nm (setP σ i k d) f = some res) (kk : ∀ τ : St, f τ = some res → Jd X nL (pc + 3) lv rest τ) : Jd X nL pc lv (.ref (wadW (xw X) d) :: .ref (wad (xw X) i) :: rest) σ :=
  J_putr (d := d) hX hq hc hk hlink (by rw [hf]; simp [fvl, setP]) hfin (by rw [hty]; exact ⟨rfl, rfl⟩) hd (kk _ h)
theorem K_putp {i ci N k idx t d : Nat} {fk : Nat → Nat × Nat} {C : String} {T : u_T} {ty : Nat → FieldType} {f : St → Option α} (hX : gd X cc nL own ret) (hq : isC (xw X) i (.inr (ci, N, fk))) (hc : clsOK ci C T N ty) (hk : k < N) (hlink : Cond.fieldLink own idx (T k).1 (T k).2.1 (T k).2.2.1 ∈ U0) (hf : fk k = (4, t)) (hfin : (T k).2.2.2 = false) (hty : ty k = .array .int) (hd : decode cc pc = .ok (.putfield idx, 3)) (h : nm (setP σ i k d) f = some res) (kk : ∀ τ : St, f τ = some res → Jd X nL (pc + 3) lv rest τ) : Jd X nL pc lv (.ref (lawad (xw X) σ d) :: .ref (wad (xw X) i) :: rest) σ :=
  J_putr (d := d) hX hq hc hk hlink (by rw [hf]; simp [fvl, setP, lawad]) hfin (by rw [hty]; exact ⟨rfl, rfl⟩) hd (kk _ h)
theorem wal_dyn {w : WT} {σ : St} {k : Nat} (h : k < Kn σ) : (wal w σ)[w.1.1 + k]? = some ((σ.2.2.2.getD k (0, [])).1, .inl (wcT w 0, (σ.2.2.2.getD k (0, [])).2.length, .inl (fun j => (σ.2.2.2.getD k (0, [])).2.getD j 0))) := by
  have e : w.1.1 + k - (wws w σ).length = k := by rw [wws_len]; omega
  rw [List.getElem?_append_right (by rw [wws_len]; omega), e]
  unfold wdy
  rw [List.getElem?_map, List.getElem?_eq_getElem h]
  simp [List.getD, List.getElem?_eq_getElem h]
theorem K_lawld {d : Nat} {j : Int32} {a : Option α} (hX : gd X cc nL own ret) (hw : isX (xw X)) (hd : decode cc pc = .ok (.iaload, 1)) (h : chk (lawok σ d) (chk (ib j (lawc σ d).length) a) = some res) (kk : a = some res → Jd X nL (pc + 1) lv (.int ((lawc σ d).getD j.toNatClampNeg 0) :: rest) σ) : Jd X nL pc lv (.int j :: .ref (lawad (xw X) σ d) :: rest) σ := by
  have h1 := of_decide_eq_true (chk_some h).1
  have h2 := ib_in (chk_some (chk_some h).2).1
  have h3 := kk (chk_some (chk_some h).2).2
  intro H locs ls hH hS hz hl
  have h0 : ∀ n, vp_in j 1 → ([n] : List Int32).getD j.toNatClampNeg 0 = n := by
    intro n hj
    have : j.toNatClampNeg = 0 := by have := (not_or.mp hj).2; omega
    rw [this]; rfl
  match d, h1, h2, h3 with
  | 0, _, h2, h3 =>
    rw [show (lawc σ 0).getD j.toNatClampNeg 0 = 10000 from h0 10000 h2] at h3
    exact va_ti hX.1 hX.2.1 (X_sx hX hw).2.2.2.2.2.1 hS h2 rfl hd (h3 H locs ls hH hS hz hl)
  | 1, _, h2, h3 =>
    rw [show (lawc σ 1).getD j.toNatClampNeg 0 = 1 from h0 1 h2] at h3
    exact va_ti hX.1 hX.2.1 (X_sx hX hw).2.2.2.2.2.2.2.1 hS h2 rfl hd (h3 H locs ls hH hS hz hl)
  | k + 2, h1, h2, h3 =>
    exact va_iald hX.1 hX.2.1 hX.2.2.2.2.2.2.1 hH.1 ((xw X).1.1 + k) 0 (wal_dyn (by omega)) rfl h2 hd (h3 H locs ls hH hS hz hl)
theorem K_lawlen {d : Nat} {a : Option α} (hX : gd X cc nL own ret) (hw : isX (xw X)) (hd : decode cc pc = .ok (.arraylength, 1)) (h : chk (lawok σ d) a = some res) (kk : a = some res → Jd X nL (pc + 1) lv (.int (nI (lawc σ d).length) :: rest) σ) : Jd X nL pc lv (.ref (lawad (xw X) σ d) :: rest) σ := by
  have h1 := of_decide_eq_true (chk_some h).1
  have h3 := kk (chk_some h).2
  intro H locs ls hH hS hz hl
  match d, h1, h3 with
  | 0, _, h3 => exact va_tlen hX.1 hX.2.1 (X_sx hX hw).2.2.2.2.2.1 hS rfl hd (h3 H locs ls hH hS hz hl)
  | 1, _, h3 => exact va_tlen hX.1 hX.2.1 (X_sx hX hw).2.2.2.2.2.2.2.1 hS rfl hd (h3 H locs ls hH hS hz hl)
  | k + 2, h1, h3 => exact va_alen hX.1 hX.2.1 hX.2.2.2.2.2.2.1 hH.1 ((xw X).1.1 + k) 0 (wal_dyn (by omega)) rfl rfl hd (h3 H locs ls hH hS hz hl)
/-- a store while a law's row is held in a local -/
theorem KL_iast {i n : Nat} {j : Int32} {x : Int32} {f : St → Option α} (lvf : St → List (Nat × Value)) (hl0 : lv = lvf σ) (hlf : ∀ τ : St, τ.2.2.2 = σ.2.2.2 → lvf τ = lvf σ) (hX : gd X cc nL own ret) (hq : isC (xw X) i (.inl (0, n))) (hd : decode cc pc = .ok (.iastore, 1)) (h : chk (ib j n) (nm (setI σ i j.toNatClampNeg x) f) = some res) (kk : ∀ τ : St, f τ = some res → Jd X nL (pc + 1) (lvf τ) rest τ) : Jd X nL pc lv (.int x :: .int j :: .ref (wad (xw X) i) :: rest) σ := by
  refine J_iast hX hq (ib_in (chk_some h).1) hd ?_
  rw [hl0, ← hlf (setI σ i j.toNatClampNeg x) rfl]
  exact kk _ (chk_some h).2
theorem K_mkald {i : Nat} {j : Int32} {a : Option α} (hX : gd X cc nL own ret) (hw : isX (xw X)) (hq : isC (xw X) i (.inl (4, 4))) (hd : decode cc pc = .ok (.aaload, 1)) (h : chk (ib j 4) a = some res) (kk : a = some res → Jd X nL (pc + 1) lv (.ref (wad (xw X) (61 + 9 * j.toNatClampNeg)) :: rest) σ) : Jd X nL pc lv (.int j :: .ref (wad (xw X) i) :: rest) σ := by
  refine K_aald hX hq hd h (fun h => ?_)
  have e : (xw X).1.2.2 = xLy.2.2 := by rcases hw.1 with e | e <;> rw [e] <;> rfl
  rw [e]
  exact kk h
theorem mk_of {j : Int32} (h : ib j 4 = true) : isMk (61 + 9 * j.toNatClampNeg) := by
  have := (not_or.mp (ib_in h)).2
  have h2 : j.toNatClampNeg = 0 ∨ j.toNatClampNeg = 1 ∨ j.toNatClampNeg = 2 ∨ j.toNatClampNeg = 3 := by omega
  unfold isMk
  omega
theorem K_copy {i0 i1 n0 n1 idx F Lo : Nat} {sp dp n : Int32} {f : St → Option α} (hX : gd X cc nL own ret) (hR : xR X = rmOf F Lo 0 0) (hq0 : isC (xw X) i0 (.inl (0, n0))) (hq1 : isC (xw X) i1 (.inl (0, n1))) (hl : Cond.methodLink own idx arraycopyName ∈ U0 ∧ Cond.native arraycopyName ∈ U0 ∧ Cond.static arraycopyName ∈ U0 ∧ Cond.initialized "java/lang/System" ∈ U0) (hr : 1 ≤ F ∧ 26 ≤ Lo) (hW : (rest.map fun v => v.category).sum ≤ 8) (hd : decode cc pc = .ok (.invokestatic idx, 3))
    (h : chk (cpb sp dp n n0 n1) (nm (setR σ i1 (va_cpy (σ.1 i0) (σ.1 i1) sp.toNatClampNeg dp.toNatClampNeg n.toNatClampNeg)) f) = some res) (kk : ∀ τ : St, f τ = some res → Jd X nL (pc + 3) lv rest τ) : Jd X nL pc lv (.int n :: .int dp :: .ref (wad (xw X) i1) :: .int sp :: .ref (wad (xw X) i0) :: rest) σ := by
  have hb := of_decide_eq_true (chk_some h).1
  intro H locs ls hH hS hz hlv
  have hu := hX.2.2.2.2.1
  have nn : ∀ z : Int32, 0 ≤ z.toInt → ¬ z < 0 ∧ z.toInt = (z.toNatClampNeg : Int) := by
    intro z hz
    refine ⟨fun hlt => ?_, ?_⟩
    · have := Int32.lt_iff_toInt_lt.mp hlt
      have e : (0 : Int32).toInt = 0 := rfl
      omega
    · show z.toInt = ((z.toInt.toNat : Nat) : Int)
      omega
  obtain ⟨a1, e1⟩ := nn sp hb.1
  obtain ⟨a2, e2⟩ := nn dp hb.2.1
  obtain ⟨a3, e3⟩ := nn n hb.2.2.1
  have he0 := wal_get (w := xw X) σ hq0.1
  rw [cel_arr hq0.2] at he0
  have he1 := wal_get (w := xw X) σ hq1.1
  rw [cel_arr hq1.2] at he1
  refine va_copyi hX.1 hX.2.1 (hX.2.2.1.trans hlv.1.symm) hX.2.2.2.1 (hu _ hl.1) (hu _ hl.2.1) (hu _ hl.2.2.1) (hu _ hl.2.2.2) hX.2.2.2.2.2.2.1 hH.1 hH.2 (va_S_hh hS) i0 i1 0 0 he0 he1 rfl rfl rfl a1 a2 a3 (by omega) (by omega) (fun _ _ => rfl) (by rw [hR]; exact hr.1) (by rw [hR]; show _ ≤ Lo; have e : nativeFrameWords "java/lang/System" "arraycopy" 5 = 7 := rfl; omega) hd (fun H1 locs1 hP1 hD1 hS1 => ?_)
  have e := wal_set (w := xw X) (σ := σ) (τ := setR σ i1 (va_cpy (σ.1 i0) (σ.1 i1) sp.toNatClampNeg dp.toNatClampNeg n.toNatClampNeg)) (e := .inl (wcT (xw X) 0, n1, .inl (va_cpy (σ.1 i0) (σ.1 i1) sp.toNatClampNeg dp.toNatClampNeg n.toNatClampNeg))) hq1.1 (by rw [cel_arr hq1.2]; show (Sum.inl (_, _, Sum.inl ((setR σ i1 _).1 i1)) : va_E) = _; rw [setR_same]) (fun k hk => cel_setR_ne σ _ hk) rfl
  rw [e] at hP1 hD1
  intro T hT XX
  have hup := stand_le XX
  rw [hT] at hup
  have hlo := hS1.1
  exact kk _ (chk_some h).2 H1 locs1 ls ⟨hP1, hD1⟩ (va_S_tr hS hS1) (Nat.le_antisymm hup (by rw [hz] at hlo; exact hlo)) hlv T hT XX
theorem K_lmax {x y : Int64} {idx F Lo : Nat} (hX : gd X cc nL own ret) (hR : xR X = rmOf F Lo 0 0) (hg : nA X) (hl : Cond.methodLink own idx Lib.MathLoose.max_long.x ∈ U0 ∧ Cond.static Lib.MathLoose.max_long.x ∈ U0 ∧ Cond.initialized "java/lang/Math" ∈ U0 ∧ Cond.code Lib.MathLoose.max_long.x Lib.MathLoose.max_long.code 4 (some .long) ∈ U0) (hr : 1 ≤ F ∧ 23 ≤ Lo) (hW : (rest.map fun v => v.category).sum ≤ 8) (hd : decode cc pc = .ok (.invokestatic idx, 3)) (kk : Jd X nL (pc + 3) lv (.long (if y < x then x else y) :: rest) σ) : Jd X nL pc lv (.long y :: .long x :: rest) σ := by
  intro H locs ls hH hS hz hlv
  have hu := hX.2.2.2.2.1
  exact va_mmax_long hX.1 hX.2.1 (hX.2.2.1.trans hlv.1.symm) hX.2.2.2.1 (hu _ hl.1) (hu _ hl.2.1) (hu _ hl.2.2.1) (hu _ hl.2.2.2) (by rw [hR]; exact hr.1) (by rw [hR]; show _ ≤ Lo; omega) (by rw [hg, hR]; exact Nat.le_refl 0) (by rw [hg, hR]; exact Nat.le_refl 0) hd (kk H locs ls hH hS hz hlv)
theorem K_lmin {x y : Int64} {idx F Lo : Nat} (hX : gd X cc nL own ret) (hR : xR X = rmOf F Lo 0 0) (hg : nA X) (hl : Cond.methodLink own idx Lib.MathLoose.min_long.x ∈ U0 ∧ Cond.static Lib.MathLoose.min_long.x ∈ U0 ∧ Cond.initialized "java/lang/Math" ∈ U0 ∧ Cond.code Lib.MathLoose.min_long.x Lib.MathLoose.min_long.code 4 (some .long) ∈ U0) (hr : 1 ≤ F ∧ 23 ≤ Lo) (hW : (rest.map fun v => v.category).sum ≤ 8) (hd : decode cc pc = .ok (.invokestatic idx, 3)) (kk : Jd X nL (pc + 3) lv (.long (if y < x then y else x) :: rest) σ) : Jd X nL pc lv (.long y :: .long x :: rest) σ := by
  intro H locs ls hH hS hz hlv
  have hu := hX.2.2.2.2.1
  exact va_mmin_long hX.1 hX.2.1 (hX.2.2.1.trans hlv.1.symm) hX.2.2.2.1 (hu _ hl.1) (hu _ hl.2.1) (hu _ hl.2.2.1) (hu _ hl.2.2.2) (by rw [hR]; exact hr.1) (by rw [hR]; show _ ≤ Lo; omega) (by rw [hg, hR]; exact Nat.le_refl 0) (by rw [hg, hR]; exact Nat.le_refl 0) hd (kk H locs ls hH hS hz hlv)
theorem K_rret {v r : Nat} {τ : St} {E : String} (hX : gd X cc nL own (some (.object E))) (hr : xr X = (some (.ref (wadW (xw X) r)), τ)) (hd : decode cc pc = .ok (.areturn, 1)) (h : some (v, σ) = some (r, τ)) : Jd X nL pc lv [.ref (wadW (xw X) v)] σ := by
  cases h
  intro H locs ls hH hS hz hl
  have hg := hX.2.2.2.2.2.2.2.2.2.2.2
  refine W_imp hg.2.2 ?_
  rw [hr] at hg
  refine W.widen hg.1.1 hg.2.1 ?_
  exact W.aret hX.1 hX.2.1 hX.2.2.2.2.2.2.2.2.2.2.1 (Or.inl ⟨_, rfl⟩) (Or.inr ⟨_, rfl⟩) (fun t ht hW => ⟨by rw [hr], by rw [hr]; exact Wd_of hX hH hS ht hW, hS.F ht, fun hq => by rw [ht, hz, ← hg.1.2 hq]⟩) hS.2.2 hd (hlocks := hX.2.2.2.2.2.2.2.2.2.1)
theorem K_cret {v r : Int32} {τ : St} (hX : gd X cc nL own (some .char)) (hr : xr X = (some (.int r), τ)) (hd : decode cc pc = .ok (.ireturn, 1)) (h : chk (decide (v = (v.toUInt32 % 65536).toInt32)) (some (v, σ)) = some (r, τ)) : Jd X nL pc lv [.int v] σ := by
  have hv := of_decide_eq_true (chk_some h).1
  cases (chk_some h).2
  intro H locs ls hH hS hz hl
  have hg := hX.2.2.2.2.2.2.2.2.2.2.2
  refine W_imp hg.2.2 ?_
  rw [hr] at hg
  refine W.widen hg.1.1 hg.2.1 ?_
  exact W.zret hX.1 hX.2.1 hX.2.2.2.2.2.2.2.2.2.2.1 (by rw [hv]; exact pk_nc _) (fun t ht hW => ⟨by rw [hr], by rw [hr]; exact Wd_of hX hH hS ht hW, hS.F ht, fun hq => by rw [ht, hz, ← hg.1.2 hq]⟩) hS.2.2 hd (hlocks := hX.2.2.2.2.2.2.2.2.2.1)
theorem K_bret {v r : Int32} {τ : St} (hX : gd X cc nL own (some .byte)) (hr : xr X = (some (.int r), τ)) (hd : decode cc pc = .ok (.ireturn, 1)) (h : chk (decide (v = 0 ∨ v = 1)) (some (v, σ)) = some (r, τ)) : Jd X nL pc lv [.int v] σ := by
  have hv := of_decide_eq_true (chk_some h).1
  cases (chk_some h).2
  intro H locs ls hH hS hz hl
  have hg := hX.2.2.2.2.2.2.2.2.2.2.2
  refine W_imp hg.2.2 ?_
  rw [hr] at hg
  refine W.widen hg.1.1 hg.2.1 ?_
  exact W.zret hX.1 hX.2.1 hX.2.2.2.2.2.2.2.2.2.2.1 (by rcases hv with rfl | rfl <;> rfl) (fun t ht hW => ⟨by rw [hr], by rw [hr]; exact Wd_of hX hH hS ht hW, hS.F ht, fun hq => by rw [ht, hz, ← hg.1.2 hq]⟩) hS.2.2 hd (hlocks := hX.2.2.2.2.2.2.2.2.2.1)
theorem J_i2c {x : Int32} (hX : gd X cc nL own ret) (hd : decode cc pc = .ok (.i2c, 1)) (kk : Jd X nL (pc + 1) lv (.int (x.toUInt32 % 65536).toInt32 :: rest) σ) : Jd X nL pc lv (.int x :: rest) σ := fun H locs ls hH hS hz hl => lv_i2c hX.1 hX.2.1 hd rfl (kk H locs ls hH hS hz hl)
/-- a call of a text's method, or a constant's: the receiver is no cell of ours -/
theorem K_callW {y : MethodName} {bytes : ByteArray} {maxL f lo idx n F Lo o : Nat} {rt : Option FieldType} (As : List Value) {r : Option Value} {τ : St} (hX : gd X cc nL own ret) (hg : nA X) (hR : xR X = rmOf F Lo 0 0) (hO : va_O y.cls (wadW (xw X) o) (wReg (xw X)) (xs X) (xs X).heap) (hC : Ct y bytes maxL rt f lo (xw X) (.ref (wadW (xw X) o) :: As) σ r τ 0 0) (hlk : lkV own idx y bytes maxL rt) (hy : mdOK y n)
    (hr : f + 1 ≤ F ∧ 8 + (maxL + 11) + lo ≤ Lo) (hn : As.length = n) (hst : st0 = As.reverse ++ .ref (wadW (xw X) o) :: rest) (hW : (rest.map fun v => v.category).sum ≤ 8) (hd : decode cc pc = .ok (.invokevirtual idx, 3))
    (kk : Jd X nL (pc + 3) lv (r.toList ++ rest) τ) : Jd X nL pc lv st0 σ := by
  subst hst
  have hr' : f + 1 ≤ (xR X).frames ∧ 8 + (maxL + 11) + lo ≤ (xR X).locals := by rw [hR]; exact hr
  refine J_run (mc := 0) (ms := 0) (a := (.ref (wadW (xw X) o) :: As : List Value).toArray) (fun H locs ls hH hS hz hl => ?_) (by rw [hg]; exact ⟨rfl, Nat.le_refl _⟩) kk
  have hX' := hX
  obtain ⟨hx, hb, hml, ho, hu, -, hK, -⟩ := hX'
  obtain ⟨cell, c1, c2, c3, c4⟩ := hO.kept hS.2.1
  exact va_runV (As := As) (rest := rest) ⟨hx, hb, hml, ho, hu⟩ (hC (xl X)) (cwV n hu (goodIn_U0 hlk) rfl rfl rfl ⟨rfl, hy⟩ hr') ⟨Wd_blind, ⟨cell, c1, c2, c3⟩, fun U hU hWm => ⟨rfl, Wd_of hX hH hS hU hWm⟩⟩ rfl hn hl.1 rfl (lv_room hW) hd (by rw [hg]; exact ⟨Nat.zero_le _, Nat.zero_le _⟩)
theorem X_oW (hX : gd X cc nL own ret) (hw : isX (xw X)) {o : Nat} (h : o < 42) : va_O "SkinCarriers$Word" (wadW (xw X) o) (wReg (xw X)) (xs X) (xs X).heap := ((X_sx hX hw).1 o h).2.1
theorem X_oS (hX : gd X cc nL own ret) (hw : isX (xw X)) {o : Nat} (h : 100 ≤ o ∧ o < 142) : va_O "java/lang/String" (wadW (xw X) o) (wReg (xw X)) (xs X) (xs X).heap := by
  obtain ⟨k, rfl⟩ : ∃ k, o = 100 + k := ⟨o - 100, by omega⟩
  exact ((X_sx hX hw).1 k (by omega)).2.2.2.2.2.1
end KX
