theorem lk_L_7_X11_carrier : lkV RL 7 yX11_carrier cX11_carrier 3 (some .int) := lkV_of uw_5_153 uw_5_154 uw_5_155 uw_1_1 uw_5_156
theorem lk_L_15_X11_debt : lkV RL 15 yX11_debt cX11_debt 2 (some .int) := lkV_of uw_5_226 uw_5_227 uw_5_228 uw_1_1 uw_5_229
theorem md_X11_carrier : mdOK yX11_carrier 2 := by unfold mdOK; decide +kernel
theorem md_X11_debt : mdOK yX11_debt 1 := by unfold mdOK; decide +kernel
/-! the law's own carrier and debt: a call that may throw, caught -/
def CtW (y : MethodName) (cc : ByteArray) (nL : Nat) (ret : Option FieldType) (hh : List (Nat × Nat × Nat × Nat)) (f lo : Nat) (w : WT) (avs : List Value) (σ : St) (r : Option Value) (τ : St) : Prop :=
  ∀ l : Launch, l.stackTraces = false → Met l y (.codeWith y cc nL ret hh :: U0) (rmOf f lo 1 6) (va_Pc avs (fun s => Wd w σ s)) (QcW w r τ 1 false) 1 6 (wReg w)
theorem CtW_intro {y : MethodName} {cc : ByteArray} {nL : Nat} {ret : Option FieldType} {hh : List (Nat × Nat × Nat × Nat)} {f lo : Nat} {w : WT} {avs : List Value} {σ τ : St} {r : Option Value} (hy : plainName y.cls = true) (hlen : (lg_sl avs).length ≤ nL)
    (body : ∀ X : CX, gd X cc nL y.cls ret → xR X = rmOf f lo 1 6 → xw X = w → nA X → xr X = (r, τ) → (xl X).stackTraces = false → (xc X).exceptionTable.toList = tableOf hh → xk X = (1, 6, false) → Jd X nL 0 (lv_args 0 avs) [] σ) : CtW y cc nL ret hh f lo w avs σ r τ := by
  intro l hl0
  refine va_MetW (cc := cc) (maxL := nL) (ret := ret) (hh := hh) hy rfl ?_
  intro p e s m args below meth c s₁ B hml hv
  obtain ⟨rfl, hW⟩ := hv
  have hts := atoms_spec (ws := .codeWith y cc nL ret hh :: U0) B.pre
  have hX : gd (p, l, e, rmOf f lo 1 6, s, m, avs.toArray, below, meth, c, w, fun _ => (0, 0), (r, τ), (1, 6, false), MQ below (QcW w r τ 1 false) avs.toArray s 1 6 (wReg w)) cc nL y.cls ret :=
    ⟨B.exec, B.bytes, hml, findClass_of_methodNamed B.named, fun w hw => hts w (List.mem_cons_of_mem _ hw), hW.1, hW.2.1, hW.2.2.1, hW.2.2.2.1, B.notSynchronized, B.returns, ⟨Nat.zero_le _, fun h => nomatch h⟩, Nat.zero_le _, fun _ h => h⟩
  have h := body _ hX rfl rfl rfl rfl hl0 (vx_table (x := y) B (hts _ List.mem_cons_self)) rfl s.heap [] _ hW.2.2.2.2 va_S.rf (by show s.heap.size = s.heap.size + 0; rfl) (lv_entry avs hlen)
  rw [lg_entry_eq]
  exact h
section TC
variable {X : CX} {cc : ByteArray} {nL : Nat} {own : String} {ret : Option FieldType} {pc : Nat} {lv : List (Nat × Value)} {rest st0 : List Value} {σ : St}
theorem J_callT {y : MethodName} {bytes : ByteArray} {maxL f lo idx n i ci N F Lo : Nat} {rt : Option FieldType} {fk : Nat → Nat × Nat} {T : u_T} {ty : Nat → FieldType} (As : List Value) {τ : St} (hX : gd X cc nL own ret) (hg : nA X) (hR : xR X = rmOf F Lo 1 6) (hl0 : (xl X).stackTraces = false) (hC : CtT y bytes maxL rt f lo (xw X) (.ref (wad (xw X) i) :: As) σ τ) (hlk : lkV own idx y bytes maxL rt) (hy : mdOK y n) (hq : isC (xw X) i (.inr (ci, N, fk))) (hc : clsOK ci y.cls T N ty)
    (hr : f + 1 ≤ F ∧ 8 + (maxL + 11) + lo ≤ Lo) (hn : As.length = n) (hst : st0 = As.reverse ++ .ref (wad (xw X) i) :: rest) (hW : (rest.map fun v => v.category).sum ≤ 8) (hd : decode cc pc = .ok (.invokevirtual idx, 3))
    (x : ExceptionTableEntry) (htab : (xc X).exceptionTable.toList = [] ++ x :: []) (hcov : covers x pc = true) (h0 : x.catchType ≠ 0) (hlink : Cond.classLink own x.catchType xNS ∈ U0) (hcast : va_Nw (.castable xNS xNS) (xs X))
    (kk : ∀ (H1 : Heap) (locs1 : List Loc) (ls : Array Slot) (q : Nat), Hw (xw X) τ H1 → va_S (wReg (xw X)) (xs X).heap H1 locs1 → lv_has ls nL lv → W (xp X) (xl X) (xe X) (xR X) (xs X) (xm X) (xa X) (xb X) (xme X) (xc X) H1 locs1 1 6 (xQ X) (F0 (xm X) x.handlerPc ls [.ref q])) : Jd X nL pc lv st0 σ := by
  subst hst
  intro H locs ls hH hS hz hl TT hT XX
  have hX' := hX
  obtain ⟨hx, hb, hml, ho, hu, -, hK, -⟩ := hX'
  have he := wal_get (w := xw X) σ hq.1
  rw [cel_obj hq.2] at he
  have e1 : ((xg X) (Kn σ)).1 = 0 := by rw [hg]
  have e2 : ((xg X) (Kn σ)).2 = 0 := by rw [hg]
  rw [e1, e2] at XX
  have hrun : vx_Run (xp X) (xl X) (xe X) (xR X) (xs X) (xm X) (xa X) (xb X) (xme X) (xc X) H locs 0 0 1 6 (F0 (xm X) pc ls (As.reverse ++ .ref (wad (xw X) i) :: rest)) rest (fun _ _ _ => False) (XT (xw X) τ) (wReg (xw X)) :=
    vx_runV (As := As) (rest := rest) ⟨hx, hb, hml, ho, hu⟩ (hC (xl X) hl0) (cwV n hu (goodIn_U0 hlk) rfl rfl rfl ⟨rfl, hy⟩ (by rw [hR]; exact hr)) ⟨Wd_blind, va_recv hK hH.1 (ci := ci) (q0 := i) hc.1 he, fun U hU hWm => ⟨rfl, Wd_of hX hH hS hU hWm⟩⟩ rfl hn hl.1 rfl (lv_room hW) hd (by rw [hR]; exact ⟨Nat.le_refl _, Nat.le_refl _⟩)
  rcases hrun TT hT XX with ⟨v, st₀, t, T', L, -, -, -, -, -, hq, -⟩ | ⟨q, st₀, t, T', L, E, ce, h9, X', hL, e1, e2, hq, hce, hcv, hcl, st⟩
  · exact hq.elim
  · obtain ⟨rfl, hWd, hz1, hk1⟩ := hq
    rw [h9] at hz1 hk1
    have hS1 : va_S (wReg (xw X)) (xs X).heap T'.heap (locs ++ L) :=
      ⟨Nat.le_trans hS.1 (by rw [e1]; exact hz1), fun q h1 h2 => by rw [e1, hk1 q (Nat.lt_of_lt_of_le h1 hS.1) h2]; exact hS.2.1 q h1 h2, fun q hq => by
        rcases List.mem_append.mp hq with h | h
        · exact hS.2.2 q h
        · exact hL q h⟩
    have hW1 := vx_catch (pc := pc) (ls := ls) (rest := rest) (E := xNS) (q := q) ho [] x [] htab (fun z hz => nomatch hz) hcov h0 (hu _ hlink) (va_Nw.use rfl hcast) (H := T'.heap) (by rw [e1]; exact hce) hcv hcl (kk T'.heap (locs ++ L) ls q (by rw [e1]; exact hWd.2.2.2.2) hS1 hl)
    obtain ⟨t2, a1, b1⟩ := hW1 T' rfl X'
    exact ⟨t2, st.trans a1, b1⟩
end TC
set_option maxRecDepth 100000 in
theorem ctL_carrier_R {w : WT} (hw : isX w) (ho : w.1 = xLyO) {v1 : Int32} {v2 : Int32} {σ τ : St} {r : Int32} (h : rX_carrier v1 v2 σ = some (r, τ)) : CtW yL_carrier cL_carrier 5 (some .int) [((0 : Nat), (10 : Nat), (13 : Nat), (13 : Nat))] 7 123 w [.ref (wad w 0), .int v1, .int v2, .ref (wad w 97)] σ (some (.int 0)) (setJ τ 97 0 r.toInt64) := by
  refine CtW_intro (by decide) (Nat.le_of_ble_eq_true rfl) (fun X hX hR hwX hg hr hl0 htab hk => ?_)
  subst hwX
  show Jd X 5 0 [(0, .ref (wad (xw X) 0)), (1, .int v1), (2, .int v2), (3, .ref (wad (xw X) 97))] [] σ
  refine J_aload_n (q := 3) hX dL_carrier_0 rfl rfl ?_
  refine J_iconst (v := 0) hX dL_carrier_1 (by decide) ?_
  refine J_aload_n (q := 0) hX dL_carrier_2 rfl rfl ?_
  refine J_iload_n (q := 1) hX dL_carrier_3 rfl rfl ?_
  refine J_iload_n (q := 2) hX dL_carrier_4 rfl rfl ?_
  refine K_callVT [.int v1, .int v2] hX hg hR (ctX_carrier hw h) lk_L_7_X11_carrier md_X11_carrier (xc_0 hw) cls_X11 ⟨by decide, by decide⟩ rfl rfl (Nat.le_of_ble_eq_true rfl) dL_carrier_5 ?_
  refine J_i2l hX dL_carrier_8 ?_
  refine J_last hX (xc_97 ho) (pk_in 0 1 (by decide) rfl) dL_carrier_9 ?_
  refine J_goto (tgt := 17) hX dL_carrier_10 rfl ?_
  refine J_iconst (v := 0) hX dL_carrier_17 (by decide) ?_
  exact J_iret hX hr dL_carrier_18
set_option maxRecDepth 100000 in
theorem ctL_carrier_T {w : WT} (hw : isX w) (ho : w.1 = xLyO) {v1 : Int32} {v2 : Int32} {σ τ : St} (h : rX_carrierT v1 v2 σ = some τ) : CtW yL_carrier cL_carrier 5 (some .int) [((0 : Nat), (10 : Nat), (13 : Nat), (13 : Nat))] 7 123 w [.ref (wad w 0), .int v1, .int v2, .ref (wad w 97)] σ (some (.int 1)) τ := by
  refine CtW_intro (by decide) (Nat.le_of_ble_eq_true rfl) (fun X hX hR hwX hg hr hl0 htab hk => ?_)
  subst hwX
  show Jd X 5 0 [(0, .ref (wad (xw X) 0)), (1, .int v1), (2, .int v2), (3, .ref (wad (xw X) 97))] [] σ
  refine J_aload_n (q := 3) hX dL_carrier_0 rfl rfl ?_
  refine J_iconst (v := 0) hX dL_carrier_1 (by decide) ?_
  refine J_aload_n (q := 0) hX dL_carrier_2 rfl rfl ?_
  refine J_iload_n (q := 1) hX dL_carrier_3 rfl rfl ?_
  refine J_iload_n (q := 2) hX dL_carrier_4 rfl rfl ?_
  refine J_callT [.int v1, .int v2] hX hg hR hl0 (ctX_carrierT hw h) lk_L_7_X11_carrier md_X11_carrier (xc_0 hw) cls_X11 ⟨by decide, by decide⟩ rfl rfl (Nat.le_of_ble_eq_true rfl) dL_carrier_5 ⟨0, 10, 13, 13⟩ htab rfl (by decide) uw_5_152 (X_sx hX hw).2.2.2.2.2.2.2.2.2.2.2.2.2.2.1 (fun H1 locs1 ls q hH hS hl => ?_)
  refine lv_astore hX.1 hX.2.1 dL_carrier_13 hl (by decide) rfl (fun ls1 _ => ?_)
  refine lv_iconst (v := 1) hX.1 hX.2.1 dL_carrier_15 (by decide) ?_
  have hgg := hX.2.2.2.2.2.2.2.2.2.2.2
  refine W_imp hgg.2.2 ?_
  rw [hk, hr]
  exact W.iret hX.1 hX.2.1 hX.2.2.2.2.2.2.2.2.2.2.1 (fun t ht hW => ⟨rfl, Wd_of hX hH hS ht hW, hS.F ht, fun hq => nomatch hq⟩) hS.2.2 dL_carrier_16 (hlocks := hX.2.2.2.2.2.2.2.2.2.1)
set_option maxRecDepth 100000 in
theorem ctL_debt_R {w : WT} (hw : isX w) (ho : w.1 = xLyO) {v1 : Int32} {σ τ : St} {r : Int32} (h : rX_debt v1 σ = some (r, τ)) : CtW yL_debt cL_debt 4 (some .int) [((0 : Nat), (9 : Nat), (12 : Nat), (13 : Nat))] 7 122 w [.ref (wad w 0), .int v1, .ref (wad w 97)] σ (some (.int 0)) (setJ τ 97 0 r.toInt64) := by
  refine CtW_intro (by decide) (Nat.le_of_ble_eq_true rfl) (fun X hX hR hwX hg hr hl0 htab hk => ?_)
  subst hwX
  show Jd X 4 0 [(0, .ref (wad (xw X) 0)), (1, .int v1), (2, .ref (wad (xw X) 97))] [] σ
  refine J_aload_n (q := 2) hX dL_debt_0 rfl rfl ?_
  refine J_iconst (v := 0) hX dL_debt_1 (by decide) ?_
  refine J_aload_n (q := 0) hX dL_debt_2 rfl rfl ?_
  refine J_iload_n (q := 1) hX dL_debt_3 rfl rfl ?_
  refine K_callVT [.int v1] hX hg hR (ctX_debt hw h) lk_L_15_X11_debt md_X11_debt (xc_0 hw) cls_X11 ⟨by decide, by decide⟩ rfl rfl (Nat.le_of_ble_eq_true rfl) dL_debt_4 ?_
  refine J_i2l hX dL_debt_7 ?_
  refine J_last hX (xc_97 ho) (pk_in 0 1 (by decide) rfl) dL_debt_8 ?_
  refine J_goto (tgt := 15) hX dL_debt_9 rfl ?_
  refine J_iconst (v := 0) hX dL_debt_15 (by decide) ?_
  exact J_iret hX hr dL_debt_16
set_option maxRecDepth 100000 in
theorem ctL_debt_T {w : WT} (hw : isX w) (ho : w.1 = xLyO) {v1 : Int32} {σ τ : St} (h : rX_debtT v1 σ = some τ) : CtW yL_debt cL_debt 4 (some .int) [((0 : Nat), (9 : Nat), (12 : Nat), (13 : Nat))] 7 122 w [.ref (wad w 0), .int v1, .ref (wad w 97)] σ (some (.int 1)) τ := by
  refine CtW_intro (by decide) (Nat.le_of_ble_eq_true rfl) (fun X hX hR hwX hg hr hl0 htab hk => ?_)
  subst hwX
  show Jd X 4 0 [(0, .ref (wad (xw X) 0)), (1, .int v1), (2, .ref (wad (xw X) 97))] [] σ
  refine J_aload_n (q := 2) hX dL_debt_0 rfl rfl ?_
  refine J_iconst (v := 0) hX dL_debt_1 (by decide) ?_
  refine J_aload_n (q := 0) hX dL_debt_2 rfl rfl ?_
  refine J_iload_n (q := 1) hX dL_debt_3 rfl rfl ?_
  refine J_callT [.int v1] hX hg hR hl0 (ctX_debtT hw h) lk_L_15_X11_debt md_X11_debt (xc_0 hw) cls_X11 ⟨by decide, by decide⟩ rfl rfl (Nat.le_of_ble_eq_true rfl) dL_debt_4 ⟨0, 9, 12, 13⟩ htab rfl (by decide) uw_5_152 (X_sx hX hw).2.2.2.2.2.2.2.2.2.2.2.2.2.2.1 (fun H1 locs1 ls q hH hS hl => ?_)
  refine lv_astore_n hX.1 hX.2.1 dL_debt_12 rfl hl (by decide) rfl (fun ls1 _ => ?_)
  refine lv_iconst (v := 1) hX.1 hX.2.1 dL_debt_13 (by decide) ?_
  have hgg := hX.2.2.2.2.2.2.2.2.2.2.2
  refine W_imp hgg.2.2 ?_
  rw [hk, hr]
  exact W.iret hX.1 hX.2.1 hX.2.2.2.2.2.2.2.2.2.2.1 (fun t ht hW => ⟨rfl, Wd_of hX hH hS ht hW, hS.F ht, fun hq => nomatch hq⟩) hS.2.2 dL_debt_14 (hlocks := hX.2.2.2.2.2.2.2.2.2.1)
