/-! methods that throw -/
def stBad : St := (fun _ _ => 0, fun _ _ => 0, fun _ _ => 0, [(0, []), (0, [])])
theorem Wd_bad {w : WT} {s : State} : ¬ Wd w stBad s := by
  intro h
  have hD := h.2.2.2.2.2.1
  have e0 : (wal w stBad)[w.1.1]? = some (0, .inl (wcT w 0, 0, .inl (fun j => ([] : List Int32).getD j 0))) := by
    rw [List.getElem?_append_right (by rw [wws_len]; exact Nat.le_refl _), wws_len, Nat.sub_self]; rfl
  have e1 : (wal w stBad)[w.1.1 + 1]? = some (0, .inl (wcT w 0, 0, .inl (fun j => ([] : List Int32).getD j 0))) := by
    rw [List.getElem?_append_right (by rw [wws_len]; omega), wws_len, Nat.add_sub_cancel_left]; rfl
  have := hD _ _ _ _ e0 e1 rfl
  omega
def XT (w : WT) (τ : St) : String → State → State → Prop := fun E st t => E = xNS ∧ Wd w τ t ∧ va_F (wReg w) st t
def xT (X : CX) (τ : St) : Prop := (xl X).stackTraces = false ∧ (∀ x ∈ (xc X).exceptionTable.toList, False) ∧ xQ X = vx_MQ (xb X) (fun _ _ _ _ => False) (XT (xw X) τ) (xa X) (xs X) 1 6 (wReg (xw X))
def CtT (y : MethodName) (cc : ByteArray) (nL : Nat) (ret : Option FieldType) (f lo : Nat) (w : WT) (avs : List Value) (σ τ : St) : Prop :=
  ∀ l : Launch, l.stackTraces = false → vx_Met l y (.code y cc nL ret :: U0) (rmOf f lo 1 6) (va_Pc avs (fun s => Wd w σ s)) (fun _ _ _ _ => False) (XT w τ) 1 6 (wReg w)
theorem CtT_intro {y : MethodName} {cc : ByteArray} {nL : Nat} {ret : Option FieldType} {f lo : Nat} {w : WT} {avs : List Value} {σ τ : St} (hy : plainName y.cls = true) (hlen : (lg_sl avs).length ≤ nL)
    (body : ∀ X : CX, gd X cc nL y.cls ret → xR X = rmOf f lo 1 6 → xw X = w → nA X → xT X τ → Jd X nL 0 (lv_args 0 avs) [] σ) : CtT y cc nL ret f lo w avs σ τ := by
  intro l hl0
  refine vx_ofW (cc := cc) (maxL := nL) (ret := ret) hy rfl ?_
  intro p e s m args below meth c s₁ B hml hne hv
  obtain ⟨rfl, hW⟩ := hv
  have hts := atoms_spec (ws := .code y cc nL ret :: U0) B.pre
  have hX : gd (p, l, e, rmOf f lo 1 6, s, m, avs.toArray, below, meth, c, w, fun _ => (0, 0), (none, stBad), (0, 0, true), vx_MQ below (fun _ _ _ _ => False) (XT w τ) avs.toArray s 1 6 (wReg w)) cc nL y.cls ret :=
    ⟨B.exec, B.bytes, hml, findClass_of_methodNamed B.named, fun w hw => hts w (List.mem_cons_of_mem _ hw), hW.1, hW.2.1, hW.2.2.1, hW.2.2.2.1, B.notSynchronized, B.returns, ⟨Nat.le_refl _, fun _ => rfl⟩, Nat.le_refl _, fun t h => by
      obtain ⟨o, -, -, ⟨-, h, -⟩, -⟩ := h
      exact absurd h Wd_bad⟩
  have h := body _ hX rfl rfl rfl ⟨hl0, hne, rfl⟩ s.heap [] _ hW.2.2.2.2 va_S.rf (by show s.heap.size = s.heap.size + 0; rfl) (lv_entry avs hlen)
  rw [lg_entry_eq]
  exact h
section TR
variable {X : CX} {cc : ByteArray} {nL : Nat} {own : String} {ret : Option FieldType} {pc : Nat} {lv : List (Nat × Value)} {rest st0 : List Value} {σ : St}
theorem K_callVT {y : MethodName} {bytes : ByteArray} {maxL f lo idx n i ci N F Lo : Nat} {rt : Option FieldType} {fk : Nat → Nat × Nat} {T : u_T} {ty : Nat → FieldType} (As : List Value) {r : Option Value} {τ : St} (hX : gd X cc nL own ret) (hg : nA X) (hR : xR X = rmOf F Lo 1 6) (hC : Ct y bytes maxL rt f lo (xw X) (.ref (wad (xw X) i) :: As) σ r τ 0 0) (hlk : lkV own idx y bytes maxL rt) (hy : mdOK y n) (hq : isC (xw X) i (.inr (ci, N, fk))) (hc : clsOK ci y.cls T N ty)
    (hr : f + 1 ≤ F ∧ 8 + (maxL + 11) + lo ≤ Lo) (hn : As.length = n) (hst : st0 = As.reverse ++ .ref (wad (xw X) i) :: rest) (hW : (rest.map fun v => v.category).sum ≤ 8) (hd : decode cc pc = .ok (.invokevirtual idx, 3))
    (kk : Jd X nL (pc + 3) lv (r.toList ++ rest) τ) : Jd X nL pc lv st0 σ :=
  J_callV hX hC hlk hy hq hc (by rw [hR]; exact hr) (by rw [hg]; exact ⟨rfl, Nat.le_refl _⟩) (by rw [hg]; exact ⟨Nat.zero_le _, Nat.zero_le _⟩) hn hst hW hd kk
theorem Wd_grow {w : WT} {τ : St} {t U : State} (h : Wd w τ U) (hW : U.WarmedH t.vm) (hz : U.heap.size ≤ t.heap.size) (hq : ∀ q : Nat, q < U.heap.size → t.heap[q]? = U.heap[q]?) : Wd w τ t :=
  ⟨h.1, va_K.moved hW.alike h.2.1, h.1.2 _ _ _ _ hW hz (fun q h1 _ => hq q h1) h.2.2.1, Nat.le_trans h.2.2.2.1 hz, h.2.2.2.2.1.kept (fun k q hk => hq _ (h.2.2.2.2.1 k q hk).lt), h.2.2.2.2.2⟩
theorem T_throw {is F Lo : Nat} {text : String} {τ : St} (hX : gd X cc nL "SkinCarriers" ret) (hw : isX (xw X)) (hg : nA X) (hR : xR X = rmOf F Lo 1 6) (ht : xT X τ) (hstr : ∃ a, vk_R "SkinCarriers" is text a (xs X)) (hF : 5 < F ∧ 82 ≤ Lo)
    (d0 : decode cc pc = .ok (.new 150, 3)) (d3 : decode cc (pc + 3) = .ok (.dup, 1)) (d4 : decode cc (pc + 4) = .ok (.ldc is, 2)) (d6 : decode cc (pc + 6) = .ok (.invokespecial 154, 3)) (d9 : decode cc (pc + 9) = .ok (.athrow, 1)) (h : some σ = some τ) : Jd X nL pc lv [] σ := by
  cases h
  intro H locs ls hH hS hz hl
  obtain ⟨a, hstr⟩ := hstr
  obtain ⟨-, -, b1, b2, b3, b4, b5, b6⟩ := (X_sx hX hw).2.2.2.2.2.2.2.2.2.2
  obtain ⟨hl0, hne, hQ⟩ := ht
  have e1 : ((xg X) (Kn σ)).1 = 0 := by rw [hg]
  have e2 : ((xg X) (Kn σ)).2 = 0 := by rw [hg]
  rw [hQ, e1, e2]
  refine wt_throw hX.1 hX.2.1 hl0 hX.2.2.2.1 hstr hX.2.2.2.2.1 b1 b2 b3 b4 b5 b6 hS (hl.1.trans hX.2.2.1.symm) d0 d3 d4 d6 d9 (fun x hx => (hne x hx).elim) (by rw [hR]; exact hF.1) (by rw [hR]; show 0 + 82 ≤ Lo; omega) (by rw [hR]; exact Nat.le_refl _) (by rw [hR]; exact Nat.le_refl _) hX.2.2.2.2.2.2.2.2.2.1 (fun t hWt h1 h2 => ⟨rfl, ?_, ?_⟩) hS.2.2 (Nat.le_refl _) (Nat.le_refl _)
  · obtain ⟨-, -, -, -, -, k1, k2, k3, k4, -⟩ := hX
    exact ⟨k1, va_K.moved hWt.alike k2, k1.2 _ _ _ _ hWt (Nat.le_trans hS.1 h1) (fun q q1 q2 => (h2 q (Nat.lt_of_lt_of_le q1 hS.1)).trans (hS.2.1 q q1 q2)) k3, Nat.le_trans k4 (Nat.le_trans hS.1 h1), hH.1.kept (fun k q hk => h2 _ (hH.1 k q hk).lt), hH.2⟩
  · exact ⟨Nat.le_trans hS.1 h1, fun q q1 q2 => (h2 q (Nat.lt_of_lt_of_le q1 hS.1)).trans (hS.2.1 q q1 q2)⟩
end TR
theorem lk_X11_290_X0_balance : lkV RX11 290 yX0_balance cX0_balance 4 (some .int) := lkV_of uw_5_230 uw_4_205 uw_4_206 uw_1_8 uw_4_207
def rX_carrier (v1 : Int32) (v2 : Int32) (σ : St) : Option (Int32 × St) :=
  bnd2 (rX_hasCarrier v1 σ) fun r_3 σ_1 => brc (¬ r_3 = 0) (brc ((v2).toInt = 0) (chk (ib v1 6) (some (σ_1.1 28 v1.toNatClampNeg, σ_1))) (brc ((v2).toInt = 1) (bnd2 (rX_holds v1 σ_1) fun r_7 σ_5 => some (r_7, σ_5)) (brc ((v2).toInt = 2) (chk (ib v1 6) (some (σ_1.1 30 v1.toNatClampNeg, σ_1))) (brc ((v2).toInt = 3) (chk (ib v1 6) (some (σ_1.1 31 v1.toNatClampNeg, σ_1))) (brc ((v2).toInt = 4) (chk (ib v1 6) (some (σ_1.1 37 v1.toNatClampNeg, σ_1))) (brc ((v2).toInt = 5) (chk (ib v1 6) (some (σ_1.1 35 v1.toNatClampNeg, σ_1))) (brc ((v2).toInt = 6) (chk (ib v1 6) (some (σ_1.1 36 v1.toNatClampNeg, σ_1))) (none)))))))) (none)
set_option maxRecDepth 100000 in
theorem tX_carrier {X : CX} (hX : gd X cX11_carrier 3 RX11 (some .int)) (hw : isX (xw X)) (hg : nA X) (hR : xR X = rmOf 1 21 0 0) {r : Int32} {τ : St} (hr : xr X = (some (.int r), τ)) (v1 : Int32) (v2 : Int32) (σ : St) (h : rX_carrier v1 v2 σ = some (r, τ)) : Jd X 3 0 [(0, .ref (wad (xw X) 0)), (1, .int v1), (2, .int v2)] [] σ := by
  unfold rX_carrier at h
  refine J_aload_n (q := 0) hX dX11_carrier_0 rfl rfl ?_
  refine K_getc 23 hX (xc_0 hw) cls_X11 (k := 2) (by decide) uw_3_18 rfl dX11_carrier_1 ?_
  refine J_iload_n (q := 1) hX dX11_carrier_4 rfl rfl ?_
  obtain ⟨r_3, σ_1, hc_2, h⟩ := bnd2_some h
  refine K_callV [.int v1] hX hg hR (ctX_hasCarrier hw hc_2) lk_X11_147_X3_hasCarrier md_X3_hasCarrier (xc_23 hw) cls_X3 ⟨by decide, by decide⟩ rfl rfl (Nat.le_of_ble_eq_true rfl) dX11_carrier_5 ?_
  refine K_if_ne (tgt := 21) hX dX11_carrier_8 rfl h (fun h => ?_) (fun h => ?_)
  · refine J_iload_n (q := 2) hX dX11_carrier_21 rfl rfl ?_
    rcases brc_some h with ⟨hc, h⟩ | ⟨hn_4, h⟩
    · refine K_tabIn (v := 0) (tgt := 64) hX dX11_carrier_22 hc (by decide) (by decide) rfl rfl ?_
      refine J_aload_n (q := 0) hX dX11_carrier_64 rfl rfl ?_
      refine K_getc 23 hX (xc_0 hw) cls_X11 (k := 2) (by decide) uw_3_18 rfl dX11_carrier_65 ?_
      refine K_getc 28 hX (xc_23 hw) cls_X3 (k := 7) (by decide) uw_1_118 rfl dX11_carrier_68 ?_
      refine J_iload_n (q := 1) hX dX11_carrier_71 rfl rfl ?_
      refine K_iald hX (xc_28 hw) dX11_carrier_72 h (fun h => ?_)
      exact K_iret hX hr dX11_carrier_73 h
    rcases brc_some h with ⟨hc, h⟩ | ⟨hn_8, h⟩
    · refine K_tabIn (v := 1) (tgt := 74) hX dX11_carrier_22 hc (by decide) (by decide) rfl rfl ?_
      refine J_aload_n (q := 0) hX dX11_carrier_74 rfl rfl ?_
      refine K_getc 23 hX (xc_0 hw) cls_X11 (k := 2) (by decide) uw_3_18 rfl dX11_carrier_75 ?_
      refine J_iload_n (q := 1) hX dX11_carrier_78 rfl rfl ?_
      obtain ⟨r_7, σ_5, hc_6, h⟩ := bnd2_some h
      refine K_callV [.int v1] hX hg hR (ctX_holds hw hc_6) lk_X11_160_X3_holds md_X3_holds (xc_23 hw) cls_X3 ⟨by decide, by decide⟩ rfl rfl (Nat.le_of_ble_eq_true rfl) dX11_carrier_79 ?_
      exact K_iret hX hr dX11_carrier_82 h
    rcases brc_some h with ⟨hc, h⟩ | ⟨hn_9, h⟩
    · refine K_tabIn (v := 2) (tgt := 83) hX dX11_carrier_22 hc (by decide) (by decide) rfl rfl ?_
      refine J_aload_n (q := 0) hX dX11_carrier_83 rfl rfl ?_
      refine K_getc 23 hX (xc_0 hw) cls_X11 (k := 2) (by decide) uw_3_18 rfl dX11_carrier_84 ?_
      refine K_getc 30 hX (xc_23 hw) cls_X3 (k := 9) (by decide) uw_1_124 rfl dX11_carrier_87 ?_
      refine J_iload_n (q := 1) hX dX11_carrier_90 rfl rfl ?_
      refine K_iald hX (xc_30 hw) dX11_carrier_91 h (fun h => ?_)
      exact K_iret hX hr dX11_carrier_92 h
    rcases brc_some h with ⟨hc, h⟩ | ⟨hn_10, h⟩
    · refine K_tabIn (v := 3) (tgt := 93) hX dX11_carrier_22 hc (by decide) (by decide) rfl rfl ?_
      refine J_aload_n (q := 0) hX dX11_carrier_93 rfl rfl ?_
      refine K_getc 23 hX (xc_0 hw) cls_X11 (k := 2) (by decide) uw_3_18 rfl dX11_carrier_94 ?_
      refine K_getc 31 hX (xc_23 hw) cls_X3 (k := 10) (by decide) uw_1_129 rfl dX11_carrier_97 ?_
      refine J_iload_n (q := 1) hX dX11_carrier_100 rfl rfl ?_
      refine K_iald hX (xc_31 hw) dX11_carrier_101 h (fun h => ?_)
      exact K_iret hX hr dX11_carrier_102 h
    rcases brc_some h with ⟨hc, h⟩ | ⟨hn_11, h⟩
    · refine K_tabIn (v := 4) (tgt := 103) hX dX11_carrier_22 hc (by decide) (by decide) rfl rfl ?_
      refine J_aload_n (q := 0) hX dX11_carrier_103 rfl rfl ?_
      refine K_getc 33 hX (xc_0 hw) cls_X11 (k := 3) (by decide) uw_3_19 rfl dX11_carrier_104 ?_
      refine K_getc 37 hX (xc_33 hw) cls_X0 (k := 8) (by decide) uw_2_31 rfl dX11_carrier_107 ?_
      refine J_iload_n (q := 1) hX dX11_carrier_110 rfl rfl ?_
      refine K_iald hX (xc_37 hw) dX11_carrier_111 h (fun h => ?_)
      exact K_iret hX hr dX11_carrier_112 h
    rcases brc_some h with ⟨hc, h⟩ | ⟨hn_12, h⟩
    · refine K_tabIn (v := 5) (tgt := 113) hX dX11_carrier_22 hc (by decide) (by decide) rfl rfl ?_
      refine J_aload_n (q := 0) hX dX11_carrier_113 rfl rfl ?_
      refine K_getc 33 hX (xc_0 hw) cls_X11 (k := 3) (by decide) uw_3_19 rfl dX11_carrier_114 ?_
      refine K_getc 35 hX (xc_33 hw) cls_X0 (k := 6) (by decide) uw_2_26 rfl dX11_carrier_117 ?_
      refine J_iload_n (q := 1) hX dX11_carrier_120 rfl rfl ?_
      refine K_iald hX (xc_35 hw) dX11_carrier_121 h (fun h => ?_)
      exact K_iret hX hr dX11_carrier_122 h
    rcases brc_some h with ⟨hc, h⟩ | ⟨hn_13, h⟩
    · refine K_tabIn (v := 6) (tgt := 123) hX dX11_carrier_22 hc (by decide) (by decide) rfl rfl ?_
      refine J_aload_n (q := 0) hX dX11_carrier_123 rfl rfl ?_
      refine K_getc 33 hX (xc_0 hw) cls_X11 (k := 3) (by decide) uw_3_19 rfl dX11_carrier_124 ?_
      refine K_getc 36 hX (xc_33 hw) cls_X0 (k := 7) (by decide) uw_2_28 rfl dX11_carrier_127 ?_
      refine J_iload_n (q := 1) hX dX11_carrier_130 rfl rfl ?_
      refine K_iald hX (xc_36 hw) dX11_carrier_131 h (fun h => ?_)
      exact K_iret hX hr dX11_carrier_132 h
    refine K_tabOut (tgt := 133) hX dX11_carrier_22 (by omega) rfl ?_
    cases h
  · cases h
theorem ctX_carrier {w : WT} (hw : isX w) {v1 : Int32} {v2 : Int32} {σ : St} {r : Int32} {τ : St} (h : rX_carrier v1 v2 σ = some (r, τ)) : Ct yX11_carrier cX11_carrier 3 (some .int) 1 21 w [.ref (wad w 0), .int v1, .int v2] σ (some (.int r)) τ 0 0 :=
  Ct_intro (fun _ => (0, 0)) (by decide) rfl ⟨rfl, Nat.le_refl _⟩ (Nat.le_of_ble_eq_true rfl) (fun X hX hR hwX hg hr => by subst hwX; exact tX_carrier hX hw hg hR hr v1 v2 σ h)

def rX_carrierT (v1 : Int32) (v2 : Int32) (σ : St) : Option (St) :=
  bnd2 (rX_hasCarrier v1 σ) fun r_3 σ_1 => brc (¬ r_3 = 0) (brc ((v2).toInt = 0) (chk (ib v1 6) (none)) (brc ((v2).toInt = 1) (bnd2 (rX_holds v1 σ_1) fun r_7 σ_5 => none) (brc ((v2).toInt = 2) (chk (ib v1 6) (none)) (brc ((v2).toInt = 3) (chk (ib v1 6) (none)) (brc ((v2).toInt = 4) (chk (ib v1 6) (none)) (brc ((v2).toInt = 5) (chk (ib v1 6) (none)) (brc ((v2).toInt = 6) (chk (ib v1 6) (none)) (some σ_1)))))))) (some σ_1)
set_option maxRecDepth 100000 in
theorem tX_carrierT {X : CX} (hX : gd X cX11_carrier 3 RX11 (some .int)) (hw : isX (xw X)) (hg : nA X) (hR : xR X = rmOf 6 101 1 6) {τ : St} (hr : xT X τ) (v1 : Int32) (v2 : Int32) (σ : St) (h : rX_carrierT v1 v2 σ = some τ) : Jd X 3 0 [(0, .ref (wad (xw X) 0)), (1, .int v1), (2, .int v2)] [] σ := by
  unfold rX_carrierT at h
  refine J_aload_n (q := 0) hX dX11_carrier_0 rfl rfl ?_
  refine K_getc 23 hX (xc_0 hw) cls_X11 (k := 2) (by decide) uw_3_18 rfl dX11_carrier_1 ?_
  refine J_iload_n (q := 1) hX dX11_carrier_4 rfl rfl ?_
  obtain ⟨r_3, σ_1, hc_2, h⟩ := bnd2_some h
  refine K_callVT [.int v1] hX hg hR (ctX_hasCarrier hw hc_2) lk_X11_147_X3_hasCarrier md_X3_hasCarrier (xc_23 hw) cls_X3 ⟨by decide, by decide⟩ rfl rfl (Nat.le_of_ble_eq_true rfl) dX11_carrier_5 ?_
  refine K_if_ne (tgt := 21) hX dX11_carrier_8 rfl h (fun h => ?_) (fun h => ?_)
  · refine J_iload_n (q := 2) hX dX11_carrier_21 rfl rfl ?_
    rcases brc_some h with ⟨hc, h⟩ | ⟨hn_4, h⟩
    · refine K_tabIn (v := 0) (tgt := 64) hX dX11_carrier_22 hc (by decide) (by decide) rfl rfl ?_
      refine J_aload_n (q := 0) hX dX11_carrier_64 rfl rfl ?_
      refine K_getc 23 hX (xc_0 hw) cls_X11 (k := 2) (by decide) uw_3_18 rfl dX11_carrier_65 ?_
      refine K_getc 28 hX (xc_23 hw) cls_X3 (k := 7) (by decide) uw_1_118 rfl dX11_carrier_68 ?_
      refine J_iload_n (q := 1) hX dX11_carrier_71 rfl rfl ?_
      refine K_iald hX (xc_28 hw) dX11_carrier_72 h (fun h => ?_)
      cases h
    rcases brc_some h with ⟨hc, h⟩ | ⟨hn_8, h⟩
    · refine K_tabIn (v := 1) (tgt := 74) hX dX11_carrier_22 hc (by decide) (by decide) rfl rfl ?_
      refine J_aload_n (q := 0) hX dX11_carrier_74 rfl rfl ?_
      refine K_getc 23 hX (xc_0 hw) cls_X11 (k := 2) (by decide) uw_3_18 rfl dX11_carrier_75 ?_
      refine J_iload_n (q := 1) hX dX11_carrier_78 rfl rfl ?_
      obtain ⟨r_7, σ_5, hc_6, h⟩ := bnd2_some h
      refine K_callVT [.int v1] hX hg hR (ctX_holds hw hc_6) lk_X11_160_X3_holds md_X3_holds (xc_23 hw) cls_X3 ⟨by decide, by decide⟩ rfl rfl (Nat.le_of_ble_eq_true rfl) dX11_carrier_79 ?_
      cases h
    rcases brc_some h with ⟨hc, h⟩ | ⟨hn_9, h⟩
    · refine K_tabIn (v := 2) (tgt := 83) hX dX11_carrier_22 hc (by decide) (by decide) rfl rfl ?_
      refine J_aload_n (q := 0) hX dX11_carrier_83 rfl rfl ?_
      refine K_getc 23 hX (xc_0 hw) cls_X11 (k := 2) (by decide) uw_3_18 rfl dX11_carrier_84 ?_
      refine K_getc 30 hX (xc_23 hw) cls_X3 (k := 9) (by decide) uw_1_124 rfl dX11_carrier_87 ?_
      refine J_iload_n (q := 1) hX dX11_carrier_90 rfl rfl ?_
      refine K_iald hX (xc_30 hw) dX11_carrier_91 h (fun h => ?_)
      cases h
    rcases brc_some h with ⟨hc, h⟩ | ⟨hn_10, h⟩
    · refine K_tabIn (v := 3) (tgt := 93) hX dX11_carrier_22 hc (by decide) (by decide) rfl rfl ?_
      refine J_aload_n (q := 0) hX dX11_carrier_93 rfl rfl ?_
      refine K_getc 23 hX (xc_0 hw) cls_X11 (k := 2) (by decide) uw_3_18 rfl dX11_carrier_94 ?_
      refine K_getc 31 hX (xc_23 hw) cls_X3 (k := 10) (by decide) uw_1_129 rfl dX11_carrier_97 ?_
      refine J_iload_n (q := 1) hX dX11_carrier_100 rfl rfl ?_
      refine K_iald hX (xc_31 hw) dX11_carrier_101 h (fun h => ?_)
      cases h
    rcases brc_some h with ⟨hc, h⟩ | ⟨hn_11, h⟩
    · refine K_tabIn (v := 4) (tgt := 103) hX dX11_carrier_22 hc (by decide) (by decide) rfl rfl ?_
      refine J_aload_n (q := 0) hX dX11_carrier_103 rfl rfl ?_
      refine K_getc 33 hX (xc_0 hw) cls_X11 (k := 3) (by decide) uw_3_19 rfl dX11_carrier_104 ?_
      refine K_getc 37 hX (xc_33 hw) cls_X0 (k := 8) (by decide) uw_2_31 rfl dX11_carrier_107 ?_
      refine J_iload_n (q := 1) hX dX11_carrier_110 rfl rfl ?_
      refine K_iald hX (xc_37 hw) dX11_carrier_111 h (fun h => ?_)
      cases h
    rcases brc_some h with ⟨hc, h⟩ | ⟨hn_12, h⟩
    · refine K_tabIn (v := 5) (tgt := 113) hX dX11_carrier_22 hc (by decide) (by decide) rfl rfl ?_
      refine J_aload_n (q := 0) hX dX11_carrier_113 rfl rfl ?_
      refine K_getc 33 hX (xc_0 hw) cls_X11 (k := 3) (by decide) uw_3_19 rfl dX11_carrier_114 ?_
      refine K_getc 35 hX (xc_33 hw) cls_X0 (k := 6) (by decide) uw_2_26 rfl dX11_carrier_117 ?_
      refine J_iload_n (q := 1) hX dX11_carrier_120 rfl rfl ?_
      refine K_iald hX (xc_35 hw) dX11_carrier_121 h (fun h => ?_)
      cases h
    rcases brc_some h with ⟨hc, h⟩ | ⟨hn_13, h⟩
    · refine K_tabIn (v := 6) (tgt := 123) hX dX11_carrier_22 hc (by decide) (by decide) rfl rfl ?_
      refine J_aload_n (q := 0) hX dX11_carrier_123 rfl rfl ?_
      refine K_getc 33 hX (xc_0 hw) cls_X11 (k := 3) (by decide) uw_3_19 rfl dX11_carrier_124 ?_
      refine K_getc 36 hX (xc_33 hw) cls_X0 (k := 7) (by decide) uw_2_28 rfl dX11_carrier_127 ?_
      refine J_iload_n (q := 1) hX dX11_carrier_130 rfl rfl ?_
      refine K_iald hX (xc_36 hw) dX11_carrier_131 h (fun h => ?_)
      cases h
    refine K_tabOut (tgt := 133) hX dX11_carrier_22 (by omega) rfl ?_
    exact T_throw hX hw hg hR hr ((X_sx hX hw).2.2.2.2.2.2.2.2.2.2.2.1) ⟨by decide, by decide⟩ dX11_carrier_133 dX11_carrier_136 dX11_carrier_137 dX11_carrier_139 dX11_carrier_142 h
  · exact T_throw hX hw hg hR hr ((X_sx hX hw).2.2.2.2.2.2.2.2.2.2.1) ⟨by decide, by decide⟩ dX11_carrier_11 dX11_carrier_14 dX11_carrier_15 dX11_carrier_17 dX11_carrier_20 h
theorem ctX_carrierT {w : WT} (hw : isX w) {v1 : Int32} {v2 : Int32} {σ : St} {τ : St} (h : rX_carrierT v1 v2 σ = some τ) : CtT yX11_carrier cX11_carrier 3 (some .int) 6 101 w [.ref (wad w 0), .int v1, .int v2] σ τ :=
  CtT_intro (by decide) (Nat.le_of_ble_eq_true rfl) (fun X hX hR hwX hg hr => by subst hwX; exact tX_carrierT hX hw hg hR hr v1 v2 σ h)

def rX_debt (v1 : Int32) (σ : St) : Option (Int32 × St) :=
  bnd2 (rX_hasCarrier v1 σ) fun r_3 σ_1 => brc (¬ r_3 = 0) (bnd2 (rX_balance v1 σ_1) fun r_6 σ_4 => some (r_6, σ_4)) (none)
set_option maxRecDepth 100000 in
theorem tX_debt {X : CX} (hX : gd X cX11_debt 2 RX11 (some .int)) (hw : isX (xw X)) (hg : nA X) (hR : xR X = rmOf 1 23 0 0) {r : Int32} {τ : St} (hr : xr X = (some (.int r), τ)) (v1 : Int32) (σ : St) (h : rX_debt v1 σ = some (r, τ)) : Jd X 2 0 [(0, .ref (wad (xw X) 0)), (1, .int v1)] [] σ := by
  unfold rX_debt at h
  refine J_aload_n (q := 0) hX dX11_debt_0 rfl rfl ?_
  refine K_getc 23 hX (xc_0 hw) cls_X11 (k := 2) (by decide) uw_3_18 rfl dX11_debt_1 ?_
  refine J_iload_n (q := 1) hX dX11_debt_4 rfl rfl ?_
  obtain ⟨r_3, σ_1, hc_2, h⟩ := bnd2_some h
  refine K_callV [.int v1] hX hg hR (ctX_hasCarrier hw hc_2) lk_X11_147_X3_hasCarrier md_X3_hasCarrier (xc_23 hw) cls_X3 ⟨by decide, by decide⟩ rfl rfl (Nat.le_of_ble_eq_true rfl) dX11_debt_5 ?_
  refine K_if_ne (tgt := 21) hX dX11_debt_8 rfl h (fun h => ?_) (fun h => ?_)
  · refine J_aload_n (q := 0) hX dX11_debt_21 rfl rfl ?_
    refine K_getc 33 hX (xc_0 hw) cls_X11 (k := 3) (by decide) uw_3_19 rfl dX11_debt_22 ?_
    refine J_iload_n (q := 1) hX dX11_debt_25 rfl rfl ?_
    obtain ⟨r_6, σ_4, hc_5, h⟩ := bnd2_some h
    refine K_callV [.int v1] hX hg hR (ctX_balance hw hc_5) lk_X11_290_X0_balance md_X0_balance (xc_33 hw) cls_X0 ⟨by decide, by decide⟩ rfl rfl (Nat.le_of_ble_eq_true rfl) dX11_debt_26 ?_
    exact K_iret hX hr dX11_debt_29 h
  · cases h
theorem ctX_debt {w : WT} (hw : isX w) {v1 : Int32} {σ : St} {r : Int32} {τ : St} (h : rX_debt v1 σ = some (r, τ)) : Ct yX11_debt cX11_debt 2 (some .int) 1 23 w [.ref (wad w 0), .int v1] σ (some (.int r)) τ 0 0 :=
  Ct_intro (fun _ => (0, 0)) (by decide) rfl ⟨rfl, Nat.le_refl _⟩ (Nat.le_of_ble_eq_true rfl) (fun X hX hR hwX hg hr => by subst hwX; exact tX_debt hX hw hg hR hr v1 σ h)

def rX_debtT (v1 : Int32) (σ : St) : Option (St) :=
  bnd2 (rX_hasCarrier v1 σ) fun r_3 σ_1 => brc (¬ r_3 = 0) (bnd2 (rX_balance v1 σ_1) fun r_6 σ_4 => none) (some σ_1)
set_option maxRecDepth 100000 in
theorem tX_debtT {X : CX} (hX : gd X cX11_debt 2 RX11 (some .int)) (hw : isX (xw X)) (hg : nA X) (hR : xR X = rmOf 6 101 1 6) {τ : St} (hr : xT X τ) (v1 : Int32) (σ : St) (h : rX_debtT v1 σ = some τ) : Jd X 2 0 [(0, .ref (wad (xw X) 0)), (1, .int v1)] [] σ := by
  unfold rX_debtT at h
  refine J_aload_n (q := 0) hX dX11_debt_0 rfl rfl ?_
  refine K_getc 23 hX (xc_0 hw) cls_X11 (k := 2) (by decide) uw_3_18 rfl dX11_debt_1 ?_
  refine J_iload_n (q := 1) hX dX11_debt_4 rfl rfl ?_
  obtain ⟨r_3, σ_1, hc_2, h⟩ := bnd2_some h
  refine K_callVT [.int v1] hX hg hR (ctX_hasCarrier hw hc_2) lk_X11_147_X3_hasCarrier md_X3_hasCarrier (xc_23 hw) cls_X3 ⟨by decide, by decide⟩ rfl rfl (Nat.le_of_ble_eq_true rfl) dX11_debt_5 ?_
  refine K_if_ne (tgt := 21) hX dX11_debt_8 rfl h (fun h => ?_) (fun h => ?_)
  · refine J_aload_n (q := 0) hX dX11_debt_21 rfl rfl ?_
    refine K_getc 33 hX (xc_0 hw) cls_X11 (k := 3) (by decide) uw_3_19 rfl dX11_debt_22 ?_
    refine J_iload_n (q := 1) hX dX11_debt_25 rfl rfl ?_
    obtain ⟨r_6, σ_4, hc_5, h⟩ := bnd2_some h
    refine K_callVT [.int v1] hX hg hR (ctX_balance hw hc_5) lk_X11_290_X0_balance md_X0_balance (xc_33 hw) cls_X0 ⟨by decide, by decide⟩ rfl rfl (Nat.le_of_ble_eq_true rfl) dX11_debt_26 ?_
    cases h
  · exact T_throw hX hw hg hR hr ((X_sx hX hw).2.2.2.2.2.2.2.2.2.2.1) ⟨by decide, by decide⟩ dX11_debt_11 dX11_debt_14 dX11_debt_15 dX11_debt_17 dX11_debt_20 h
theorem ctX_debtT {w : WT} (hw : isX w) {v1 : Int32} {σ : St} {τ : St} (h : rX_debtT v1 σ = some τ) : CtT yX11_debt cX11_debt 2 (some .int) 6 101 w [.ref (wad w 0), .int v1] σ τ :=
  CtT_intro (by decide) (Nat.le_of_ble_eq_true rfl) (fun X hX hR hwX hg hr => by subst hwX; exact tX_debtT hX hw hg hR hr v1 σ h)

