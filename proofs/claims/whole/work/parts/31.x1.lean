def rX_tellWay (v1 : Int32) (v2 : Int32) (v3 : Int32) (v4 : Int32) (σ : St) : Option (St) :=
  chk (ib ((v1 * (7 : Int32)) + v2) 49) (nm (setI σ 13 ((v1 * (7 : Int32)) + v2).toNatClampNeg v3) fun σ_1 => chk (ib ((v2 * (7 : Int32)) + v1) 49) (nm (setI σ_1 13 ((v2 * (7 : Int32)) + v1).toNatClampNeg v3) fun σ_2 => chk (ib ((v1 * (7 : Int32)) + v2) 49) (nm (setI σ_2 14 ((v1 * (7 : Int32)) + v2).toNatClampNeg v4) fun σ_3 => chk (ib ((v2 * (7 : Int32)) + v1) 49) (nm (setI σ_3 14 ((v2 * (7 : Int32)) + v1).toNatClampNeg v4) fun σ_4 => nm (setI σ_4 10 1 ((σ_4.1 10 1) + (1 : Int32))) fun σ_5 => some σ_5))))
set_option maxRecDepth 100000 in
theorem tX_tellWay {X : CX} (hX : gd X cX3_tellWay 5 RX3 none) (hw : isX (xw X)) (hg : nA X) (hR : xR X = rmOf 0 0 0 0) {τ : St} (hr : xr X = (none, τ)) (v1 : Int32) (v2 : Int32) (v3 : Int32) (v4 : Int32) (σ : St) (h : rX_tellWay v1 v2 v3 v4 σ = some τ) : Jd X 5 0 [(0, .ref (wad (xw X) 10)), (1, .int v1), (2, .int v2), (3, .int v3), (4, .int v4)] [] σ := by
  unfold rX_tellWay at h
  refine J_aload_n (q := 0) hX dX3_tellWay_0 rfl rfl ?_
  refine K_getc 13 hX (xc_10 hw) cls_X3 (k := 5) (by decide) uw_1_109 rfl dX3_tellWay_1 ?_
  refine J_iload_n (q := 1) hX dX3_tellWay_4 rfl rfl ?_
  refine J_bipush (v := (7 : Int32)) hX dX3_tellWay_5 (by decide) ?_
  refine J_imul hX dX3_tellWay_7 ?_
  refine J_iload_n (q := 2) hX dX3_tellWay_8 rfl rfl ?_
  refine J_iadd hX dX3_tellWay_9 ?_
  refine J_iload_n (q := 3) hX dX3_tellWay_10 rfl rfl ?_
  refine K_iast hX (xc_13 hw) dX3_tellWay_11 h (fun σ_1 h => ?_)
  refine J_aload_n (q := 0) hX dX3_tellWay_12 rfl rfl ?_
  refine K_getc 13 hX (xc_10 hw) cls_X3 (k := 5) (by decide) uw_1_109 rfl dX3_tellWay_13 ?_
  refine J_iload_n (q := 2) hX dX3_tellWay_16 rfl rfl ?_
  refine J_bipush (v := (7 : Int32)) hX dX3_tellWay_17 (by decide) ?_
  refine J_imul hX dX3_tellWay_19 ?_
  refine J_iload_n (q := 1) hX dX3_tellWay_20 rfl rfl ?_
  refine J_iadd hX dX3_tellWay_21 ?_
  refine J_iload_n (q := 3) hX dX3_tellWay_22 rfl rfl ?_
  refine K_iast hX (xc_13 hw) dX3_tellWay_23 h (fun σ_2 h => ?_)
  refine J_aload_n (q := 0) hX dX3_tellWay_24 rfl rfl ?_
  refine K_getc 14 hX (xc_10 hw) cls_X3 (k := 6) (by decide) uw_1_112 rfl dX3_tellWay_25 ?_
  refine J_iload_n (q := 1) hX dX3_tellWay_28 rfl rfl ?_
  refine J_bipush (v := (7 : Int32)) hX dX3_tellWay_29 (by decide) ?_
  refine J_imul hX dX3_tellWay_31 ?_
  refine J_iload_n (q := 2) hX dX3_tellWay_32 rfl rfl ?_
  refine J_iadd hX dX3_tellWay_33 ?_
  refine J_iload (q := 4) hX dX3_tellWay_34 rfl ?_
  refine K_iast hX (xc_14 hw) dX3_tellWay_36 h (fun σ_3 h => ?_)
  refine J_aload_n (q := 0) hX dX3_tellWay_37 rfl rfl ?_
  refine K_getc 14 hX (xc_10 hw) cls_X3 (k := 6) (by decide) uw_1_112 rfl dX3_tellWay_38 ?_
  refine J_iload_n (q := 2) hX dX3_tellWay_41 rfl rfl ?_
  refine J_bipush (v := (7 : Int32)) hX dX3_tellWay_42 (by decide) ?_
  refine J_imul hX dX3_tellWay_44 ?_
  refine J_iload_n (q := 1) hX dX3_tellWay_45 rfl rfl ?_
  refine J_iadd hX dX3_tellWay_46 ?_
  refine J_iload (q := 4) hX dX3_tellWay_47 rfl ?_
  refine K_iast hX (xc_14 hw) dX3_tellWay_49 h (fun σ_4 h => ?_)
  refine J_aload_n (q := 0) hX dX3_tellWay_50 rfl rfl ?_
  refine J_dup hX dX3_tellWay_51 rfl ?_
  refine K_geti hX (xc_10 hw) cls_X3 (k := 1) (by decide) uw_1_92 rfl dX3_tellWay_52 ?_
  refine J_iconst (v := (1 : Int32)) hX dX3_tellWay_55 (by decide) ?_
  refine J_iadd hX dX3_tellWay_56 ?_
  refine K_puti hX (xc_10 hw) cls_X3 (k := 1) (by decide) uw_1_92 rfl rfl rfl dX3_tellWay_57 h (fun σ_5 h => ?_)
  exact K_vret hX hr dX3_tellWay_60 h
theorem ctX_tellWay {w : WT} (hw : isX w) {v1 : Int32} {v2 : Int32} {v3 : Int32} {v4 : Int32} {σ : St} {τ : St} (h : rX_tellWay v1 v2 v3 v4 σ = some τ) : Ct yX3_tellWay cX3_tellWay 5 none 0 0 w [.ref (wad w 10), .int v1, .int v2, .int v3, .int v4] σ none τ 0 0 :=
  Ct_intro (fun _ => (0, 0)) (by decide) rfl ⟨rfl, Nat.le_refl _⟩ (Nat.le_of_ble_eq_true rfl) (fun X hX hR hwX hg hr => by subst hwX; exact tX_tellWay hX hw hg hR hr v1 v2 v3 v4 σ h)

def rX_clear (σ : St) : Option (St) :=
  nm (setI σ 10 0 (0 : Int32)) fun σ_1 => nm (setI σ_1 10 1 (0 : Int32)) fun σ_2 => nm (setI σ_2 10 2 (0 : Int32)) fun σ_3 => bnd1 (rX_fill_minutes (0 : Int32) σ_3) fun σ_4 => bnd1 (rX_fill_ddebts (0 : Int32) σ_4) fun σ_6 => nm (setP σ_6 10 12 0) fun σ_8 => nm (setP σ_8 10 13 1) fun σ_9 => nm (setI σ_9 10 14 (99 : Int32)) fun σ_10 => nm (setI σ_10 10 15 (60 : Int32)) fun σ_11 => nm (setI σ_11 10 16 (360 : Int32)) fun σ_12 => some σ_12
set_option maxRecDepth 100000 in
theorem tX_clear {X : CX} (hX : gd X cX3_clear 1 RX3 none) (hw : isX (xw X)) (hg : nA X) (hR : xR X = rmOf 1 23 0 0) {τ : St} (hr : xr X = (none, τ)) (σ : St) (h : rX_clear σ = some τ) : Jd X 1 0 [(0, .ref (wad (xw X) 10))] [] σ := by
  unfold rX_clear at h
  refine J_aload_n (q := 0) hX dX3_clear_0 rfl rfl ?_
  refine J_iconst (v := (0 : Int32)) hX dX3_clear_1 (by decide) ?_
  refine K_puti hX (xc_10 hw) cls_X3 (k := 0) (by decide) uw_1_88 rfl rfl rfl dX3_clear_2 h (fun σ_1 h => ?_)
  refine J_aload_n (q := 0) hX dX3_clear_5 rfl rfl ?_
  refine J_iconst (v := (0 : Int32)) hX dX3_clear_6 (by decide) ?_
  refine K_puti hX (xc_10 hw) cls_X3 (k := 1) (by decide) uw_1_92 rfl rfl rfl dX3_clear_7 h (fun σ_2 h => ?_)
  refine J_aload_n (q := 0) hX dX3_clear_10 rfl rfl ?_
  refine J_iconst (v := (0 : Int32)) hX dX3_clear_11 (by decide) ?_
  refine K_puti hX (xc_10 hw) cls_X3 (k := 2) (by decide) uw_1_96 rfl rfl rfl dX3_clear_12 h (fun σ_3 h => ?_)
  refine J_aload_n (q := 0) hX dX3_clear_15 rfl rfl ?_
  refine K_getc 13 hX (xc_10 hw) cls_X3 (k := 5) (by decide) uw_1_109 rfl dX3_clear_16 ?_
  refine J_iconst (v := (0 : Int32)) hX dX3_clear_19 (by decide) ?_
  obtain ⟨σ_4, hc_5, h⟩ := bnd1_some h
  refine K_callS [.ref (wad (xw X) 13), .int (0 : Int32)] hX hg hR (ctX_fill_minutes hw hc_5) lk_X3_70_J7_fill_53178 md_J7_fill_53178 ⟨by decide, by decide⟩ rfl rfl (Nat.le_of_ble_eq_true rfl) dX3_clear_20 ?_
  refine J_aload_n (q := 0) hX dX3_clear_23 rfl rfl ?_
  refine K_getc 19 hX (xc_10 hw) cls_X3 (k := 11) (by decide) uw_1_130 rfl dX3_clear_24 ?_
  refine J_iconst (v := (0 : Int32)) hX dX3_clear_27 (by decide) ?_
  obtain ⟨σ_6, hc_7, h⟩ := bnd1_some h
  refine K_callS [.ref (wad (xw X) 19), .int (0 : Int32)] hX hg hR (ctX_fill_ddebts hw hc_7) lk_X3_70_J7_fill_53178 md_J7_fill_53178 ⟨by decide, by decide⟩ rfl rfl (Nat.le_of_ble_eq_true rfl) dX3_clear_28 ?_
  refine J_aload_n (q := 0) hX dX3_clear_31 rfl rfl ?_
  refine K_gPd hX hw uw_1_84 dX3_clear_32 ?_
  refine K_putp hX (xc_10 hw) cls_X3 (k := 12) (by decide) uw_1_133 rfl rfl rfl dX3_clear_35 h (fun σ_8 h => ?_)
  refine J_aload_n (q := 0) hX dX3_clear_38 rfl rfl ?_
  refine K_gPp hX hw uw_1_86 dX3_clear_39 ?_
  refine K_putp hX (xc_10 hw) cls_X3 (k := 13) (by decide) uw_1_136 rfl rfl rfl dX3_clear_42 h (fun σ_9 h => ?_)
  refine J_aload_n (q := 0) hX dX3_clear_45 rfl rfl ?_
  refine J_bipush (v := (99 : Int32)) hX dX3_clear_46 (by decide) ?_
  refine K_puti hX (xc_10 hw) cls_X3 (k := 14) (by decide) uw_1_139 rfl rfl rfl dX3_clear_48 h (fun σ_10 h => ?_)
  refine J_aload_n (q := 0) hX dX3_clear_51 rfl rfl ?_
  refine J_bipush (v := (60 : Int32)) hX dX3_clear_52 (by decide) ?_
  refine K_puti hX (xc_10 hw) cls_X3 (k := 15) (by decide) uw_1_142 rfl rfl rfl dX3_clear_54 h (fun σ_11 h => ?_)
  refine J_aload_n (q := 0) hX dX3_clear_57 rfl rfl ?_
  refine J_sipush (v := (360 : Int32)) hX dX3_clear_58 (by decide) ?_
  refine K_puti hX (xc_10 hw) cls_X3 (k := 16) (by decide) uw_1_146 rfl rfl rfl dX3_clear_61 h (fun σ_12 h => ?_)
  exact K_vret hX hr dX3_clear_64 h
theorem ctX_clear {w : WT} (hw : isX w) {σ : St} {τ : St} (h : rX_clear σ = some τ) : Ct yX3_clear cX3_clear 1 none 1 23 w [.ref (wad w 10)] σ none τ 0 0 :=
  Ct_intro (fun _ => (0, 0)) (by decide) rfl ⟨rfl, Nat.le_refl _⟩ (Nat.le_of_ble_eq_true rfl) (fun X hX hR hwX hg hr => by subst hwX; exact tX_clear hX hw hg hR hr  σ h)

def rX_mcopy (σ : St) : Option (St) :=
  nm (setI σ 23 0 (σ.1 10 0)) fun σ_1 => nm (setI σ_1 23 1 (σ_1.1 10 1)) fun σ_2 => nm (setI σ_2 23 2 (σ_2.1 10 2)) fun σ_3 => chk (cpb (0 : Int32) (0 : Int32) (nI 7) 7 7) (nm (setR σ_3 24 (va_cpy (σ_3.1 11) (σ_3.1 24) (0 : Int32).toNatClampNeg (0 : Int32).toNatClampNeg (nI 7).toNatClampNeg)) fun σ_4 => chk (cpb (0 : Int32) (0 : Int32) (nI 7) 7 7) (nm (setR σ_4 25 (va_cpy (σ_4.1 12) (σ_4.1 25) (0 : Int32).toNatClampNeg (0 : Int32).toNatClampNeg (nI 7).toNatClampNeg)) fun σ_5 => chk (cpb (0 : Int32) (0 : Int32) (nI 49) 49 49) (nm (setR σ_5 26 (va_cpy (σ_5.1 13) (σ_5.1 26) (0 : Int32).toNatClampNeg (0 : Int32).toNatClampNeg (nI 49).toNatClampNeg)) fun σ_6 => chk (cpb (0 : Int32) (0 : Int32) (nI 49) 49 49) (nm (setR σ_6 27 (va_cpy (σ_6.1 14) (σ_6.1 27) (0 : Int32).toNatClampNeg (0 : Int32).toNatClampNeg (nI 49).toNatClampNeg)) fun σ_7 => chk (cpb (0 : Int32) (0 : Int32) (nI 6) 6 6) (nm (setR σ_7 28 (va_cpy (σ_7.1 15) (σ_7.1 28) (0 : Int32).toNatClampNeg (0 : Int32).toNatClampNeg (nI 6).toNatClampNeg)) fun σ_8 => chk (cpb (0 : Int32) (0 : Int32) (nI 6) 6 6) (nm (setR σ_8 29 (va_cpy (σ_8.1 16) (σ_8.1 29) (0 : Int32).toNatClampNeg (0 : Int32).toNatClampNeg (nI 6).toNatClampNeg)) fun σ_9 => chk (cpb (0 : Int32) (0 : Int32) (nI 6) 6 6) (nm (setR σ_9 30 (va_cpy (σ_9.1 17) (σ_9.1 30) (0 : Int32).toNatClampNeg (0 : Int32).toNatClampNeg (nI 6).toNatClampNeg)) fun σ_10 => chk (cpb (0 : Int32) (0 : Int32) (nI 6) 6 6) (nm (setR σ_10 31 (va_cpy (σ_10.1 18) (σ_10.1 31) (0 : Int32).toNatClampNeg (0 : Int32).toNatClampNeg (nI 6).toNatClampNeg)) fun σ_11 => chk (cpb (0 : Int32) (0 : Int32) (nI 36) 36 36) (nm (setR σ_11 32 (va_cpy (σ_11.1 19) (σ_11.1 32) (0 : Int32).toNatClampNeg (0 : Int32).toNatClampNeg (nI 36).toNatClampNeg)) fun σ_12 => nm (setP σ_12 23 12 (σ_12.2.2.1 10 12)) fun σ_13 => nm (setP σ_13 23 13 (σ_13.2.2.1 10 13)) fun σ_14 => nm (setI σ_14 23 14 (σ_14.1 10 14)) fun σ_15 => nm (setI σ_15 23 15 (σ_15.1 10 15)) fun σ_16 => nm (setI σ_16 23 16 (σ_16.1 10 16)) fun σ_17 => some σ_17)))))))))
set_option maxRecDepth 100000 in
theorem tX_mcopy {X : CX} (hX : gd X cX3_copyFrom 2 RX3 none) (hw : isX (xw X)) (hg : nA X) (hR : xR X = rmOf 1 26 0 0) {τ : St} (hr : xr X = (none, τ)) (σ : St) (h : rX_mcopy σ = some τ) : Jd X 2 0 [(0, .ref (wad (xw X) 23)), (1, .ref (wad (xw X) 10))] [] σ := by
  unfold rX_mcopy at h
  refine J_aload_n (q := 0) hX dX3_copyFrom_0 rfl rfl ?_
  refine J_aload_n (q := 1) hX dX3_copyFrom_1 rfl rfl ?_
  refine K_geti hX (xc_10 hw) cls_X3 (k := 0) (by decide) uw_1_88 rfl dX3_copyFrom_2 ?_
  refine K_puti hX (xc_23 hw) cls_X3 (k := 0) (by decide) uw_1_88 rfl rfl rfl dX3_copyFrom_5 h (fun σ_1 h => ?_)
  refine J_aload_n (q := 0) hX dX3_copyFrom_8 rfl rfl ?_
  refine J_aload_n (q := 1) hX dX3_copyFrom_9 rfl rfl ?_
  refine K_geti hX (xc_10 hw) cls_X3 (k := 1) (by decide) uw_1_92 rfl dX3_copyFrom_10 ?_
  refine K_puti hX (xc_23 hw) cls_X3 (k := 1) (by decide) uw_1_92 rfl rfl rfl dX3_copyFrom_13 h (fun σ_2 h => ?_)
  refine J_aload_n (q := 0) hX dX3_copyFrom_16 rfl rfl ?_
  refine J_aload_n (q := 1) hX dX3_copyFrom_17 rfl rfl ?_
  refine K_geti hX (xc_10 hw) cls_X3 (k := 2) (by decide) uw_1_96 rfl dX3_copyFrom_18 ?_
  refine K_puti hX (xc_23 hw) cls_X3 (k := 2) (by decide) uw_1_96 rfl rfl rfl dX3_copyFrom_21 h (fun σ_3 h => ?_)
  refine J_aload_n (q := 1) hX dX3_copyFrom_24 rfl rfl ?_
  refine K_getc 11 hX (xc_10 hw) cls_X3 (k := 3) (by decide) uw_1_101 rfl dX3_copyFrom_25 ?_
  refine J_iconst (v := (0 : Int32)) hX dX3_copyFrom_28 (by decide) ?_
  refine J_aload_n (q := 0) hX dX3_copyFrom_29 rfl rfl ?_
  refine K_getc 24 hX (xc_23 hw) cls_X3 (k := 3) (by decide) uw_1_101 rfl dX3_copyFrom_30 ?_
  refine J_iconst (v := (0 : Int32)) hX dX3_copyFrom_33 (by decide) ?_
  refine J_aload_n (q := 0) hX dX3_copyFrom_34 rfl rfl ?_
  refine K_getc 24 hX (xc_23 hw) cls_X3 (k := 3) (by decide) uw_1_101 rfl dX3_copyFrom_35 ?_
  refine K_alen hX (xc_24 hw) rfl dX3_copyFrom_38 ?_
  refine K_copy hX hR (xc_11 hw) (xc_24 hw) lcpy_X3_76 ⟨by omega, by omega⟩ (Nat.le_of_ble_eq_true rfl) dX3_copyFrom_39 h (fun σ_4 h => ?_)
  refine J_aload_n (q := 1) hX dX3_copyFrom_42 rfl rfl ?_
  refine K_getc 12 hX (xc_10 hw) cls_X3 (k := 4) (by decide) uw_1_105 rfl dX3_copyFrom_43 ?_
  refine J_iconst (v := (0 : Int32)) hX dX3_copyFrom_46 (by decide) ?_
  refine J_aload_n (q := 0) hX dX3_copyFrom_47 rfl rfl ?_
  refine K_getc 25 hX (xc_23 hw) cls_X3 (k := 4) (by decide) uw_1_105 rfl dX3_copyFrom_48 ?_
  refine J_iconst (v := (0 : Int32)) hX dX3_copyFrom_51 (by decide) ?_
  refine J_aload_n (q := 0) hX dX3_copyFrom_52 rfl rfl ?_
  refine K_getc 25 hX (xc_23 hw) cls_X3 (k := 4) (by decide) uw_1_105 rfl dX3_copyFrom_53 ?_
  refine K_alen hX (xc_25 hw) rfl dX3_copyFrom_56 ?_
  refine K_copy hX hR (xc_12 hw) (xc_25 hw) lcpy_X3_76 ⟨by omega, by omega⟩ (Nat.le_of_ble_eq_true rfl) dX3_copyFrom_57 h (fun σ_5 h => ?_)
  refine J_aload_n (q := 1) hX dX3_copyFrom_60 rfl rfl ?_
  refine K_getc 13 hX (xc_10 hw) cls_X3 (k := 5) (by decide) uw_1_109 rfl dX3_copyFrom_61 ?_
  refine J_iconst (v := (0 : Int32)) hX dX3_copyFrom_64 (by decide) ?_
  refine J_aload_n (q := 0) hX dX3_copyFrom_65 rfl rfl ?_
  refine K_getc 26 hX (xc_23 hw) cls_X3 (k := 5) (by decide) uw_1_109 rfl dX3_copyFrom_66 ?_
  refine J_iconst (v := (0 : Int32)) hX dX3_copyFrom_69 (by decide) ?_
  refine J_aload_n (q := 0) hX dX3_copyFrom_70 rfl rfl ?_
  refine K_getc 26 hX (xc_23 hw) cls_X3 (k := 5) (by decide) uw_1_109 rfl dX3_copyFrom_71 ?_
  refine K_alen hX (xc_26 hw) rfl dX3_copyFrom_74 ?_
  refine K_copy hX hR (xc_13 hw) (xc_26 hw) lcpy_X3_76 ⟨by omega, by omega⟩ (Nat.le_of_ble_eq_true rfl) dX3_copyFrom_75 h (fun σ_6 h => ?_)
  refine J_aload_n (q := 1) hX dX3_copyFrom_78 rfl rfl ?_
  refine K_getc 14 hX (xc_10 hw) cls_X3 (k := 6) (by decide) uw_1_112 rfl dX3_copyFrom_79 ?_
  refine J_iconst (v := (0 : Int32)) hX dX3_copyFrom_82 (by decide) ?_
  refine J_aload_n (q := 0) hX dX3_copyFrom_83 rfl rfl ?_
  refine K_getc 27 hX (xc_23 hw) cls_X3 (k := 6) (by decide) uw_1_112 rfl dX3_copyFrom_84 ?_
  refine J_iconst (v := (0 : Int32)) hX dX3_copyFrom_87 (by decide) ?_
  refine J_aload_n (q := 0) hX dX3_copyFrom_88 rfl rfl ?_
  refine K_getc 27 hX (xc_23 hw) cls_X3 (k := 6) (by decide) uw_1_112 rfl dX3_copyFrom_89 ?_
  refine K_alen hX (xc_27 hw) rfl dX3_copyFrom_92 ?_
  refine K_copy hX hR (xc_14 hw) (xc_27 hw) lcpy_X3_76 ⟨by omega, by omega⟩ (Nat.le_of_ble_eq_true rfl) dX3_copyFrom_93 h (fun σ_7 h => ?_)
  refine J_aload_n (q := 1) hX dX3_copyFrom_96 rfl rfl ?_
  refine K_getc 15 hX (xc_10 hw) cls_X3 (k := 7) (by decide) uw_1_115 rfl dX3_copyFrom_97 ?_
  refine J_iconst (v := (0 : Int32)) hX dX3_copyFrom_100 (by decide) ?_
  refine J_aload_n (q := 0) hX dX3_copyFrom_101 rfl rfl ?_
  refine K_getc 28 hX (xc_23 hw) cls_X3 (k := 7) (by decide) uw_1_115 rfl dX3_copyFrom_102 ?_
  refine J_iconst (v := (0 : Int32)) hX dX3_copyFrom_105 (by decide) ?_
  refine J_aload_n (q := 0) hX dX3_copyFrom_106 rfl rfl ?_
  refine K_getc 28 hX (xc_23 hw) cls_X3 (k := 7) (by decide) uw_1_115 rfl dX3_copyFrom_107 ?_
  refine K_alen hX (xc_28 hw) rfl dX3_copyFrom_110 ?_
  refine K_copy hX hR (xc_15 hw) (xc_28 hw) lcpy_X3_76 ⟨by omega, by omega⟩ (Nat.le_of_ble_eq_true rfl) dX3_copyFrom_111 h (fun σ_8 h => ?_)
  refine J_aload_n (q := 1) hX dX3_copyFrom_114 rfl rfl ?_
  refine K_getc 16 hX (xc_10 hw) cls_X3 (k := 8) (by decide) uw_1_119 rfl dX3_copyFrom_115 ?_
  refine J_iconst (v := (0 : Int32)) hX dX3_copyFrom_118 (by decide) ?_
  refine J_aload_n (q := 0) hX dX3_copyFrom_119 rfl rfl ?_
  refine K_getc 29 hX (xc_23 hw) cls_X3 (k := 8) (by decide) uw_1_119 rfl dX3_copyFrom_120 ?_
  refine J_iconst (v := (0 : Int32)) hX dX3_copyFrom_123 (by decide) ?_
  refine J_aload_n (q := 0) hX dX3_copyFrom_124 rfl rfl ?_
  refine K_getc 29 hX (xc_23 hw) cls_X3 (k := 8) (by decide) uw_1_119 rfl dX3_copyFrom_125 ?_
  refine K_alen hX (xc_29 hw) rfl dX3_copyFrom_128 ?_
  refine K_copy hX hR (xc_16 hw) (xc_29 hw) lcpy_X3_76 ⟨by omega, by omega⟩ (Nat.le_of_ble_eq_true rfl) dX3_copyFrom_129 h (fun σ_9 h => ?_)
  refine J_aload_n (q := 1) hX dX3_copyFrom_132 rfl rfl ?_
  refine K_getc 17 hX (xc_10 hw) cls_X3 (k := 9) (by decide) uw_1_121 rfl dX3_copyFrom_133 ?_
  refine J_iconst (v := (0 : Int32)) hX dX3_copyFrom_136 (by decide) ?_
  refine J_aload_n (q := 0) hX dX3_copyFrom_137 rfl rfl ?_
  refine K_getc 30 hX (xc_23 hw) cls_X3 (k := 9) (by decide) uw_1_121 rfl dX3_copyFrom_138 ?_
  refine J_iconst (v := (0 : Int32)) hX dX3_copyFrom_141 (by decide) ?_
  refine J_aload_n (q := 0) hX dX3_copyFrom_142 rfl rfl ?_
  refine K_getc 30 hX (xc_23 hw) cls_X3 (k := 9) (by decide) uw_1_121 rfl dX3_copyFrom_143 ?_
  refine K_alen hX (xc_30 hw) rfl dX3_copyFrom_146 ?_
  refine K_copy hX hR (xc_17 hw) (xc_30 hw) lcpy_X3_76 ⟨by omega, by omega⟩ (Nat.le_of_ble_eq_true rfl) dX3_copyFrom_147 h (fun σ_10 h => ?_)
  refine J_aload_n (q := 1) hX dX3_copyFrom_150 rfl rfl ?_
  refine K_getc 18 hX (xc_10 hw) cls_X3 (k := 10) (by decide) uw_1_125 rfl dX3_copyFrom_151 ?_
  refine J_iconst (v := (0 : Int32)) hX dX3_copyFrom_154 (by decide) ?_
  refine J_aload_n (q := 0) hX dX3_copyFrom_155 rfl rfl ?_
  refine K_getc 31 hX (xc_23 hw) cls_X3 (k := 10) (by decide) uw_1_125 rfl dX3_copyFrom_156 ?_
  refine J_iconst (v := (0 : Int32)) hX dX3_copyFrom_159 (by decide) ?_
  refine J_aload_n (q := 0) hX dX3_copyFrom_160 rfl rfl ?_
  refine K_getc 31 hX (xc_23 hw) cls_X3 (k := 10) (by decide) uw_1_125 rfl dX3_copyFrom_161 ?_
  refine K_alen hX (xc_31 hw) rfl dX3_copyFrom_164 ?_
  refine K_copy hX hR (xc_18 hw) (xc_31 hw) lcpy_X3_76 ⟨by omega, by omega⟩ (Nat.le_of_ble_eq_true rfl) dX3_copyFrom_165 h (fun σ_11 h => ?_)
  refine J_aload_n (q := 1) hX dX3_copyFrom_168 rfl rfl ?_
  refine K_getc 19 hX (xc_10 hw) cls_X3 (k := 11) (by decide) uw_1_130 rfl dX3_copyFrom_169 ?_
  refine J_iconst (v := (0 : Int32)) hX dX3_copyFrom_172 (by decide) ?_
  refine J_aload_n (q := 0) hX dX3_copyFrom_173 rfl rfl ?_
  refine K_getc 32 hX (xc_23 hw) cls_X3 (k := 11) (by decide) uw_1_130 rfl dX3_copyFrom_174 ?_
  refine J_iconst (v := (0 : Int32)) hX dX3_copyFrom_177 (by decide) ?_
  refine J_aload_n (q := 0) hX dX3_copyFrom_178 rfl rfl ?_
  refine K_getc 32 hX (xc_23 hw) cls_X3 (k := 11) (by decide) uw_1_130 rfl dX3_copyFrom_179 ?_
  refine K_alen hX (xc_32 hw) rfl dX3_copyFrom_182 ?_
  refine K_copy hX hR (xc_19 hw) (xc_32 hw) lcpy_X3_76 ⟨by omega, by omega⟩ (Nat.le_of_ble_eq_true rfl) dX3_copyFrom_183 h (fun σ_12 h => ?_)
  refine J_aload_n (q := 0) hX dX3_copyFrom_186 rfl rfl ?_
  refine J_aload_n (q := 1) hX dX3_copyFrom_187 rfl rfl ?_
  refine K_getp hX (xc_10 hw) cls_X3 (k := 12) (by decide) uw_1_133 rfl dX3_copyFrom_188 ?_
  refine K_putp hX (xc_23 hw) cls_X3 (k := 12) (by decide) uw_1_133 rfl rfl rfl dX3_copyFrom_191 h (fun σ_13 h => ?_)
  refine J_aload_n (q := 0) hX dX3_copyFrom_194 rfl rfl ?_
  refine J_aload_n (q := 1) hX dX3_copyFrom_195 rfl rfl ?_
  refine K_getp hX (xc_10 hw) cls_X3 (k := 13) (by decide) uw_1_136 rfl dX3_copyFrom_196 ?_
  refine K_putp hX (xc_23 hw) cls_X3 (k := 13) (by decide) uw_1_136 rfl rfl rfl dX3_copyFrom_199 h (fun σ_14 h => ?_)
  refine J_aload_n (q := 0) hX dX3_copyFrom_202 rfl rfl ?_
  refine J_aload_n (q := 1) hX dX3_copyFrom_203 rfl rfl ?_
  refine K_geti hX (xc_10 hw) cls_X3 (k := 14) (by decide) uw_1_139 rfl dX3_copyFrom_204 ?_
  refine K_puti hX (xc_23 hw) cls_X3 (k := 14) (by decide) uw_1_139 rfl rfl rfl dX3_copyFrom_207 h (fun σ_15 h => ?_)
  refine J_aload_n (q := 0) hX dX3_copyFrom_210 rfl rfl ?_
  refine J_aload_n (q := 1) hX dX3_copyFrom_211 rfl rfl ?_
  refine K_geti hX (xc_10 hw) cls_X3 (k := 15) (by decide) uw_1_142 rfl dX3_copyFrom_212 ?_
  refine K_puti hX (xc_23 hw) cls_X3 (k := 15) (by decide) uw_1_142 rfl rfl rfl dX3_copyFrom_215 h (fun σ_16 h => ?_)
  refine J_aload_n (q := 0) hX dX3_copyFrom_218 rfl rfl ?_
  refine J_aload_n (q := 1) hX dX3_copyFrom_219 rfl rfl ?_
  refine K_geti hX (xc_10 hw) cls_X3 (k := 16) (by decide) uw_1_146 rfl dX3_copyFrom_220 ?_
  refine K_puti hX (xc_23 hw) cls_X3 (k := 16) (by decide) uw_1_146 rfl rfl rfl dX3_copyFrom_223 h (fun σ_17 h => ?_)
  exact K_vret hX hr dX3_copyFrom_226 h
theorem ctX_mcopy {w : WT} (hw : isX w) {σ : St} {τ : St} (h : rX_mcopy σ = some τ) : Ct yX3_copyFrom cX3_copyFrom 2 none 1 26 w [.ref (wad w 23), .ref (wad w 10)] σ none τ 0 0 :=
  Ct_intro (fun _ => (0, 0)) (by decide) rfl ⟨rfl, Nat.le_refl _⟩ (Nat.le_of_ble_eq_true rfl) (fun X hX hR hwX hg hr => by subst hwX; exact tX_mcopy hX hw hg hR hr  σ h)

def rX_dawn (σ : St) : Option (St) :=
  nm (setI σ 33 0 (0 : Int32)) fun σ_1 => nm (setI σ_1 33 1 (0 : Int32)) fun σ_2 => nm (setI σ_2 33 2 (σ_2.1 23 15)) fun σ_3 => nm (setI σ_3 33 4 (0 : Int32)) fun σ_4 => bnd1 (rX_fill_gone (0 : Int32) σ_4) fun σ_5 => chk (cpb (0 : Int32) (0 : Int32) (nI 7) 7 7) (nm (setR σ_5 34 (va_cpy (σ_5.1 25) (σ_5.1 34) (0 : Int32).toNatClampNeg (0 : Int32).toNatClampNeg (nI 7).toNatClampNeg)) fun σ_7 => some σ_7)
set_option maxRecDepth 100000 in
theorem tX_dawn {X : CX} (hX : gd X cX0_dawn 2 RX0 none) (hw : isX (xw X)) (hg : nA X) (hR : xR X = rmOf 1 26 0 0) {τ : St} (hr : xr X = (none, τ)) (σ : St) (h : rX_dawn σ = some τ) : Jd X 2 0 [(0, .ref (wad (xw X) 33)), (1, .ref (wad (xw X) 23))] [] σ := by
  unfold rX_dawn at h
  refine J_aload_n (q := 0) hX dX0_dawn_0 rfl rfl ?_
  refine J_iconst (v := (0 : Int32)) hX dX0_dawn_1 (by decide) ?_
  refine K_puti hX (xc_33 hw) cls_X0 (k := 0) (by decide) uw_2_10 rfl rfl rfl dX0_dawn_2 h (fun σ_1 h => ?_)
  refine J_aload_n (q := 0) hX dX0_dawn_5 rfl rfl ?_
  refine J_iconst (v := (0 : Int32)) hX dX0_dawn_6 (by decide) ?_
  refine K_puti hX (xc_33 hw) cls_X0 (k := 1) (by decide) uw_2_13 rfl rfl rfl dX0_dawn_7 h (fun σ_2 h => ?_)
  refine J_aload_n (q := 0) hX dX0_dawn_10 rfl rfl ?_
  refine J_aload_n (q := 1) hX dX0_dawn_11 rfl rfl ?_
  refine K_geti hX (xc_23 hw) cls_X3 (k := 15) (by decide) uw_1_143 rfl dX0_dawn_12 ?_
  refine K_puti hX (xc_33 hw) cls_X0 (k := 2) (by decide) uw_2_16 rfl rfl rfl dX0_dawn_15 h (fun σ_3 h => ?_)
  refine J_aload_n (q := 0) hX dX0_dawn_18 rfl rfl ?_
  refine J_iconst (v := (0 : Int32)) hX dX0_dawn_19 (by decide) ?_
  refine K_puti hX (xc_33 hw) cls_X0 (k := 4) (by decide) uw_2_20 rfl rfl rfl dX0_dawn_20 h (fun σ_4 h => ?_)
  refine J_aload_n (q := 0) hX dX0_dawn_23 rfl rfl ?_
  refine K_getc 35 hX (xc_33 hw) cls_X0 (k := 6) (by decide) uw_2_25 rfl dX0_dawn_24 ?_
  refine J_iconst (v := (0 : Int32)) hX dX0_dawn_27 (by decide) ?_
  obtain ⟨σ_5, hc_6, h⟩ := bnd1_some h
  refine K_callS [.ref (wad (xw X) 35), .int (0 : Int32)] hX hg hR (ctX_fill_gone hw hc_6) lk_X0_44_J7_fill_53178 md_J7_fill_53178 ⟨by decide, by decide⟩ rfl rfl (Nat.le_of_ble_eq_true rfl) dX0_dawn_28 ?_
  refine J_aload_n (q := 1) hX dX0_dawn_31 rfl rfl ?_
  refine K_getc 25 hX (xc_23 hw) cls_X3 (k := 4) (by decide) uw_1_106 rfl dX0_dawn_32 ?_
  refine J_iconst (v := (0 : Int32)) hX dX0_dawn_35 (by decide) ?_
  refine J_aload_n (q := 0) hX dX0_dawn_36 rfl rfl ?_
  refine K_getc 34 hX (xc_33 hw) cls_X0 (k := 5) (by decide) uw_2_22 rfl dX0_dawn_37 ?_
  refine J_iconst (v := (0 : Int32)) hX dX0_dawn_40 (by decide) ?_
  refine J_aload_n (q := 0) hX dX0_dawn_41 rfl rfl ?_
  refine K_getc 34 hX (xc_33 hw) cls_X0 (k := 5) (by decide) uw_2_22 rfl dX0_dawn_42 ?_
  refine K_alen hX (xc_34 hw) rfl dX0_dawn_45 ?_
  refine K_copy hX hR (xc_25 hw) (xc_34 hw) lcpy_X0_53 ⟨by omega, by omega⟩ (Nat.le_of_ble_eq_true rfl) dX0_dawn_46 h (fun σ_7 h => ?_)
  exact K_vret hX hr dX0_dawn_49 h
theorem ctX_dawn {w : WT} (hw : isX w) {σ : St} {τ : St} (h : rX_dawn σ = some τ) : Ct yX0_dawn cX0_dawn 2 none 1 26 w [.ref (wad w 33), .ref (wad w 23)] σ none τ 0 0 :=
  Ct_intro (fun _ => (0, 0)) (by decide) rfl ⟨rfl, Nat.le_refl _⟩ (Nat.le_of_ble_eq_true rfl) (fun X hX hR hwX hg hr => by subst hwX; exact tX_dawn hX hw hg hR hr  σ h)

def rX_begin (σ : St) : Option (St) :=
  bnd1 (rX_dawn σ) fun σ_1 => nm (setJ σ_1 33 3 (0 : Int64)) fun σ_3 => bnd1 (rX_fill_paid (0 : Int32) σ_3) fun σ_4 => bnd1 (rX_fill_patches (0 : Int32) σ_4) fun σ_6 => chk (cpb (0 : Int32) (0 : Int32) (nI 36) 36 36) (nm (setR σ_6 38 (va_cpy (σ_6.1 32) (σ_6.1 38) (0 : Int32).toNatClampNeg (0 : Int32).toNatClampNeg (nI 36).toNatClampNeg)) fun σ_8 => some σ_8)
set_option maxRecDepth 100000 in
theorem tX_begin {X : CX} (hX : gd X cX0_begin 2 RX0 none) (hw : isX (xw X)) (hg : nA X) (hR : xR X = rmOf 2 47 0 0) {τ : St} (hr : xr X = (none, τ)) (σ : St) (h : rX_begin σ = some τ) : Jd X 2 0 [(0, .ref (wad (xw X) 33)), (1, .ref (wad (xw X) 23))] [] σ := by
  unfold rX_begin at h
  refine J_aload_n (q := 0) hX dX0_begin_0 rfl rfl ?_
  refine J_aload_n (q := 1) hX dX0_begin_1 rfl rfl ?_
  obtain ⟨σ_1, hc_2, h⟩ := bnd1_some h
  refine K_callV [.ref (wad (xw X) 23)] hX hg hR (ctX_dawn hw hc_2) lk_X0_36_X0_dawn md_X0_dawn (xc_33 hw) cls_X0 ⟨by decide, by decide⟩ rfl rfl (Nat.le_of_ble_eq_true rfl) dX0_begin_2 ?_
  refine J_aload_n (q := 0) hX dX0_begin_5 rfl rfl ?_
  refine J_lconst (v := 0) hX dX0_begin_6 (by decide) ?_
  refine K_putl hX (xc_33 hw) cls_X0 (k := 3) (by decide) uw_2_18 rfl rfl rfl dX0_begin_7 h (fun σ_3 h => ?_)
  refine J_aload_n (q := 0) hX dX0_begin_10 rfl rfl ?_
  refine K_getc 36 hX (xc_33 hw) cls_X0 (k := 7) (by decide) uw_2_27 rfl dX0_begin_11 ?_
  refine J_iconst (v := (0 : Int32)) hX dX0_begin_14 (by decide) ?_
  obtain ⟨σ_4, hc_5, h⟩ := bnd1_some h
  refine K_callS [.ref (wad (xw X) 36), .int (0 : Int32)] hX hg hR (ctX_fill_paid hw hc_5) lk_X0_44_J7_fill_53178 md_J7_fill_53178 ⟨by decide, by decide⟩ rfl rfl (Nat.le_of_ble_eq_true rfl) dX0_begin_15 ?_
  refine J_aload_n (q := 0) hX dX0_begin_18 rfl rfl ?_
  refine K_getc 37 hX (xc_33 hw) cls_X0 (k := 8) (by decide) uw_2_29 rfl dX0_begin_19 ?_
  refine J_iconst (v := (0 : Int32)) hX dX0_begin_22 (by decide) ?_
  obtain ⟨σ_6, hc_7, h⟩ := bnd1_some h
  refine K_callS [.ref (wad (xw X) 37), .int (0 : Int32)] hX hg hR (ctX_fill_patches hw hc_7) lk_X0_44_J7_fill_53178 md_J7_fill_53178 ⟨by decide, by decide⟩ rfl rfl (Nat.le_of_ble_eq_true rfl) dX0_begin_23 ?_
  refine J_aload_n (q := 1) hX dX0_begin_26 rfl rfl ?_
  refine K_getc 32 hX (xc_23 hw) cls_X3 (k := 11) (by decide) uw_1_131 rfl dX0_begin_27 ?_
  refine J_iconst (v := (0 : Int32)) hX dX0_begin_30 (by decide) ?_
  refine J_aload_n (q := 0) hX dX0_begin_31 rfl rfl ?_
  refine K_getc 38 hX (xc_33 hw) cls_X0 (k := 9) (by decide) uw_2_32 rfl dX0_begin_32 ?_
  refine J_iconst (v := (0 : Int32)) hX dX0_begin_35 (by decide) ?_
  refine J_aload_n (q := 0) hX dX0_begin_36 rfl rfl ?_
  refine K_getc 38 hX (xc_33 hw) cls_X0 (k := 9) (by decide) uw_2_32 rfl dX0_begin_37 ?_
  refine K_alen hX (xc_38 hw) rfl dX0_begin_40 ?_
  refine K_copy hX hR (xc_32 hw) (xc_38 hw) lcpy_X0_53 ⟨by omega, by omega⟩ (Nat.le_of_ble_eq_true rfl) dX0_begin_41 h (fun σ_8 h => ?_)
  exact K_vret hX hr dX0_begin_44 h
theorem ctX_begin {w : WT} (hw : isX w) {σ : St} {τ : St} (h : rX_begin σ = some τ) : Ct yX0_begin cX0_begin 2 none 2 47 w [.ref (wad w 33), .ref (wad w 23)] σ none τ 0 0 :=
  Ct_intro (fun _ => (0, 0)) (by decide) rfl ⟨rfl, Nat.le_refl _⟩ (Nat.le_of_ble_eq_true rfl) (fun X hX hR hwX hg hr => by subst hwX; exact tX_begin hX hw hg hR hr  σ h)

def rX_balance_4 (k4 : Int32 → Int32 → Int32 → St → Option (Int32 × St)) (v1 : Int32) (v2 : Int32) (v3 : Int32) (σ : St) : Option (Int32 × St) :=
  brc ((6 : Int32) ≤ v3) (some (v2, σ)) (chk (ib ((v1 * (6 : Int32)) + v3) 36) (chk (ib ((v3 * (6 : Int32)) + v1) 36) (nm (v2 + ((σ.1 38 ((v1 * (6 : Int32)) + v3).toNatClampNeg) - (σ.1 38 ((v3 * (6 : Int32)) + v1).toNatClampNeg))) fun v2_3 => nm (v3 + Int32.ofInt 1) fun v3_4 => k4 v1 v2_3 v3_4 σ)))
set_option maxRecDepth 100000 in
theorem tX_balance_4b {X : CX} (hX : gd X cX0_balance 4 RX0 (some .int)) (hw : isX (xw X)) (hg : nA X) (hR : xR X = rmOf 0 0 0 0) {r : Int32} {τ : St} (hr : xr X = (some (.int r), τ)) {k4 : Int32 → Int32 → Int32 → St → Option (Int32 × St)} (hk4 : (∀ (v1 : Int32) (v2 : Int32) (v3 : Int32) (σ : St), k4 v1 v2 v3 σ = some (r, τ) → Jd X 4 4 [(0, .ref (wad (xw X) 33)), (1, .int v1), (2, .int v2), (3, .int v3)] [] σ)) (v1 : Int32) (v2 : Int32) (v3 : Int32) (σ : St) (h : rX_balance_4 k4 v1 v2 v3 σ = some (r, τ)) : Jd X 4 4 [(0, .ref (wad (xw X) 33)), (1, .int v1), (2, .int v2), (3, .int v3)] [] σ := by
  unfold rX_balance_4 at h
  refine J_iload_n (q := 3) hX dX0_balance_4 rfl rfl ?_
  refine J_bipush (v := (6 : Int32)) hX dX0_balance_5 (by decide) ?_
  refine K_icmp_ge (tgt := 42) hX dX0_balance_7 rfl h (fun h => ?_) (fun h => ?_)
  · refine J_iload_n (q := 2) hX dX0_balance_42 rfl rfl ?_
    exact K_iret hX hr dX0_balance_43 h
  · refine J_iload_n (q := 2) hX dX0_balance_10 rfl rfl ?_
    refine J_aload_n (q := 0) hX dX0_balance_11 rfl rfl ?_
    refine K_getc 38 hX (xc_33 hw) cls_X0 (k := 9) (by decide) uw_2_32 rfl dX0_balance_12 ?_
    refine J_iload_n (q := 1) hX dX0_balance_15 rfl rfl ?_
    refine J_bipush (v := (6 : Int32)) hX dX0_balance_16 (by decide) ?_
    refine J_imul hX dX0_balance_18 ?_
    refine J_iload_n (q := 3) hX dX0_balance_19 rfl rfl ?_
    refine J_iadd hX dX0_balance_20 ?_
    refine K_iald hX (xc_38 hw) dX0_balance_21 h (fun h => ?_)
    refine J_aload_n (q := 0) hX dX0_balance_22 rfl rfl ?_
    refine K_getc 38 hX (xc_33 hw) cls_X0 (k := 9) (by decide) uw_2_32 rfl dX0_balance_23 ?_
    refine J_iload_n (q := 3) hX dX0_balance_26 rfl rfl ?_
    refine J_bipush (v := (6 : Int32)) hX dX0_balance_27 (by decide) ?_
    refine J_imul hX dX0_balance_29 ?_
    refine J_iload_n (q := 1) hX dX0_balance_30 rfl rfl ?_
    refine J_iadd hX dX0_balance_31 ?_
    refine K_iald hX (xc_38 hw) dX0_balance_32 h (fun h => ?_)
    refine J_isub hX dX0_balance_33 ?_
    refine J_iadd hX dX0_balance_34 ?_
    refine K_istore_n (fun v2_3 => [(2, .int v2_3), (0, .ref (wad (xw X) 33)), (1, .int v1), (3, .int v3)]) hX dX0_balance_35 rfl (by decide) (fun _ => rfl) h (fun v2_3 h => ?_)
    refine K_iinc (q := 3) (fun v3_4 => [(3, .int v3_4), (2, .int v2_3), (0, .ref (wad (xw X) 33)), (1, .int v1)]) hX dX0_balance_36 rfl (by decide) (fun _ => rfl) h (fun v3_4 h => ?_)
    refine J_goto (tgt := 4) hX dX0_balance_39 rfl ?_
    refine J_sub [2, 3, 1, 0] rfl ?_
    exact hk4 v1 v2_3 v3_4 σ h
def rX_balance_4L : ((Int32 × Int32 × Int32 × St) → Option (Int32 × St)) → (Int32 × Int32 × Int32 × St) → Option (Int32 × St) := fun k a => rX_balance_4 (fun v1 v2 v3 σ => k (v1, v2, v3, σ)) a.1 a.2.1 a.2.2.1 a.2.2.2
theorem tX_balance_4 {X : CX} (hX : gd X cX0_balance 4 RX0 (some .int)) (hw : isX (xw X)) (hg : nA X) (hR : xR X = rmOf 0 0 0 0) {r : Int32} {τ : St} (hr : xr X = (some (.int r), τ)) (n : Nat) (v1 : Int32) (v2 : Int32) (v3 : Int32) (σ : St) (h : lp (rX_balance_4L) n (v1, v2, v3, σ) = some (r, τ)) : Jd X 4 4 [(0, .ref (wad (xw X) 33)), (1, .int v1), (2, .int v2), (3, .int v3)] [] σ :=
  lp_ind (F := rX_balance_4L) (P := fun a => Jd X 4 4 [(0, .ref (wad (xw X) 33)), (1, .int a.1), (2, .int a.2.1), (3, .int a.2.2.1)] [] a.2.2.2) (fun k a hk h => tX_balance_4b hX hw hg hR hr (fun v1 v2 v3 σ h => hk (v1, v2, v3, σ) h) a.1 a.2.1 a.2.2.1 a.2.2.2 h) n (v1, v2, v3, σ) h

def rX_balance (v1 : Int32) (σ : St) : Option (Int32 × St) :=
  nm (0 : Int32) fun v2_1 => nm (0 : Int32) fun v3_2 => lp (rX_balance_4L) fu (v1, v2_1, v3_2, σ)
set_option maxRecDepth 100000 in
theorem tX_balance {X : CX} (hX : gd X cX0_balance 4 RX0 (some .int)) (hw : isX (xw X)) (hg : nA X) (hR : xR X = rmOf 0 0 0 0) {r : Int32} {τ : St} (hr : xr X = (some (.int r), τ)) (v1 : Int32) (σ : St) (h : rX_balance v1 σ = some (r, τ)) : Jd X 4 0 [(0, .ref (wad (xw X) 33)), (1, .int v1)] [] σ := by
  unfold rX_balance at h
  refine J_iconst (v := (0 : Int32)) hX dX0_balance_0 (by decide) ?_
  refine K_istore_n (fun v2_1 => [(2, .int v2_1), (0, .ref (wad (xw X) 33)), (1, .int v1)]) hX dX0_balance_1 rfl (by decide) (fun _ => rfl) h (fun v2_1 h => ?_)
  refine J_iconst (v := (0 : Int32)) hX dX0_balance_2 (by decide) ?_
  refine K_istore_n (fun v3_2 => [(3, .int v3_2), (2, .int v2_1), (0, .ref (wad (xw X) 33)), (1, .int v1)]) hX dX0_balance_3 rfl (by decide) (fun _ => rfl) h (fun v3_2 h => ?_)
  refine J_sub [2, 3, 1, 0] rfl ?_
  exact tX_balance_4 hX hw hg hR hr fu v1 v2_1 v3_2 σ h
theorem ctX_balance {w : WT} (hw : isX w) {v1 : Int32} {σ : St} {r : Int32} {τ : St} (h : rX_balance v1 σ = some (r, τ)) : Ct yX0_balance cX0_balance 4 (some .int) 0 0 w [.ref (wad w 33), .int v1] σ (some (.int r)) τ 0 0 :=
  Ct_intro (fun _ => (0, 0)) (by decide) rfl ⟨rfl, Nat.le_refl _⟩ (Nat.le_of_ble_eq_true rfl) (fun X hX hR hwX hg hr => by subst hwX; exact tX_balance hX hw hg hR hr v1 σ h)

def rX_drawBelowFour (σ : St) : Option (Int32 × St) :=
  chk (decide (¬ (2147483648 : Int64) = 0)) (nm (setJ σ 33 3 ((((σ.2.1 33 3) * (1103515245 : Int64)) + (12345 : Int64)) - (((σ.2.1 33 3) * (1103515245 : Int64)) + (12345 : Int64)) / (2147483648 : Int64) * (2147483648 : Int64))) fun σ_1 => chk (decide (¬ (65536 : Int64) = 0)) (chk (decide (¬ (4 : Int64) = 0)) (some ((((σ_1.2.1 33 3) / (65536 : Int64)) - ((σ_1.2.1 33 3) / (65536 : Int64)) / (4 : Int64) * (4 : Int64)).toInt32, σ_1))))
set_option maxRecDepth 100000 in
theorem tX_drawBelowFour {X : CX} (hX : gd X cX0_drawBelowFour 1 RX0 (some .int)) (hw : isX (xw X)) (hg : nA X) (hR : xR X = rmOf 0 0 0 0) {r : Int32} {τ : St} (hr : xr X = (some (.int r), τ)) (σ : St) (h : rX_drawBelowFour σ = some (r, τ)) : Jd X 1 0 [(0, .ref (wad (xw X) 33))] [] σ := by
  unfold rX_drawBelowFour at h
  refine J_aload_n (q := 0) hX dX0_drawBelowFour_0 rfl rfl ?_
  refine J_aload_n (q := 0) hX dX0_drawBelowFour_1 rfl rfl ?_
  refine K_getl hX (xc_33 hw) cls_X0 (k := 3) (by decide) uw_2_18 rfl dX0_drawBelowFour_2 ?_
  refine K_ldc2 (v := (1103515245 : Int64)) hX uw_4_195 dX0_drawBelowFour_5 ?_
  refine J_lmul hX dX0_drawBelowFour_8 ?_
  refine K_ldc2 (v := (12345 : Int64)) hX uw_4_196 dX0_drawBelowFour_9 ?_
  refine J_ladd hX dX0_drawBelowFour_12 ?_
  refine K_ldc2 (v := (2147483648 : Int64)) hX uw_4_197 dX0_drawBelowFour_13 ?_
  refine K_lrem hX dX0_drawBelowFour_16 h (fun h => ?_)
  refine K_putl hX (xc_33 hw) cls_X0 (k := 3) (by decide) uw_2_18 rfl rfl rfl dX0_drawBelowFour_17 h (fun σ_1 h => ?_)
  refine J_aload_n (q := 0) hX dX0_drawBelowFour_20 rfl rfl ?_
  refine K_getl hX (xc_33 hw) cls_X0 (k := 3) (by decide) uw_2_18 rfl dX0_drawBelowFour_21 ?_
  refine K_ldc2 (v := (65536 : Int64)) hX uw_4_198 dX0_drawBelowFour_24 ?_
  refine K_ldiv hX dX0_drawBelowFour_27 h (fun h => ?_)
  refine K_ldc2 (v := (4 : Int64)) hX uw_4_199 dX0_drawBelowFour_28 ?_
  refine K_lrem hX dX0_drawBelowFour_31 h (fun h => ?_)
  refine J_l2i hX dX0_drawBelowFour_32 ?_
  exact K_iret hX hr dX0_drawBelowFour_33 h
theorem ctX_drawBelowFour {w : WT} (hw : isX w) {σ : St} {r : Int32} {τ : St} (h : rX_drawBelowFour σ = some (r, τ)) : Ct yX0_drawBelowFour cX0_drawBelowFour 1 (some .int) 0 0 w [.ref (wad w 33)] σ (some (.int r)) τ 0 0 :=
  Ct_intro (fun _ => (0, 0)) (by decide) rfl ⟨rfl, Nat.le_refl _⟩ (Nat.le_of_ble_eq_true rfl) (fun X hX hR hwX hg hr => by subst hwX; exact tX_drawBelowFour hX hw hg hR hr  σ h)

def rX_write_53 (σ : St) : Option (St) :=
  some σ
set_option maxRecDepth 100000 in
theorem tX_write_53 {X : CX} (hX : gd X cX0_write 4 RX0 none) (hw : isX (xw X)) (hg : nA X) (hR : xR X = rmOf 0 0 0 0) {τ : St} (hr : xr X = (none, τ)) (σ : St) (h : rX_write_53 σ = some τ) : Jd X 4 53 [] [] σ := by
  unfold rX_write_53 at h
  exact K_vret hX hr dX0_write_53 h

def rX_write (v1 : Int32) (v2 : Int32) (v3 : Int32) (σ : St) : Option (St) :=
  brc (v3 ≤ 0) (rX_write_53 σ) (brc ((60 : Int32) ≤ (σ.1 33 4)) (rX_write_53 σ) (chk (ib (σ.1 33 4) 60) (nm (setI σ 39 (σ.1 33 4).toNatClampNeg v1) fun σ_1 => chk (ib (σ_1.1 33 4) 60) (nm (setI σ_1 40 (σ_1.1 33 4).toNatClampNeg v2) fun σ_2 => chk (ib (σ_2.1 33 4) 60) (nm (setI σ_2 41 (σ_2.1 33 4).toNatClampNeg v3) fun σ_3 => nm (setI σ_3 33 4 ((σ_3.1 33 4) + (1 : Int32))) fun σ_4 => rX_write_53 σ_4)))))
set_option maxRecDepth 100000 in
theorem tX_write {X : CX} (hX : gd X cX0_write 4 RX0 none) (hw : isX (xw X)) (hg : nA X) (hR : xR X = rmOf 0 0 0 0) {τ : St} (hr : xr X = (none, τ)) (v1 : Int32) (v2 : Int32) (v3 : Int32) (σ : St) (h : rX_write v1 v2 v3 σ = some τ) : Jd X 4 0 [(0, .ref (wad (xw X) 33)), (1, .int v1), (2, .int v2), (3, .int v3)] [] σ := by
  unfold rX_write at h
  refine J_iload_n (q := 3) hX dX0_write_0 rfl rfl ?_
  refine K_if_le (tgt := 53) hX dX0_write_1 rfl h (fun h => ?_) (fun h => ?_)
  · refine J_sub [] rfl ?_
    exact tX_write_53 hX hw hg hR hr σ h
  · refine J_aload_n (q := 0) hX dX0_write_4 rfl rfl ?_
    refine K_geti hX (xc_33 hw) cls_X0 (k := 4) (by decide) uw_2_20 rfl dX0_write_5 ?_
    refine J_bipush (v := (60 : Int32)) hX dX0_write_8 (by decide) ?_
    refine K_icmp_ge (tgt := 53) hX dX0_write_10 rfl h (fun h => ?_) (fun h => ?_)
    · refine J_sub [] rfl ?_
      exact tX_write_53 hX hw hg hR hr σ h
    · refine J_aload_n (q := 0) hX dX0_write_13 rfl rfl ?_
      refine K_getc 39 hX (xc_33 hw) cls_X0 (k := 10) (by decide) uw_2_34 rfl dX0_write_14 ?_
      refine J_aload_n (q := 0) hX dX0_write_17 rfl rfl ?_
      refine K_geti hX (xc_33 hw) cls_X0 (k := 4) (by decide) uw_2_20 rfl dX0_write_18 ?_
      refine J_iload_n (q := 1) hX dX0_write_21 rfl rfl ?_
      refine K_iast hX (xc_39 hw) dX0_write_22 h (fun σ_1 h => ?_)
      refine J_aload_n (q := 0) hX dX0_write_23 rfl rfl ?_
      refine K_getc 40 hX (xc_33 hw) cls_X0 (k := 11) (by decide) uw_2_36 rfl dX0_write_24 ?_
      refine J_aload_n (q := 0) hX dX0_write_27 rfl rfl ?_
      refine K_geti hX (xc_33 hw) cls_X0 (k := 4) (by decide) uw_2_20 rfl dX0_write_28 ?_
      refine J_iload_n (q := 2) hX dX0_write_31 rfl rfl ?_
      refine K_iast hX (xc_40 hw) dX0_write_32 h (fun σ_2 h => ?_)
      refine J_aload_n (q := 0) hX dX0_write_33 rfl rfl ?_
      refine K_getc 41 hX (xc_33 hw) cls_X0 (k := 12) (by decide) uw_2_38 rfl dX0_write_34 ?_
      refine J_aload_n (q := 0) hX dX0_write_37 rfl rfl ?_
      refine K_geti hX (xc_33 hw) cls_X0 (k := 4) (by decide) uw_2_20 rfl dX0_write_38 ?_
      refine J_iload_n (q := 3) hX dX0_write_41 rfl rfl ?_
      refine K_iast hX (xc_41 hw) dX0_write_42 h (fun σ_3 h => ?_)
      refine J_aload_n (q := 0) hX dX0_write_43 rfl rfl ?_
      refine J_dup hX dX0_write_44 rfl ?_
      refine K_geti hX (xc_33 hw) cls_X0 (k := 4) (by decide) uw_2_20 rfl dX0_write_45 ?_
      refine J_iconst (v := (1 : Int32)) hX dX0_write_48 (by decide) ?_
      refine J_iadd hX dX0_write_49 ?_
      refine K_puti hX (xc_33 hw) cls_X0 (k := 4) (by decide) uw_2_20 rfl rfl rfl dX0_write_50 h (fun σ_4 h => ?_)
      refine J_sub [] rfl ?_
      exact tX_write_53 hX hw hg hR hr σ_4 h
theorem ctX_write {w : WT} (hw : isX w) {v1 : Int32} {v2 : Int32} {v3 : Int32} {σ : St} {τ : St} (h : rX_write v1 v2 v3 σ = some τ) : Ct yX0_write cX0_write 4 none 0 0 w [.ref (wad w 33), .int v1, .int v2, .int v3] σ none τ 0 0 :=
  Ct_intro (fun _ => (0, 0)) (by decide) rfl ⟨rfl, Nat.le_refl _⟩ (Nat.le_of_ble_eq_true rfl) (fun X hX hR hwX hg hr => by subst hwX; exact tX_write hX hw hg hR hr v1 v2 v3 σ h)

def rX_dayFrom (mh : Nat) (σ : St) : Option (St) :=
  nm (setI σ 33 0 (σ.1 mh 0)) fun σ_1 => nm (setI σ_1 33 1 (σ_1.1 mh 1)) fun σ_2 => nm (setI σ_2 33 2 (σ_2.1 mh 2)) fun σ_3 => nm (setJ σ_3 33 3 (σ_3.2.1 mh 3)) fun σ_4 => nm (setI σ_4 33 4 (σ_4.1 mh 4)) fun σ_5 => chk (cpb (0 : Int32) (0 : Int32) (nI 7) 7 7) (nm (setR σ_5 34 (va_cpy (σ_5.1 (mh + 1)) (σ_5.1 34) (0 : Int32).toNatClampNeg (0 : Int32).toNatClampNeg (nI 7).toNatClampNeg)) fun σ_6 => chk (cpb (0 : Int32) (0 : Int32) (nI 6) 6 6) (nm (setR σ_6 35 (va_cpy (σ_6.1 (mh + 2)) (σ_6.1 35) (0 : Int32).toNatClampNeg (0 : Int32).toNatClampNeg (nI 6).toNatClampNeg)) fun σ_7 => chk (cpb (0 : Int32) (0 : Int32) (nI 6) 6 6) (nm (setR σ_7 36 (va_cpy (σ_7.1 (mh + 3)) (σ_7.1 36) (0 : Int32).toNatClampNeg (0 : Int32).toNatClampNeg (nI 6).toNatClampNeg)) fun σ_8 => chk (cpb (0 : Int32) (0 : Int32) (nI 6) 6 6) (nm (setR σ_8 37 (va_cpy (σ_8.1 (mh + 4)) (σ_8.1 37) (0 : Int32).toNatClampNeg (0 : Int32).toNatClampNeg (nI 6).toNatClampNeg)) fun σ_9 => chk (cpb (0 : Int32) (0 : Int32) (nI 36) 36 36) (nm (setR σ_9 38 (va_cpy (σ_9.1 (mh + 5)) (σ_9.1 38) (0 : Int32).toNatClampNeg (0 : Int32).toNatClampNeg (nI 36).toNatClampNeg)) fun σ_10 => chk (cpb (0 : Int32) (0 : Int32) (σ_10.1 33 4) 60 60) (nm (setR σ_10 39 (va_cpy (σ_10.1 (mh + 6)) (σ_10.1 39) (0 : Int32).toNatClampNeg (0 : Int32).toNatClampNeg (σ_10.1 33 4).toNatClampNeg)) fun σ_11 => chk (cpb (0 : Int32) (0 : Int32) (σ_11.1 33 4) 60 60) (nm (setR σ_11 40 (va_cpy (σ_11.1 (mh + 7)) (σ_11.1 40) (0 : Int32).toNatClampNeg (0 : Int32).toNatClampNeg (σ_11.1 33 4).toNatClampNeg)) fun σ_12 => chk (cpb (0 : Int32) (0 : Int32) (σ_12.1 33 4) 60 60) (nm (setR σ_12 41 (va_cpy (σ_12.1 (mh + 8)) (σ_12.1 41) (0 : Int32).toNatClampNeg (0 : Int32).toNatClampNeg (σ_12.1 33 4).toNatClampNeg)) fun σ_13 => some σ_13))))))))
set_option maxRecDepth 100000 in
theorem tX_dayFrom {X : CX} (hX : gd X cX0_copyFrom 2 RX0 none) (hw : isX (xw X)) (hg : nA X) (hR : xR X = rmOf 1 26 0 0) {τ : St} (hr : xr X = (none, τ)) {mh : Nat} (hm : isMk mh) (σ : St) (h : rX_dayFrom mh σ = some τ) : Jd X 2 0 [(0, .ref (wad (xw X) 33)), (1, .ref (wad (xw X) mh))] [] σ := by
  unfold rX_dayFrom at h
  refine J_aload_n (q := 0) hX dX0_copyFrom_0 rfl rfl ?_
  refine J_aload_n (q := 1) hX dX0_copyFrom_1 rfl rfl ?_
  refine K_geti hX (xmk_0 hw hm) cls_X0 (k := 0) (by decide) uw_2_10 rfl dX0_copyFrom_2 ?_
  refine K_puti hX (xc_33 hw) cls_X0 (k := 0) (by decide) uw_2_10 rfl rfl rfl dX0_copyFrom_5 h (fun σ_1 h => ?_)
  refine J_aload_n (q := 0) hX dX0_copyFrom_8 rfl rfl ?_
  refine J_aload_n (q := 1) hX dX0_copyFrom_9 rfl rfl ?_
  refine K_geti hX (xmk_0 hw hm) cls_X0 (k := 1) (by decide) uw_2_13 rfl dX0_copyFrom_10 ?_
  refine K_puti hX (xc_33 hw) cls_X0 (k := 1) (by decide) uw_2_13 rfl rfl rfl dX0_copyFrom_13 h (fun σ_2 h => ?_)
  refine J_aload_n (q := 0) hX dX0_copyFrom_16 rfl rfl ?_
  refine J_aload_n (q := 1) hX dX0_copyFrom_17 rfl rfl ?_
  refine K_geti hX (xmk_0 hw hm) cls_X0 (k := 2) (by decide) uw_2_16 rfl dX0_copyFrom_18 ?_
  refine K_puti hX (xc_33 hw) cls_X0 (k := 2) (by decide) uw_2_16 rfl rfl rfl dX0_copyFrom_21 h (fun σ_3 h => ?_)
  refine J_aload_n (q := 0) hX dX0_copyFrom_24 rfl rfl ?_
  refine J_aload_n (q := 1) hX dX0_copyFrom_25 rfl rfl ?_
  refine K_getl hX (xmk_0 hw hm) cls_X0 (k := 3) (by decide) uw_2_18 rfl dX0_copyFrom_26 ?_
  refine K_putl hX (xc_33 hw) cls_X0 (k := 3) (by decide) uw_2_18 rfl rfl rfl dX0_copyFrom_29 h (fun σ_4 h => ?_)
  refine J_aload_n (q := 0) hX dX0_copyFrom_32 rfl rfl ?_
  refine J_aload_n (q := 1) hX dX0_copyFrom_33 rfl rfl ?_
  refine K_geti hX (xmk_0 hw hm) cls_X0 (k := 4) (by decide) uw_2_20 rfl dX0_copyFrom_34 ?_
  refine K_puti hX (xc_33 hw) cls_X0 (k := 4) (by decide) uw_2_20 rfl rfl rfl dX0_copyFrom_37 h (fun σ_5 h => ?_)
  refine J_aload_n (q := 1) hX dX0_copyFrom_40 rfl rfl ?_
  refine K_getc (mh + 1) hX (xmk_0 hw hm) cls_X0 (k := 5) (by decide) uw_2_22 rfl dX0_copyFrom_41 ?_
  refine J_iconst (v := (0 : Int32)) hX dX0_copyFrom_44 (by decide) ?_
  refine J_aload_n (q := 0) hX dX0_copyFrom_45 rfl rfl ?_
  refine K_getc 34 hX (xc_33 hw) cls_X0 (k := 5) (by decide) uw_2_22 rfl dX0_copyFrom_46 ?_
  refine J_iconst (v := (0 : Int32)) hX dX0_copyFrom_49 (by decide) ?_
  refine J_aload_n (q := 0) hX dX0_copyFrom_50 rfl rfl ?_
  refine K_getc 34 hX (xc_33 hw) cls_X0 (k := 5) (by decide) uw_2_22 rfl dX0_copyFrom_51 ?_
  refine K_alen hX (xc_34 hw) rfl dX0_copyFrom_54 ?_
  refine K_copy hX hR (xmk_1 hw hm) (xc_34 hw) lcpy_X0_53 ⟨by omega, by omega⟩ (Nat.le_of_ble_eq_true rfl) dX0_copyFrom_55 h (fun σ_6 h => ?_)
  refine J_aload_n (q := 1) hX dX0_copyFrom_58 rfl rfl ?_
  refine K_getc (mh + 2) hX (xmk_0 hw hm) cls_X0 (k := 6) (by decide) uw_2_25 rfl dX0_copyFrom_59 ?_
  refine J_iconst (v := (0 : Int32)) hX dX0_copyFrom_62 (by decide) ?_
  refine J_aload_n (q := 0) hX dX0_copyFrom_63 rfl rfl ?_
  refine K_getc 35 hX (xc_33 hw) cls_X0 (k := 6) (by decide) uw_2_25 rfl dX0_copyFrom_64 ?_
  refine J_iconst (v := (0 : Int32)) hX dX0_copyFrom_67 (by decide) ?_
  refine J_aload_n (q := 0) hX dX0_copyFrom_68 rfl rfl ?_
  refine K_getc 35 hX (xc_33 hw) cls_X0 (k := 6) (by decide) uw_2_25 rfl dX0_copyFrom_69 ?_
  refine K_alen hX (xc_35 hw) rfl dX0_copyFrom_72 ?_
  refine K_copy hX hR (xmk_2 hw hm) (xc_35 hw) lcpy_X0_53 ⟨by omega, by omega⟩ (Nat.le_of_ble_eq_true rfl) dX0_copyFrom_73 h (fun σ_7 h => ?_)
  refine J_aload_n (q := 1) hX dX0_copyFrom_76 rfl rfl ?_
  refine K_getc (mh + 3) hX (xmk_0 hw hm) cls_X0 (k := 7) (by decide) uw_2_27 rfl dX0_copyFrom_77 ?_
  refine J_iconst (v := (0 : Int32)) hX dX0_copyFrom_80 (by decide) ?_
  refine J_aload_n (q := 0) hX dX0_copyFrom_81 rfl rfl ?_
  refine K_getc 36 hX (xc_33 hw) cls_X0 (k := 7) (by decide) uw_2_27 rfl dX0_copyFrom_82 ?_
  refine J_iconst (v := (0 : Int32)) hX dX0_copyFrom_85 (by decide) ?_
  refine J_aload_n (q := 0) hX dX0_copyFrom_86 rfl rfl ?_
  refine K_getc 36 hX (xc_33 hw) cls_X0 (k := 7) (by decide) uw_2_27 rfl dX0_copyFrom_87 ?_
  refine K_alen hX (xc_36 hw) rfl dX0_copyFrom_90 ?_
  refine K_copy hX hR (xmk_3 hw hm) (xc_36 hw) lcpy_X0_53 ⟨by omega, by omega⟩ (Nat.le_of_ble_eq_true rfl) dX0_copyFrom_91 h (fun σ_8 h => ?_)
  refine J_aload_n (q := 1) hX dX0_copyFrom_94 rfl rfl ?_
  refine K_getc (mh + 4) hX (xmk_0 hw hm) cls_X0 (k := 8) (by decide) uw_2_29 rfl dX0_copyFrom_95 ?_
  refine J_iconst (v := (0 : Int32)) hX dX0_copyFrom_98 (by decide) ?_
  refine J_aload_n (q := 0) hX dX0_copyFrom_99 rfl rfl ?_
  refine K_getc 37 hX (xc_33 hw) cls_X0 (k := 8) (by decide) uw_2_29 rfl dX0_copyFrom_100 ?_
  refine J_iconst (v := (0 : Int32)) hX dX0_copyFrom_103 (by decide) ?_
  refine J_aload_n (q := 0) hX dX0_copyFrom_104 rfl rfl ?_
  refine K_getc 37 hX (xc_33 hw) cls_X0 (k := 8) (by decide) uw_2_29 rfl dX0_copyFrom_105 ?_
  refine K_alen hX (xc_37 hw) rfl dX0_copyFrom_108 ?_
  refine K_copy hX hR (xmk_4 hw hm) (xc_37 hw) lcpy_X0_53 ⟨by omega, by omega⟩ (Nat.le_of_ble_eq_true rfl) dX0_copyFrom_109 h (fun σ_9 h => ?_)
  refine J_aload_n (q := 1) hX dX0_copyFrom_112 rfl rfl ?_
  refine K_getc (mh + 5) hX (xmk_0 hw hm) cls_X0 (k := 9) (by decide) uw_2_32 rfl dX0_copyFrom_113 ?_
  refine J_iconst (v := (0 : Int32)) hX dX0_copyFrom_116 (by decide) ?_
  refine J_aload_n (q := 0) hX dX0_copyFrom_117 rfl rfl ?_
  refine K_getc 38 hX (xc_33 hw) cls_X0 (k := 9) (by decide) uw_2_32 rfl dX0_copyFrom_118 ?_
  refine J_iconst (v := (0 : Int32)) hX dX0_copyFrom_121 (by decide) ?_
  refine J_aload_n (q := 0) hX dX0_copyFrom_122 rfl rfl ?_
  refine K_getc 38 hX (xc_33 hw) cls_X0 (k := 9) (by decide) uw_2_32 rfl dX0_copyFrom_123 ?_
  refine K_alen hX (xc_38 hw) rfl dX0_copyFrom_126 ?_
  refine K_copy hX hR (xmk_5 hw hm) (xc_38 hw) lcpy_X0_53 ⟨by omega, by omega⟩ (Nat.le_of_ble_eq_true rfl) dX0_copyFrom_127 h (fun σ_10 h => ?_)
  refine J_aload_n (q := 1) hX dX0_copyFrom_130 rfl rfl ?_
  refine K_getc (mh + 6) hX (xmk_0 hw hm) cls_X0 (k := 10) (by decide) uw_2_34 rfl dX0_copyFrom_131 ?_
  refine J_iconst (v := (0 : Int32)) hX dX0_copyFrom_134 (by decide) ?_
  refine J_aload_n (q := 0) hX dX0_copyFrom_135 rfl rfl ?_
  refine K_getc 39 hX (xc_33 hw) cls_X0 (k := 10) (by decide) uw_2_34 rfl dX0_copyFrom_136 ?_
  refine J_iconst (v := (0 : Int32)) hX dX0_copyFrom_139 (by decide) ?_
  refine J_aload_n (q := 0) hX dX0_copyFrom_140 rfl rfl ?_
  refine K_geti hX (xc_33 hw) cls_X0 (k := 4) (by decide) uw_2_20 rfl dX0_copyFrom_141 ?_
  refine K_copy hX hR (xmk_6 hw hm) (xc_39 hw) lcpy_X0_53 ⟨by omega, by omega⟩ (Nat.le_of_ble_eq_true rfl) dX0_copyFrom_144 h (fun σ_11 h => ?_)
  refine J_aload_n (q := 1) hX dX0_copyFrom_147 rfl rfl ?_
  refine K_getc (mh + 7) hX (xmk_0 hw hm) cls_X0 (k := 11) (by decide) uw_2_36 rfl dX0_copyFrom_148 ?_
  refine J_iconst (v := (0 : Int32)) hX dX0_copyFrom_151 (by decide) ?_
  refine J_aload_n (q := 0) hX dX0_copyFrom_152 rfl rfl ?_
  refine K_getc 40 hX (xc_33 hw) cls_X0 (k := 11) (by decide) uw_2_36 rfl dX0_copyFrom_153 ?_
  refine J_iconst (v := (0 : Int32)) hX dX0_copyFrom_156 (by decide) ?_
  refine J_aload_n (q := 0) hX dX0_copyFrom_157 rfl rfl ?_
  refine K_geti hX (xc_33 hw) cls_X0 (k := 4) (by decide) uw_2_20 rfl dX0_copyFrom_158 ?_
  refine K_copy hX hR (xmk_7 hw hm) (xc_40 hw) lcpy_X0_53 ⟨by omega, by omega⟩ (Nat.le_of_ble_eq_true rfl) dX0_copyFrom_161 h (fun σ_12 h => ?_)
  refine J_aload_n (q := 1) hX dX0_copyFrom_164 rfl rfl ?_
  refine K_getc (mh + 8) hX (xmk_0 hw hm) cls_X0 (k := 12) (by decide) uw_2_38 rfl dX0_copyFrom_165 ?_
  refine J_iconst (v := (0 : Int32)) hX dX0_copyFrom_168 (by decide) ?_
  refine J_aload_n (q := 0) hX dX0_copyFrom_169 rfl rfl ?_
  refine K_getc 41 hX (xc_33 hw) cls_X0 (k := 12) (by decide) uw_2_38 rfl dX0_copyFrom_170 ?_
  refine J_iconst (v := (0 : Int32)) hX dX0_copyFrom_173 (by decide) ?_
  refine J_aload_n (q := 0) hX dX0_copyFrom_174 rfl rfl ?_
  refine K_geti hX (xc_33 hw) cls_X0 (k := 4) (by decide) uw_2_20 rfl dX0_copyFrom_175 ?_
  refine K_copy hX hR (xmk_8 hw hm) (xc_41 hw) lcpy_X0_53 ⟨by omega, by omega⟩ (Nat.le_of_ble_eq_true rfl) dX0_copyFrom_178 h (fun σ_13 h => ?_)
  exact K_vret hX hr dX0_copyFrom_181 h
theorem ctX_dayFrom {w : WT} (hw : isX w) {σ : St} {mh : Nat} (hm : isMk mh) {τ : St} (h : rX_dayFrom mh σ = some τ) : Ct yX0_copyFrom cX0_copyFrom 2 none 1 26 w [.ref (wad w 33), .ref (wad w mh)] σ none τ 0 0 :=
  Ct_intro (fun _ => (0, 0)) (by decide) rfl ⟨rfl, Nat.le_refl _⟩ (Nat.le_of_ble_eq_true rfl) (fun X hX hR hwX hg hr => by subst hwX; exact tX_dayFrom hX hw hg hR hr hm  σ h)

def rX_dayTo (mh : Nat) (σ : St) : Option (St) :=
  nm (setI σ mh 0 (σ.1 33 0)) fun σ_1 => nm (setI σ_1 mh 1 (σ_1.1 33 1)) fun σ_2 => nm (setI σ_2 mh 2 (σ_2.1 33 2)) fun σ_3 => nm (setJ σ_3 mh 3 (σ_3.2.1 33 3)) fun σ_4 => nm (setI σ_4 mh 4 (σ_4.1 33 4)) fun σ_5 => chk (cpb (0 : Int32) (0 : Int32) (nI 7) 7 7) (nm (setR σ_5 (mh + 1) (va_cpy (σ_5.1 34) (σ_5.1 (mh + 1)) (0 : Int32).toNatClampNeg (0 : Int32).toNatClampNeg (nI 7).toNatClampNeg)) fun σ_6 => chk (cpb (0 : Int32) (0 : Int32) (nI 6) 6 6) (nm (setR σ_6 (mh + 2) (va_cpy (σ_6.1 35) (σ_6.1 (mh + 2)) (0 : Int32).toNatClampNeg (0 : Int32).toNatClampNeg (nI 6).toNatClampNeg)) fun σ_7 => chk (cpb (0 : Int32) (0 : Int32) (nI 6) 6 6) (nm (setR σ_7 (mh + 3) (va_cpy (σ_7.1 36) (σ_7.1 (mh + 3)) (0 : Int32).toNatClampNeg (0 : Int32).toNatClampNeg (nI 6).toNatClampNeg)) fun σ_8 => chk (cpb (0 : Int32) (0 : Int32) (nI 6) 6 6) (nm (setR σ_8 (mh + 4) (va_cpy (σ_8.1 37) (σ_8.1 (mh + 4)) (0 : Int32).toNatClampNeg (0 : Int32).toNatClampNeg (nI 6).toNatClampNeg)) fun σ_9 => chk (cpb (0 : Int32) (0 : Int32) (nI 36) 36 36) (nm (setR σ_9 (mh + 5) (va_cpy (σ_9.1 38) (σ_9.1 (mh + 5)) (0 : Int32).toNatClampNeg (0 : Int32).toNatClampNeg (nI 36).toNatClampNeg)) fun σ_10 => chk (cpb (0 : Int32) (0 : Int32) (σ_10.1 mh 4) 60 60) (nm (setR σ_10 (mh + 6) (va_cpy (σ_10.1 39) (σ_10.1 (mh + 6)) (0 : Int32).toNatClampNeg (0 : Int32).toNatClampNeg (σ_10.1 mh 4).toNatClampNeg)) fun σ_11 => chk (cpb (0 : Int32) (0 : Int32) (σ_11.1 mh 4) 60 60) (nm (setR σ_11 (mh + 7) (va_cpy (σ_11.1 40) (σ_11.1 (mh + 7)) (0 : Int32).toNatClampNeg (0 : Int32).toNatClampNeg (σ_11.1 mh 4).toNatClampNeg)) fun σ_12 => chk (cpb (0 : Int32) (0 : Int32) (σ_12.1 mh 4) 60 60) (nm (setR σ_12 (mh + 8) (va_cpy (σ_12.1 41) (σ_12.1 (mh + 8)) (0 : Int32).toNatClampNeg (0 : Int32).toNatClampNeg (σ_12.1 mh 4).toNatClampNeg)) fun σ_13 => some σ_13))))))))
set_option maxRecDepth 100000 in
theorem tX_dayTo {X : CX} (hX : gd X cX0_copyFrom 2 RX0 none) (hw : isX (xw X)) (hg : nA X) (hR : xR X = rmOf 1 26 0 0) {τ : St} (hr : xr X = (none, τ)) {mh : Nat} (hm : isMk mh) (σ : St) (h : rX_dayTo mh σ = some τ) : Jd X 2 0 [(0, .ref (wad (xw X) mh)), (1, .ref (wad (xw X) 33))] [] σ := by
  unfold rX_dayTo at h
  refine J_aload_n (q := 0) hX dX0_copyFrom_0 rfl rfl ?_
  refine J_aload_n (q := 1) hX dX0_copyFrom_1 rfl rfl ?_
  refine K_geti hX (xc_33 hw) cls_X0 (k := 0) (by decide) uw_2_10 rfl dX0_copyFrom_2 ?_
  refine K_puti hX (xmk_0 hw hm) cls_X0 (k := 0) (by decide) uw_2_10 rfl rfl rfl dX0_copyFrom_5 h (fun σ_1 h => ?_)
  refine J_aload_n (q := 0) hX dX0_copyFrom_8 rfl rfl ?_
  refine J_aload_n (q := 1) hX dX0_copyFrom_9 rfl rfl ?_
  refine K_geti hX (xc_33 hw) cls_X0 (k := 1) (by decide) uw_2_13 rfl dX0_copyFrom_10 ?_
  refine K_puti hX (xmk_0 hw hm) cls_X0 (k := 1) (by decide) uw_2_13 rfl rfl rfl dX0_copyFrom_13 h (fun σ_2 h => ?_)
  refine J_aload_n (q := 0) hX dX0_copyFrom_16 rfl rfl ?_
  refine J_aload_n (q := 1) hX dX0_copyFrom_17 rfl rfl ?_
  refine K_geti hX (xc_33 hw) cls_X0 (k := 2) (by decide) uw_2_16 rfl dX0_copyFrom_18 ?_
  refine K_puti hX (xmk_0 hw hm) cls_X0 (k := 2) (by decide) uw_2_16 rfl rfl rfl dX0_copyFrom_21 h (fun σ_3 h => ?_)
  refine J_aload_n (q := 0) hX dX0_copyFrom_24 rfl rfl ?_
  refine J_aload_n (q := 1) hX dX0_copyFrom_25 rfl rfl ?_
  refine K_getl hX (xc_33 hw) cls_X0 (k := 3) (by decide) uw_2_18 rfl dX0_copyFrom_26 ?_
  refine K_putl hX (xmk_0 hw hm) cls_X0 (k := 3) (by decide) uw_2_18 rfl rfl rfl dX0_copyFrom_29 h (fun σ_4 h => ?_)
  refine J_aload_n (q := 0) hX dX0_copyFrom_32 rfl rfl ?_
  refine J_aload_n (q := 1) hX dX0_copyFrom_33 rfl rfl ?_
  refine K_geti hX (xc_33 hw) cls_X0 (k := 4) (by decide) uw_2_20 rfl dX0_copyFrom_34 ?_
  refine K_puti hX (xmk_0 hw hm) cls_X0 (k := 4) (by decide) uw_2_20 rfl rfl rfl dX0_copyFrom_37 h (fun σ_5 h => ?_)
  refine J_aload_n (q := 1) hX dX0_copyFrom_40 rfl rfl ?_
  refine K_getc 34 hX (xc_33 hw) cls_X0 (k := 5) (by decide) uw_2_22 rfl dX0_copyFrom_41 ?_
  refine J_iconst (v := (0 : Int32)) hX dX0_copyFrom_44 (by decide) ?_
  refine J_aload_n (q := 0) hX dX0_copyFrom_45 rfl rfl ?_
  refine K_getc (mh + 1) hX (xmk_0 hw hm) cls_X0 (k := 5) (by decide) uw_2_22 rfl dX0_copyFrom_46 ?_
  refine J_iconst (v := (0 : Int32)) hX dX0_copyFrom_49 (by decide) ?_
  refine J_aload_n (q := 0) hX dX0_copyFrom_50 rfl rfl ?_
  refine K_getc (mh + 1) hX (xmk_0 hw hm) cls_X0 (k := 5) (by decide) uw_2_22 rfl dX0_copyFrom_51 ?_
  refine K_alen hX (xmk_1 hw hm) rfl dX0_copyFrom_54 ?_
  refine K_copy hX hR (xc_34 hw) (xmk_1 hw hm) lcpy_X0_53 ⟨by omega, by omega⟩ (Nat.le_of_ble_eq_true rfl) dX0_copyFrom_55 h (fun σ_6 h => ?_)
  refine J_aload_n (q := 1) hX dX0_copyFrom_58 rfl rfl ?_
  refine K_getc 35 hX (xc_33 hw) cls_X0 (k := 6) (by decide) uw_2_25 rfl dX0_copyFrom_59 ?_
  refine J_iconst (v := (0 : Int32)) hX dX0_copyFrom_62 (by decide) ?_
  refine J_aload_n (q := 0) hX dX0_copyFrom_63 rfl rfl ?_
  refine K_getc (mh + 2) hX (xmk_0 hw hm) cls_X0 (k := 6) (by decide) uw_2_25 rfl dX0_copyFrom_64 ?_
  refine J_iconst (v := (0 : Int32)) hX dX0_copyFrom_67 (by decide) ?_
  refine J_aload_n (q := 0) hX dX0_copyFrom_68 rfl rfl ?_
  refine K_getc (mh + 2) hX (xmk_0 hw hm) cls_X0 (k := 6) (by decide) uw_2_25 rfl dX0_copyFrom_69 ?_
  refine K_alen hX (xmk_2 hw hm) rfl dX0_copyFrom_72 ?_
  refine K_copy hX hR (xc_35 hw) (xmk_2 hw hm) lcpy_X0_53 ⟨by omega, by omega⟩ (Nat.le_of_ble_eq_true rfl) dX0_copyFrom_73 h (fun σ_7 h => ?_)
  refine J_aload_n (q := 1) hX dX0_copyFrom_76 rfl rfl ?_
  refine K_getc 36 hX (xc_33 hw) cls_X0 (k := 7) (by decide) uw_2_27 rfl dX0_copyFrom_77 ?_
  refine J_iconst (v := (0 : Int32)) hX dX0_copyFrom_80 (by decide) ?_
  refine J_aload_n (q := 0) hX dX0_copyFrom_81 rfl rfl ?_
  refine K_getc (mh + 3) hX (xmk_0 hw hm) cls_X0 (k := 7) (by decide) uw_2_27 rfl dX0_copyFrom_82 ?_
  refine J_iconst (v := (0 : Int32)) hX dX0_copyFrom_85 (by decide) ?_
  refine J_aload_n (q := 0) hX dX0_copyFrom_86 rfl rfl ?_
  refine K_getc (mh + 3) hX (xmk_0 hw hm) cls_X0 (k := 7) (by decide) uw_2_27 rfl dX0_copyFrom_87 ?_
  refine K_alen hX (xmk_3 hw hm) rfl dX0_copyFrom_90 ?_
  refine K_copy hX hR (xc_36 hw) (xmk_3 hw hm) lcpy_X0_53 ⟨by omega, by omega⟩ (Nat.le_of_ble_eq_true rfl) dX0_copyFrom_91 h (fun σ_8 h => ?_)
  refine J_aload_n (q := 1) hX dX0_copyFrom_94 rfl rfl ?_
  refine K_getc 37 hX (xc_33 hw) cls_X0 (k := 8) (by decide) uw_2_29 rfl dX0_copyFrom_95 ?_
  refine J_iconst (v := (0 : Int32)) hX dX0_copyFrom_98 (by decide) ?_
  refine J_aload_n (q := 0) hX dX0_copyFrom_99 rfl rfl ?_
  refine K_getc (mh + 4) hX (xmk_0 hw hm) cls_X0 (k := 8) (by decide) uw_2_29 rfl dX0_copyFrom_100 ?_
  refine J_iconst (v := (0 : Int32)) hX dX0_copyFrom_103 (by decide) ?_
  refine J_aload_n (q := 0) hX dX0_copyFrom_104 rfl rfl ?_
  refine K_getc (mh + 4) hX (xmk_0 hw hm) cls_X0 (k := 8) (by decide) uw_2_29 rfl dX0_copyFrom_105 ?_
  refine K_alen hX (xmk_4 hw hm) rfl dX0_copyFrom_108 ?_
  refine K_copy hX hR (xc_37 hw) (xmk_4 hw hm) lcpy_X0_53 ⟨by omega, by omega⟩ (Nat.le_of_ble_eq_true rfl) dX0_copyFrom_109 h (fun σ_9 h => ?_)
  refine J_aload_n (q := 1) hX dX0_copyFrom_112 rfl rfl ?_
  refine K_getc 38 hX (xc_33 hw) cls_X0 (k := 9) (by decide) uw_2_32 rfl dX0_copyFrom_113 ?_
  refine J_iconst (v := (0 : Int32)) hX dX0_copyFrom_116 (by decide) ?_
  refine J_aload_n (q := 0) hX dX0_copyFrom_117 rfl rfl ?_
  refine K_getc (mh + 5) hX (xmk_0 hw hm) cls_X0 (k := 9) (by decide) uw_2_32 rfl dX0_copyFrom_118 ?_
  refine J_iconst (v := (0 : Int32)) hX dX0_copyFrom_121 (by decide) ?_
  refine J_aload_n (q := 0) hX dX0_copyFrom_122 rfl rfl ?_
  refine K_getc (mh + 5) hX (xmk_0 hw hm) cls_X0 (k := 9) (by decide) uw_2_32 rfl dX0_copyFrom_123 ?_
  refine K_alen hX (xmk_5 hw hm) rfl dX0_copyFrom_126 ?_
  refine K_copy hX hR (xc_38 hw) (xmk_5 hw hm) lcpy_X0_53 ⟨by omega, by omega⟩ (Nat.le_of_ble_eq_true rfl) dX0_copyFrom_127 h (fun σ_10 h => ?_)
  refine J_aload_n (q := 1) hX dX0_copyFrom_130 rfl rfl ?_
  refine K_getc 39 hX (xc_33 hw) cls_X0 (k := 10) (by decide) uw_2_34 rfl dX0_copyFrom_131 ?_
  refine J_iconst (v := (0 : Int32)) hX dX0_copyFrom_134 (by decide) ?_
  refine J_aload_n (q := 0) hX dX0_copyFrom_135 rfl rfl ?_
  refine K_getc (mh + 6) hX (xmk_0 hw hm) cls_X0 (k := 10) (by decide) uw_2_34 rfl dX0_copyFrom_136 ?_
  refine J_iconst (v := (0 : Int32)) hX dX0_copyFrom_139 (by decide) ?_
  refine J_aload_n (q := 0) hX dX0_copyFrom_140 rfl rfl ?_
  refine K_geti hX (xmk_0 hw hm) cls_X0 (k := 4) (by decide) uw_2_20 rfl dX0_copyFrom_141 ?_
  refine K_copy hX hR (xc_39 hw) (xmk_6 hw hm) lcpy_X0_53 ⟨by omega, by omega⟩ (Nat.le_of_ble_eq_true rfl) dX0_copyFrom_144 h (fun σ_11 h => ?_)
  refine J_aload_n (q := 1) hX dX0_copyFrom_147 rfl rfl ?_
  refine K_getc 40 hX (xc_33 hw) cls_X0 (k := 11) (by decide) uw_2_36 rfl dX0_copyFrom_148 ?_
  refine J_iconst (v := (0 : Int32)) hX dX0_copyFrom_151 (by decide) ?_
  refine J_aload_n (q := 0) hX dX0_copyFrom_152 rfl rfl ?_
  refine K_getc (mh + 7) hX (xmk_0 hw hm) cls_X0 (k := 11) (by decide) uw_2_36 rfl dX0_copyFrom_153 ?_
  refine J_iconst (v := (0 : Int32)) hX dX0_copyFrom_156 (by decide) ?_
  refine J_aload_n (q := 0) hX dX0_copyFrom_157 rfl rfl ?_
  refine K_geti hX (xmk_0 hw hm) cls_X0 (k := 4) (by decide) uw_2_20 rfl dX0_copyFrom_158 ?_
  refine K_copy hX hR (xc_40 hw) (xmk_7 hw hm) lcpy_X0_53 ⟨by omega, by omega⟩ (Nat.le_of_ble_eq_true rfl) dX0_copyFrom_161 h (fun σ_12 h => ?_)
  refine J_aload_n (q := 1) hX dX0_copyFrom_164 rfl rfl ?_
  refine K_getc 41 hX (xc_33 hw) cls_X0 (k := 12) (by decide) uw_2_38 rfl dX0_copyFrom_165 ?_
  refine J_iconst (v := (0 : Int32)) hX dX0_copyFrom_168 (by decide) ?_
  refine J_aload_n (q := 0) hX dX0_copyFrom_169 rfl rfl ?_
  refine K_getc (mh + 8) hX (xmk_0 hw hm) cls_X0 (k := 12) (by decide) uw_2_38 rfl dX0_copyFrom_170 ?_
  refine J_iconst (v := (0 : Int32)) hX dX0_copyFrom_173 (by decide) ?_
  refine J_aload_n (q := 0) hX dX0_copyFrom_174 rfl rfl ?_
  refine K_geti hX (xmk_0 hw hm) cls_X0 (k := 4) (by decide) uw_2_20 rfl dX0_copyFrom_175 ?_
  refine K_copy hX hR (xc_41 hw) (xmk_8 hw hm) lcpy_X0_53 ⟨by omega, by omega⟩ (Nat.le_of_ble_eq_true rfl) dX0_copyFrom_178 h (fun σ_13 h => ?_)
  exact K_vret hX hr dX0_copyFrom_181 h
theorem ctX_dayTo {w : WT} (hw : isX w) {σ : St} {mh : Nat} (hm : isMk mh) {τ : St} (h : rX_dayTo mh σ = some τ) : Ct yX0_copyFrom cX0_copyFrom 2 none 1 26 w [.ref (wad w mh), .ref (wad w 33)] σ none τ 0 0 :=
  Ct_intro (fun _ => (0, 0)) (by decide) rfl ⟨rfl, Nat.le_refl _⟩ (Nat.le_of_ble_eq_true rfl) (fun X hX hR hwX hg hr => by subst hwX; exact tX_dayTo hX hw hg hR hr hm  σ h)

def rX_rhas_17 (s0 : Int32) (σ : St) : Option (Int32 × St) :=
  chk (decide (s0 = 0 ∨ s0 = 1)) (some (s0, σ))
set_option maxRecDepth 100000 in
theorem tX_rhas_17 {X : CX} (hX : gd X cX6_has 2 RX6 (some .boolean)) (hw : isX (xw X)) (hg : nA X) (hR : xR X = rmOf 0 0 0 0) {r : Int32} {τ : St} (hr : xr X = (some (.int r), τ)) (s0 : Int32) (σ : St) (h : rX_rhas_17 s0 σ = some (r, τ)) : Jd X 2 17 [] [.int s0] σ := by
  unfold rX_rhas_17 at h
  exact K_zret hX hr dX6_has_17 h

def rX_rhas_16 (σ : St) : Option (Int32 × St) :=
  rX_rhas_17 (0 : Int32) σ
set_option maxRecDepth 100000 in
theorem tX_rhas_16 {X : CX} (hX : gd X cX6_has 2 RX6 (some .boolean)) (hw : isX (xw X)) (hg : nA X) (hR : xR X = rmOf 0 0 0 0) {r : Int32} {τ : St} (hr : xr X = (some (.int r), τ)) (σ : St) (h : rX_rhas_16 σ = some (r, τ)) : Jd X 2 16 [] [] σ := by
  unfold rX_rhas_16 at h
  refine J_iconst (v := (0 : Int32)) hX dX6_has_16 (by decide) ?_
  refine J_sub [] rfl ?_
  exact tX_rhas_17 hX hw hg hR hr (0 : Int32) σ h

def rX_rhas (v1 : Int32) (σ : St) : Option (Int32 × St) :=
  brc (v1 < 0) (rX_rhas_16 σ) (brc ((σ.1 42 3) ≤ v1) (rX_rhas_16 σ) (rX_rhas_17 (1 : Int32) σ))
set_option maxRecDepth 100000 in
theorem tX_rhas {X : CX} (hX : gd X cX6_has 2 RX6 (some .boolean)) (hw : isX (xw X)) (hg : nA X) (hR : xR X = rmOf 0 0 0 0) {r : Int32} {τ : St} (hr : xr X = (some (.int r), τ)) (v1 : Int32) (σ : St) (h : rX_rhas v1 σ = some (r, τ)) : Jd X 2 0 [(0, .ref (wad (xw X) 42)), (1, .int v1)] [] σ := by
  unfold rX_rhas at h
  refine J_iload_n (q := 1) hX dX6_has_0 rfl rfl ?_
  refine K_if_lt (tgt := 16) hX dX6_has_1 rfl h (fun h => ?_) (fun h => ?_)
  · refine J_sub [] rfl ?_
    exact tX_rhas_16 hX hw hg hR hr σ h
  · refine J_iload_n (q := 1) hX dX6_has_4 rfl rfl ?_
    refine J_aload_n (q := 0) hX dX6_has_5 rfl rfl ?_
    refine K_geti hX (xc_42 hw) cls_X6 (k := 3) (by decide) uw_2_76 rfl dX6_has_6 ?_
    refine K_icmp_ge (tgt := 16) hX dX6_has_9 rfl h (fun h => ?_) (fun h => ?_)
    · refine J_sub [] rfl ?_
      exact tX_rhas_16 hX hw hg hR hr σ h
    · refine J_iconst (v := (1 : Int32)) hX dX6_has_12 (by decide) ?_
      refine J_goto (tgt := 17) hX dX6_has_13 rfl ?_
      refine J_sub [] rfl ?_
      exact tX_rhas_17 hX hw hg hR hr (1 : Int32) σ h
theorem ctX_rhas {w : WT} (hw : isX w) {v1 : Int32} {σ : St} {r : Int32} {τ : St} (h : rX_rhas v1 σ = some (r, τ)) : Ct yX6_has cX6_has 2 (some .boolean) 0 0 w [.ref (wad w 42), .int v1] σ (some (.int r)) τ 0 0 :=
  Ct_intro (fun _ => (0, 0)) (by decide) rfl ⟨rfl, Nat.le_refl _⟩ (Nat.le_of_ble_eq_true rfl) (fun X hX hR hwX hg hr => by subst hwX; exact tX_rhas hX hw hg hR hr v1 σ h)

def rX_rlastOf (v1 : Int32) (σ : St) : Option (Int32 × St) :=
  chk (ib v1 37) (some (σ.1 44 v1.toNatClampNeg, σ))
set_option maxRecDepth 100000 in
theorem tX_rlastOf {X : CX} (hX : gd X cX6_lastOf 2 RX6 (some .int)) (hw : isX (xw X)) (hg : nA X) (hR : xR X = rmOf 0 0 0 0) {r : Int32} {τ : St} (hr : xr X = (some (.int r), τ)) (v1 : Int32) (σ : St) (h : rX_rlastOf v1 σ = some (r, τ)) : Jd X 2 0 [(0, .ref (wad (xw X) 42)), (1, .int v1)] [] σ := by
  unfold rX_rlastOf at h
  refine J_aload_n (q := 0) hX dX6_lastOf_0 rfl rfl ?_
  refine K_getc 44 hX (xc_42 hw) cls_X6 (k := 1) (by decide) uw_2_74 rfl dX6_lastOf_1 ?_
  refine J_iload_n (q := 1) hX dX6_lastOf_4 rfl rfl ?_
  refine K_iald hX (xc_44 hw) dX6_lastOf_5 h (fun h => ?_)
  exact K_iret hX hr dX6_lastOf_6 h
theorem ctX_rlastOf {w : WT} (hw : isX w) {v1 : Int32} {σ : St} {r : Int32} {τ : St} (h : rX_rlastOf v1 σ = some (r, τ)) : Ct yX6_lastOf cX6_lastOf 2 (some .int) 0 0 w [.ref (wad w 42), .int v1] σ (some (.int r)) τ 0 0 :=
  Ct_intro (fun _ => (0, 0)) (by decide) rfl ⟨rfl, Nat.le_refl _⟩ (Nat.le_of_ble_eq_true rfl) (fun X hX hR hwX hg hr => by subst hwX; exact tX_rlastOf hX hw hg hR hr v1 σ h)

def rX_rstationAt (v1 : Int32) (v2 : Int32) (σ : St) : Option (Int32 × St) :=
  chk (ib ((v1 * (7 : Int32)) + v2) 259) (some (σ.1 43 ((v1 * (7 : Int32)) + v2).toNatClampNeg, σ))
set_option maxRecDepth 100000 in
theorem tX_rstationAt {X : CX} (hX : gd X cX6_stationAt 3 RX6 (some .int)) (hw : isX (xw X)) (hg : nA X) (hR : xR X = rmOf 0 0 0 0) {r : Int32} {τ : St} (hr : xr X = (some (.int r), τ)) (v1 : Int32) (v2 : Int32) (σ : St) (h : rX_rstationAt v1 v2 σ = some (r, τ)) : Jd X 3 0 [(0, .ref (wad (xw X) 42)), (1, .int v1), (2, .int v2)] [] σ := by
  unfold rX_rstationAt at h
  refine J_aload_n (q := 0) hX dX6_stationAt_0 rfl rfl ?_
  refine K_getc 43 hX (xc_42 hw) cls_X6 (k := 0) (by decide) uw_2_73 rfl dX6_stationAt_1 ?_
  refine J_iload_n (q := 1) hX dX6_stationAt_4 rfl rfl ?_
  refine J_bipush (v := (7 : Int32)) hX dX6_stationAt_5 (by decide) ?_
  refine J_imul hX dX6_stationAt_7 ?_
  refine J_iload_n (q := 2) hX dX6_stationAt_8 rfl rfl ?_
  refine J_iadd hX dX6_stationAt_9 ?_
  refine K_iald hX (xc_43 hw) dX6_stationAt_10 h (fun h => ?_)
  exact K_iret hX hr dX6_stationAt_11 h
theorem ctX_rstationAt {w : WT} (hw : isX w) {v1 : Int32} {v2 : Int32} {σ : St} {r : Int32} {τ : St} (h : rX_rstationAt v1 v2 σ = some (r, τ)) : Ct yX6_stationAt cX6_stationAt 3 (some .int) 0 0 w [.ref (wad w 42), .int v1, .int v2] σ (some (.int r)) τ 0 0 :=
  Ct_intro (fun _ => (0, 0)) (by decide) rfl ⟨rfl, Nat.le_refl _⟩ (Nat.le_of_ble_eq_true rfl) (fun X hX hR hwX hg hr => by subst hwX; exact tX_rstationAt hX hw hg hR hr v1 v2 σ h)

def rX_rkeep_51 (σ : St) : Option (St) :=
  some σ
set_option maxRecDepth 100000 in
theorem tX_rkeep_51 {X : CX} (hX : gd X cX6_keep 2 RX6 none) (hw : isX (xw X)) (hg : nA X) (hR : xR X = rmOf 1 26 0 0) {τ : St} (hr : xr X = (none, τ)) (σ : St) (h : rX_rkeep_51 σ = some τ) : Jd X 2 51 [] [] σ := by
  unfold rX_rkeep_51 at h
  exact K_vret hX hr dX6_keep_51 h

def rX_rkeep (v1 : Int32) (σ : St) : Option (St) :=
  brc ((37 : Int32) ≤ (σ.1 42 3)) (rX_rkeep_51 σ) (chk (cpb (0 : Int32) ((σ.1 42 3) * (7 : Int32)) (v1 + (1 : Int32)) 7 259) (nm (setR σ 43 (va_cpy (σ.1 45) (σ.1 43) (0 : Int32).toNatClampNeg ((σ.1 42 3) * (7 : Int32)).toNatClampNeg (v1 + (1 : Int32)).toNatClampNeg)) fun σ_1 => chk (ib (σ_1.1 42 3) 37) (nm (setI σ_1 44 (σ_1.1 42 3).toNatClampNeg v1) fun σ_2 => nm (setI σ_2 42 3 ((σ_2.1 42 3) + (1 : Int32))) fun σ_3 => rX_rkeep_51 σ_3)))
set_option maxRecDepth 100000 in
theorem tX_rkeep {X : CX} (hX : gd X cX6_keep 2 RX6 none) (hw : isX (xw X)) (hg : nA X) (hR : xR X = rmOf 1 26 0 0) {τ : St} (hr : xr X = (none, τ)) (v1 : Int32) (σ : St) (h : rX_rkeep v1 σ = some τ) : Jd X 2 0 [(0, .ref (wad (xw X) 42)), (1, .int v1)] [] σ := by
  unfold rX_rkeep at h
  refine J_aload_n (q := 0) hX dX6_keep_0 rfl rfl ?_
  refine K_geti hX (xc_42 hw) cls_X6 (k := 3) (by decide) uw_2_76 rfl dX6_keep_1 ?_
  refine J_bipush (v := (37 : Int32)) hX dX6_keep_4 (by decide) ?_
  refine K_icmp_ge (tgt := 51) hX dX6_keep_6 rfl h (fun h => ?_) (fun h => ?_)
  · refine J_sub [] rfl ?_
    exact tX_rkeep_51 hX hw hg hR hr σ h
  · refine J_aload_n (q := 0) hX dX6_keep_9 rfl rfl ?_
    refine K_getc 45 hX (xc_42 hw) cls_X6 (k := 2) (by decide) uw_2_75 rfl dX6_keep_10 ?_
    refine J_iconst (v := (0 : Int32)) hX dX6_keep_13 (by decide) ?_
    refine J_aload_n (q := 0) hX dX6_keep_14 rfl rfl ?_
    refine K_getc 43 hX (xc_42 hw) cls_X6 (k := 0) (by decide) uw_2_73 rfl dX6_keep_15 ?_
    refine J_aload_n (q := 0) hX dX6_keep_18 rfl rfl ?_
    refine K_geti hX (xc_42 hw) cls_X6 (k := 3) (by decide) uw_2_76 rfl dX6_keep_19 ?_
    refine J_bipush (v := (7 : Int32)) hX dX6_keep_22 (by decide) ?_
    refine J_imul hX dX6_keep_24 ?_
    refine J_iload_n (q := 1) hX dX6_keep_25 rfl rfl ?_
    refine J_iconst (v := (1 : Int32)) hX dX6_keep_26 (by decide) ?_
    refine J_iadd hX dX6_keep_27 ?_
    refine K_copy hX hR (xc_45 hw) (xc_43 hw) lcpy_X6_42 ⟨by omega, by omega⟩ (Nat.le_of_ble_eq_true rfl) dX6_keep_28 h (fun σ_1 h => ?_)
    refine J_aload_n (q := 0) hX dX6_keep_31 rfl rfl ?_
    refine K_getc 44 hX (xc_42 hw) cls_X6 (k := 1) (by decide) uw_2_74 rfl dX6_keep_32 ?_
    refine J_aload_n (q := 0) hX dX6_keep_35 rfl rfl ?_
    refine K_geti hX (xc_42 hw) cls_X6 (k := 3) (by decide) uw_2_76 rfl dX6_keep_36 ?_
    refine J_iload_n (q := 1) hX dX6_keep_39 rfl rfl ?_
    refine K_iast hX (xc_44 hw) dX6_keep_40 h (fun σ_2 h => ?_)
    refine J_aload_n (q := 0) hX dX6_keep_41 rfl rfl ?_
    refine J_dup hX dX6_keep_42 rfl ?_
    refine K_geti hX (xc_42 hw) cls_X6 (k := 3) (by decide) uw_2_76 rfl dX6_keep_43 ?_
    refine J_iconst (v := (1 : Int32)) hX dX6_keep_46 (by decide) ?_
    refine J_iadd hX dX6_keep_47 ?_
    refine K_puti hX (xc_42 hw) cls_X6 (k := 3) (by decide) uw_2_76 rfl rfl rfl dX6_keep_48 h (fun σ_3 h => ?_)
    refine J_sub [] rfl ?_
    exact tX_rkeep_51 hX hw hg hR hr σ_3 h
theorem ctX_rkeep {w : WT} (hw : isX w) {v1 : Int32} {σ : St} {τ : St} (h : rX_rkeep v1 σ = some τ) : Ct yX6_keep cX6_keep 2 none 1 26 w [.ref (wad w 42), .int v1] σ none τ 0 0 :=
  Ct_intro (fun _ => (0, 0)) (by decide) rfl ⟨rfl, Nat.le_refl _⟩ (Nat.le_of_ble_eq_true rfl) (fun X hX hR hwX hg hr => by subst hwX; exact tX_rkeep hX hw hg hR hr v1 σ h)

def rX_goOnB_90 (self : Int32 → Int32 → St → Option (St)) (k37 : Int32 → Int32 → Int32 → Int32 → St → Option (St)) (v2 : Int32) (v3 : Int32) (v4 : Int32) (v5 : Int32) (σ : St) : Option (St) :=
  nm (v5 + Int32.ofInt 1) fun v5_3 => k37 v2 v3 v4 v5_3 σ
set_option maxRecDepth 100000 in
theorem tX_goOnB_90 {f lo : Nat} {X : CX} (hX : gd X cX6_goOn 6 RX6 none) (hw : isX (xw X)) (hg : nA X) (hR : xR X = rmOf (f + 2) (lo + 47) 0 0) {τ : St} (hr : xr X = (none, τ)) {self : Int32 → Int32 → St → Option (St)} (hself : ∀ (v2 : Int32) (v3 : Int32) (σ τ : St), self v2 v3 σ = some τ → Ct yX6_goOn cX6_goOn 6 none f lo (xw X) [.ref (wad (xw X) 42), .ref (wad (xw X) 23), .int v2, .int v3] σ none τ 0 0) {k37 : Int32 → Int32 → Int32 → Int32 → St → Option (St)} (hk37 : (∀ (v2 : Int32) (v3 : Int32) (v4 : Int32) (v5 : Int32) (σ : St), k37 v2 v3 v4 v5 σ = some τ → Jd X 6 37 [(0, .ref (wad (xw X) 42)), (1, .ref (wad (xw X) 23)), (2, .int v2), (3, .int v3), (4, .int v4), (5, .int v5)] [] σ)) (v2 : Int32) (v3 : Int32) (v4 : Int32) (v5 : Int32) (σ : St) (h : rX_goOnB_90 self k37 v2 v3 v4 v5 σ = some τ) : Jd X 6 90 [(0, .ref (wad (xw X) 42)), (1, .ref (wad (xw X) 23)), (2, .int v2), (3, .int v3), (4, .int v4), (5, .int v5)] [] σ := by
  unfold rX_goOnB_90 at h
  refine K_iinc (q := 5) (fun v5_3 => [(5, .int v5_3), (0, .ref (wad (xw X) 42)), (1, .ref (wad (xw X) 23)), (2, .int v2), (3, .int v3), (4, .int v4)]) hX dX6_goOn_90 rfl (by decide) (fun _ => rfl) h (fun v5_3 h => ?_)
  refine J_goto (tgt := 37) hX dX6_goOn_93 rfl ?_
  refine J_sub [1, 2, 3, 4, 5, 0] rfl ?_
  exact hk37 v2 v3 v4 v5_3 σ h

def rX_goOnB_37 (self : Int32 → Int32 → St → Option (St)) (k37 : Int32 → Int32 → Int32 → Int32 → St → Option (St)) (v2 : Int32) (v3 : Int32) (v4 : Int32) (v5 : Int32) (σ : St) : Option (St) :=
  brc ((σ.1 23 0) ≤ v5) (some σ) (brc (¬ ((v3 >>> (v5 &&& 31)) &&& (1 : Int32)) = 0) (rX_goOnB_90 self k37 v2 v3 v4 v5 σ) (bnd2 (rX_hasWay v4 v5 σ) fun r_6 σ_4 => brc (r_6 = 0) (rX_goOnB_90 self k37 v2 v3 v4 v5 σ_4) (chk (ib (v2 + (1 : Int32)) 7) (nm (setI σ_4 45 (v2 + (1 : Int32)).toNatClampNeg v5) fun σ_7 => bnd1 (self (v2 + (1 : Int32)) (v3 ||| ((1 : Int32) <<< (v5 &&& 31))) σ_7) fun σ_8 => rX_goOnB_90 self k37 v2 v3 v4 v5 σ_8))))
set_option maxRecDepth 100000 in
theorem tX_goOnB_37b {f lo : Nat} {X : CX} (hX : gd X cX6_goOn 6 RX6 none) (hw : isX (xw X)) (hg : nA X) (hR : xR X = rmOf (f + 2) (lo + 47) 0 0) {τ : St} (hr : xr X = (none, τ)) {self : Int32 → Int32 → St → Option (St)} (hself : ∀ (v2 : Int32) (v3 : Int32) (σ τ : St), self v2 v3 σ = some τ → Ct yX6_goOn cX6_goOn 6 none f lo (xw X) [.ref (wad (xw X) 42), .ref (wad (xw X) 23), .int v2, .int v3] σ none τ 0 0) {k37 : Int32 → Int32 → Int32 → Int32 → St → Option (St)} (hk37 : (∀ (v2 : Int32) (v3 : Int32) (v4 : Int32) (v5 : Int32) (σ : St), k37 v2 v3 v4 v5 σ = some τ → Jd X 6 37 [(0, .ref (wad (xw X) 42)), (1, .ref (wad (xw X) 23)), (2, .int v2), (3, .int v3), (4, .int v4), (5, .int v5)] [] σ)) (v2 : Int32) (v3 : Int32) (v4 : Int32) (v5 : Int32) (σ : St) (h : rX_goOnB_37 self k37 v2 v3 v4 v5 σ = some τ) : Jd X 6 37 [(0, .ref (wad (xw X) 42)), (1, .ref (wad (xw X) 23)), (2, .int v2), (3, .int v3), (4, .int v4), (5, .int v5)] [] σ := by
  unfold rX_goOnB_37 at h
  refine J_iload (q := 5) hX dX6_goOn_37 rfl ?_
  refine J_aload_n (q := 1) hX dX6_goOn_39 rfl rfl ?_
  refine K_geti hX (xc_23 hw) cls_X3 (k := 0) (by decide) uw_1_89 rfl dX6_goOn_40 ?_
  refine K_icmp_ge (tgt := 96) hX dX6_goOn_43 rfl h (fun h => ?_) (fun h => ?_)
  · exact K_vret hX hr dX6_goOn_96 h
  · refine J_iload_n (q := 3) hX dX6_goOn_46 rfl rfl ?_
    refine J_iload (q := 5) hX dX6_goOn_47 rfl ?_
    refine J_ishr hX dX6_goOn_49 ?_
    refine J_iconst (v := (1 : Int32)) hX dX6_goOn_50 (by decide) ?_
    refine J_iand hX dX6_goOn_51 ?_
    refine K_if_ne (tgt := 90) hX dX6_goOn_52 rfl h (fun h => ?_) (fun h => ?_)
    · refine J_sub [0, 1, 2, 3, 4, 5] rfl ?_
      exact tX_goOnB_90 hX hw hg hR hr hself hk37 v2 v3 v4 v5 σ h
    · refine J_aload_n (q := 1) hX dX6_goOn_55 rfl rfl ?_
      refine J_iload (q := 4) hX dX6_goOn_56 rfl ?_
      refine J_iload (q := 5) hX dX6_goOn_58 rfl ?_
      obtain ⟨r_6, σ_4, hc_5, h⟩ := bnd2_some h
      refine K_callV [.int v4, .int v5] hX hg hR (ctX_hasWay hw hc_5) lk_X6_38_X3_hasWay md_X3_hasWay (xc_23 hw) cls_X3 ⟨by omega, by omega⟩ rfl rfl (Nat.le_of_ble_eq_true rfl) dX6_goOn_60 ?_
      refine K_if_eq (tgt := 90) hX dX6_goOn_63 rfl h (fun h => ?_) (fun h => ?_)
      · refine J_sub [0, 1, 2, 3, 4, 5] rfl ?_
        exact tX_goOnB_90 hX hw hg hR hr hself hk37 v2 v3 v4 v5 σ_4 h
      · refine J_aload_n (q := 0) hX dX6_goOn_66 rfl rfl ?_
        refine K_getc 45 hX (xc_42 hw) cls_X6 (k := 2) (by decide) uw_2_75 rfl dX6_goOn_67 ?_
        refine J_iload_n (q := 2) hX dX6_goOn_70 rfl rfl ?_
        refine J_iconst (v := (1 : Int32)) hX dX6_goOn_71 (by decide) ?_
        refine J_iadd hX dX6_goOn_72 ?_
        refine J_iload (q := 5) hX dX6_goOn_73 rfl ?_
        refine K_iast hX (xc_45 hw) dX6_goOn_75 h (fun σ_7 h => ?_)
        refine J_aload_n (q := 0) hX dX6_goOn_76 rfl rfl ?_
        refine J_aload_n (q := 1) hX dX6_goOn_77 rfl rfl ?_
        refine J_iload_n (q := 2) hX dX6_goOn_78 rfl rfl ?_
        refine J_iconst (v := (1 : Int32)) hX dX6_goOn_79 (by decide) ?_
        refine J_iadd hX dX6_goOn_80 ?_
        refine J_iload_n (q := 3) hX dX6_goOn_81 rfl rfl ?_
        refine J_iconst (v := (1 : Int32)) hX dX6_goOn_82 (by decide) ?_
        refine J_iload (q := 5) hX dX6_goOn_83 rfl ?_
        refine J_ishl hX dX6_goOn_85 ?_
        refine J_ior hX dX6_goOn_86 ?_
        obtain ⟨σ_8, hc_9, h⟩ := bnd1_some h
        refine K_callV [.ref (wad (xw X) 23), .int (v2 + (1 : Int32)), .int (v3 ||| ((1 : Int32) <<< (v5 &&& 31)))] hX hg hR (hself _ _ _ _ hc_9) lk_X6_30_X6_goOn md_X6_goOn (xc_42 hw) cls_X6 ⟨by omega, by omega⟩ rfl rfl (Nat.le_of_ble_eq_true rfl) dX6_goOn_87 ?_
        refine J_sub [0, 1, 2, 3, 4, 5] rfl ?_
        exact tX_goOnB_90 hX hw hg hR hr hself hk37 v2 v3 v4 v5 σ_8 h
def rX_goOnB_37L (self : Int32 → Int32 → St → Option (St)) : ((Int32 × Int32 × Int32 × Int32 × St) → Option (St)) → (Int32 × Int32 × Int32 × Int32 × St) → Option (St) := fun k a => rX_goOnB_37 self (fun v2 v3 v4 v5 σ => k (v2, v3, v4, v5, σ)) a.1 a.2.1 a.2.2.1 a.2.2.2.1 a.2.2.2.2
theorem tX_goOnB_37 {f lo : Nat} {X : CX} (hX : gd X cX6_goOn 6 RX6 none) (hw : isX (xw X)) (hg : nA X) (hR : xR X = rmOf (f + 2) (lo + 47) 0 0) {τ : St} (hr : xr X = (none, τ)) {self : Int32 → Int32 → St → Option (St)} (hself : ∀ (v2 : Int32) (v3 : Int32) (σ τ : St), self v2 v3 σ = some τ → Ct yX6_goOn cX6_goOn 6 none f lo (xw X) [.ref (wad (xw X) 42), .ref (wad (xw X) 23), .int v2, .int v3] σ none τ 0 0) (n : Nat) (v2 : Int32) (v3 : Int32) (v4 : Int32) (v5 : Int32) (σ : St) (h : lp (rX_goOnB_37L self) n (v2, v3, v4, v5, σ) = some τ) : Jd X 6 37 [(0, .ref (wad (xw X) 42)), (1, .ref (wad (xw X) 23)), (2, .int v2), (3, .int v3), (4, .int v4), (5, .int v5)] [] σ :=
  lp_ind (F := rX_goOnB_37L self) (P := fun a => Jd X 6 37 [(0, .ref (wad (xw X) 42)), (1, .ref (wad (xw X) 23)), (2, .int a.1), (3, .int a.2.1), (4, .int a.2.2.1), (5, .int a.2.2.2.1)] [] a.2.2.2.2) (fun k a hk h => tX_goOnB_37b hX hw hg hR hr hself (fun v2 v3 v4 v5 σ h => hk (v2, v3, v4, v5, σ) h) a.1 a.2.1 a.2.2.1 a.2.2.2.1 a.2.2.2.2 h) n (v2, v3, v4, v5, σ) h

def rX_goOnB (self : Int32 → Int32 → St → Option (St)) (v2 : Int32) (v3 : Int32) (σ : St) : Option (St) :=
  chk (ib v2 7) (nm (σ.1 45 v2.toNatClampNeg) fun v4_1 => brc (¬ v4_1 = ((σ.1 23 0) - (1 : Int32))) (brc ((v2 + (1 : Int32)) < (7 : Int32)) (nm (0 : Int32) fun v5_2 => lp (rX_goOnB_37L self) fu (v2, v3, v4_1, v5_2, σ)) (some σ)) (bnd1 (rX_rkeep v2 σ) fun σ_10 => some σ_10))
set_option maxRecDepth 100000 in
theorem tX_goOnB {f lo : Nat} {X : CX} (hX : gd X cX6_goOn 6 RX6 none) (hw : isX (xw X)) (hg : nA X) (hR : xR X = rmOf (f + 2) (lo + 47) 0 0) {τ : St} (hr : xr X = (none, τ)) {self : Int32 → Int32 → St → Option (St)} (hself : ∀ (v2 : Int32) (v3 : Int32) (σ τ : St), self v2 v3 σ = some τ → Ct yX6_goOn cX6_goOn 6 none f lo (xw X) [.ref (wad (xw X) 42), .ref (wad (xw X) 23), .int v2, .int v3] σ none τ 0 0) (v2 : Int32) (v3 : Int32) (σ : St) (h : rX_goOnB self v2 v3 σ = some τ) : Jd X 6 0 [(0, .ref (wad (xw X) 42)), (1, .ref (wad (xw X) 23)), (2, .int v2), (3, .int v3)] [] σ := by
  unfold rX_goOnB at h
  refine J_aload_n (q := 0) hX dX6_goOn_0 rfl rfl ?_
  refine K_getc 45 hX (xc_42 hw) cls_X6 (k := 2) (by decide) uw_2_75 rfl dX6_goOn_1 ?_
  refine J_iload_n (q := 2) hX dX6_goOn_4 rfl rfl ?_
  refine K_iald hX (xc_45 hw) dX6_goOn_5 h (fun h => ?_)
  refine K_istore (fun v4_1 => [(4, .int v4_1), (0, .ref (wad (xw X) 42)), (1, .ref (wad (xw X) 23)), (2, .int v2), (3, .int v3)]) hX dX6_goOn_6 (by decide) (fun _ => rfl) h (fun v4_1 h => ?_)
  refine J_iload (q := 0) hX dX6_goOn_8 rfl ?_
  refine J_aload_n (q := 2) hX dX6_goOn_10 rfl rfl ?_
  refine K_geti hX (xc_23 hw) cls_X3 (k := 0) (by decide) uw_1_89 rfl dX6_goOn_11 ?_
  refine J_iconst (v := (1 : Int32)) hX dX6_goOn_14 (by decide) ?_
  refine J_isub hX dX6_goOn_15 ?_
  refine K_icmp_ne (tgt := 25) hX dX6_goOn_16 rfl h (fun h => ?_) (fun h => ?_)
  · refine J_iload_n (q := 3) hX dX6_goOn_25 rfl rfl ?_
    refine J_iconst (v := (1 : Int32)) hX dX6_goOn_26 (by decide) ?_
    refine J_iadd hX dX6_goOn_27 ?_
    refine J_bipush (v := (7 : Int32)) hX dX6_goOn_28 (by decide) ?_
    refine K_icmp_lt (tgt := 34) hX dX6_goOn_30 rfl h (fun h => ?_) (fun h => ?_)
    · refine J_iconst (v := (0 : Int32)) hX dX6_goOn_34 (by decide) ?_
      refine K_istore (fun v5_2 => [(5, .int v5_2), (4, .int v4_1), (0, .ref (wad (xw X) 42)), (1, .ref (wad (xw X) 23)), (2, .int v2), (3, .int v3)]) hX dX6_goOn_35 (by decide) (fun _ => rfl) h (fun v5_2 h => ?_)
      refine J_sub [2, 3, 4, 5, 1, 0] rfl ?_
      exact tX_goOnB_37 hX hw hg hR hr hself fu v2 v3 v4_1 v5_2 σ h
    · exact K_vret hX hr dX6_goOn_33 h
  · refine J_aload_n (q := 1) hX dX6_goOn_19 rfl rfl ?_
    refine J_iload_n (q := 3) hX dX6_goOn_20 rfl rfl ?_
    obtain ⟨σ_10, hc_11, h⟩ := bnd1_some h
    refine K_callV [.int v2] hX hg hR (ctX_rkeep hw hc_11) lk_X6_34_X6_keep md_X6_keep (xc_42 hw) cls_X6 ⟨by omega, by omega⟩ rfl rfl (Nat.le_of_ble_eq_true rfl) dX6_goOn_21 ?_
    exact K_vret hX hr dX6_goOn_24 h
theorem ctX_goOnB {f lo : Nat} {w : WT} (hw : isX w) {v2 : Int32} {v3 : Int32} {σ : St} {self : Int32 → Int32 → St → Option (St)} (hself : ∀ (v2 : Int32) (v3 : Int32) (σ τ : St), self v2 v3 σ = some τ → Ct yX6_goOn cX6_goOn 6 none f lo w [.ref (wad w 42), .ref (wad w 23), .int v2, .int v3] σ none τ 0 0) {τ : St} (h : rX_goOnB self v2 v3 σ = some τ) : Ct yX6_goOn cX6_goOn 6 none (f + 2) (lo + 47) w [.ref (wad w 42), .ref (wad w 23), .int v2, .int v3] σ none τ 0 0 :=
  Ct_intro (fun _ => (0, 0)) (by decide) rfl ⟨rfl, Nat.le_refl _⟩ (Nat.le_of_ble_eq_true rfl) (fun X hX hR hwX hg hr => by subst hwX; exact tX_goOnB hX hw hg hR hr hself v2 v3 σ h)

def rX_goOn_F : ((Int32 × Int32 × St) → Option St) → (Int32 × Int32 × St) → Option St := fun self a => rX_goOnB (fun v2 v3 σ => self (v2, v3, σ)) a.1 a.2.1 a.2.2
def rX_goOn (d : Nat) (v2 : Int32) (v3 : Int32) (σ : St) : Option St := lp rX_goOn_F d (v2, v3, σ)
theorem ctX_goOn {w : WT} (hw : isX w) (d : Nat) (v2 : Int32) (v3 : Int32) (σ τ : St) (h : rX_goOn d v2 v3 σ = some τ) : Ct yX6_goOn cX6_goOn 6 none (2 * d) (47 * d) w [.ref (wad w 42), .ref (wad w 23), .int v2, .int v3] σ none τ 0 0 :=
  lp_ind2 (F := rX_goOn_F) (P := fun d a τ => Ct yX6_goOn cX6_goOn 6 none (2 * d) (47 * d) w [.ref (wad w 42), .ref (wad w 23), .int a.1, .int a.2.1] a.2.2 none τ 0 0) (fun n a r ih h => by rw [Nat.mul_succ, Nat.mul_succ]; exact ctX_goOnB (f := 2 * n) (lo := 47 * n) hw (self := fun v2 v3 σ => lp rX_goOn_F n (v2, v3, σ)) (fun v2 v3 σ τ h => ih (v2, v3, σ) τ h) h) d (v2, v3, σ) τ h

def rX_rfind_26 (σ : St) : Option (St) :=
  some σ
set_option maxRecDepth 100000 in
theorem tX_rfind_26 {X : CX} (hX : gd X cX6_find 2 RX6 none) (hw : isX (xw X)) (hg : nA X) (hR : xR X = rmOf 19 448 0 0) {τ : St} (hr : xr X = (none, τ)) (σ : St) (h : rX_rfind_26 σ = some τ) : Jd X 2 26 [] [] σ := by
  unfold rX_rfind_26 at h
  exact K_vret hX hr dX6_find_26 h

def rX_rfind (σ : St) : Option (St) :=
  nm (setI σ 42 3 (0 : Int32)) fun σ_1 => brc ((σ_1.1 23 0) ≤ 0) (rX_rfind_26 σ_1) (chk (ib (0 : Int32) 7) (nm (setI σ_1 45 (0 : Int32).toNatClampNeg (0 : Int32)) fun σ_2 => bnd1 (rX_goOn 9 (0 : Int32) (1 : Int32) σ_2) fun σ_3 => rX_rfind_26 σ_3))
set_option maxRecDepth 100000 in
theorem tX_rfind {X : CX} (hX : gd X cX6_find 2 RX6 none) (hw : isX (xw X)) (hg : nA X) (hR : xR X = rmOf 19 448 0 0) {τ : St} (hr : xr X = (none, τ)) (σ : St) (h : rX_rfind σ = some τ) : Jd X 2 0 [(0, .ref (wad (xw X) 42)), (1, .ref (wad (xw X) 23))] [] σ := by
  unfold rX_rfind at h
  refine J_aload_n (q := 0) hX dX6_find_0 rfl rfl ?_
  refine J_iconst (v := (0 : Int32)) hX dX6_find_1 (by decide) ?_
  refine K_puti hX (xc_42 hw) cls_X6 (k := 3) (by decide) uw_2_76 rfl rfl rfl dX6_find_2 h (fun σ_1 h => ?_)
  refine J_aload_n (q := 1) hX dX6_find_5 rfl rfl ?_
  refine K_geti hX (xc_23 hw) cls_X3 (k := 0) (by decide) uw_1_89 rfl dX6_find_6 ?_
  refine K_if_le (tgt := 26) hX dX6_find_9 rfl h (fun h => ?_) (fun h => ?_)
  · refine J_sub [] rfl ?_
    exact tX_rfind_26 hX hw hg hR hr σ_1 h
  · refine J_aload_n (q := 0) hX dX6_find_12 rfl rfl ?_
    refine K_getc 45 hX (xc_42 hw) cls_X6 (k := 2) (by decide) uw_2_75 rfl dX6_find_13 ?_
    refine J_iconst (v := (0 : Int32)) hX dX6_find_16 (by decide) ?_
    refine J_iconst (v := (0 : Int32)) hX dX6_find_17 (by decide) ?_
    refine K_iast hX (xc_45 hw) dX6_find_18 h (fun σ_2 h => ?_)
    refine J_aload_n (q := 0) hX dX6_find_19 rfl rfl ?_
    refine J_aload_n (q := 1) hX dX6_find_20 rfl rfl ?_
    refine J_iconst (v := (0 : Int32)) hX dX6_find_21 (by decide) ?_
    refine J_iconst (v := (1 : Int32)) hX dX6_find_22 (by decide) ?_
    obtain ⟨σ_3, hc_4, h⟩ := bnd1_some h
    refine K_callV [.ref (wad (xw X) 23), .int (0 : Int32), .int (1 : Int32)] hX hg hR (ctX_goOn hw 9 _ _ _ _ hc_4) lk_X6_30_X6_goOn md_X6_goOn (xc_42 hw) cls_X6 ⟨by decide, by decide⟩ rfl rfl (Nat.le_of_ble_eq_true rfl) dX6_find_23 ?_
    refine J_sub [] rfl ?_
    exact tX_rfind_26 hX hw hg hR hr σ_3 h
theorem ctX_rfind {w : WT} (hw : isX w) {σ : St} {τ : St} (h : rX_rfind σ = some τ) : Ct yX6_find cX6_find 2 none 19 448 w [.ref (wad w 42), .ref (wad w 23)] σ none τ 0 0 :=
  Ct_intro (fun _ => (0, 0)) (by decide) rfl ⟨rfl, Nat.le_refl _⟩ (Nat.le_of_ble_eq_true rfl) (fun X hX hR hwX hg hr => by subst hwX; exact tX_rfind hX hw hg hR hr  σ h)

def rX_thirstOf_29 (k4 : Int32 → Int32 → Int32 → St → Option (Int32 × St)) (v1 : Int32) (v2 : Int32) (v3 : Int32) (σ : St) : Option (Int32 × St) :=
  nm (v3 + Int32.ofInt 1) fun v3_3 => k4 v1 v2 v3_3 σ
set_option maxRecDepth 100000 in
theorem tX_thirstOf_29 {X : CX} (hX : gd X cX7_thirstOf 4 RX7 (some .int)) (hw : isX (xw X)) (hg : nA X) (hR : xR X = rmOf 0 0 0 0) {r : Int32} {τ : St} (hr : xr X = (some (.int r), τ)) {k4 : Int32 → Int32 → Int32 → St → Option (Int32 × St)} (hk4 : (∀ (v1 : Int32) (v2 : Int32) (v3 : Int32) (σ : St), k4 v1 v2 v3 σ = some (r, τ) → Jd X 4 4 [(0, .ref (wad (xw X) 23)), (1, .int v1), (2, .int v2), (3, .int v3)] [] σ)) (v1 : Int32) (v2 : Int32) (v3 : Int32) (σ : St) (h : rX_thirstOf_29 k4 v1 v2 v3 σ = some (r, τ)) : Jd X 4 29 [(0, .ref (wad (xw X) 23)), (1, .int v1), (2, .int v2), (3, .int v3)] [] σ := by
  unfold rX_thirstOf_29 at h
  refine K_iinc (q := 3) (fun v3_3 => [(3, .int v3_3), (0, .ref (wad (xw X) 23)), (1, .int v1), (2, .int v2)]) hX dX7_thirstOf_29 rfl (by decide) (fun _ => rfl) h (fun v3_3 h => ?_)
  refine J_goto (tgt := 4) hX dX7_thirstOf_32 rfl ?_
  refine J_sub [1, 2, 3, 0] rfl ?_
  exact hk4 v1 v2 v3_3 σ h

def rX_thirstOf_4 (k4 : Int32 → Int32 → Int32 → St → Option (Int32 × St)) (v1 : Int32) (v2 : Int32) (v3 : Int32) (σ : St) : Option (Int32 × St) :=
  brc ((σ.1 23 2) ≤ v3) (some (v2, σ)) (brc (((v1 >>> (v3 &&& 31)) &&& (1 : Int32)) = 0) (rX_thirstOf_29 k4 v1 v2 v3 σ) (chk (ib v3 6) (nm (v2 + (σ.1 31 v3.toNatClampNeg)) fun v2_4 => rX_thirstOf_29 k4 v1 v2_4 v3 σ)))
set_option maxRecDepth 100000 in
theorem tX_thirstOf_4b {X : CX} (hX : gd X cX7_thirstOf 4 RX7 (some .int)) (hw : isX (xw X)) (hg : nA X) (hR : xR X = rmOf 0 0 0 0) {r : Int32} {τ : St} (hr : xr X = (some (.int r), τ)) {k4 : Int32 → Int32 → Int32 → St → Option (Int32 × St)} (hk4 : (∀ (v1 : Int32) (v2 : Int32) (v3 : Int32) (σ : St), k4 v1 v2 v3 σ = some (r, τ) → Jd X 4 4 [(0, .ref (wad (xw X) 23)), (1, .int v1), (2, .int v2), (3, .int v3)] [] σ)) (v1 : Int32) (v2 : Int32) (v3 : Int32) (σ : St) (h : rX_thirstOf_4 k4 v1 v2 v3 σ = some (r, τ)) : Jd X 4 4 [(0, .ref (wad (xw X) 23)), (1, .int v1), (2, .int v2), (3, .int v3)] [] σ := by
  unfold rX_thirstOf_4 at h
  refine J_iload_n (q := 3) hX dX7_thirstOf_4 rfl rfl ?_
  refine J_aload_n (q := 0) hX dX7_thirstOf_5 rfl rfl ?_
  refine K_geti hX (xc_23 hw) cls_X3 (k := 2) (by decide) uw_1_95 rfl dX7_thirstOf_6 ?_
  refine K_icmp_ge (tgt := 35) hX dX7_thirstOf_9 rfl h (fun h => ?_) (fun h => ?_)
  · refine J_iload_n (q := 2) hX dX7_thirstOf_35 rfl rfl ?_
    exact K_iret hX hr dX7_thirstOf_36 h
  · refine J_iload_n (q := 1) hX dX7_thirstOf_12 rfl rfl ?_
    refine J_iload_n (q := 3) hX dX7_thirstOf_13 rfl rfl ?_
    refine J_ishr hX dX7_thirstOf_14 ?_
    refine J_iconst (v := (1 : Int32)) hX dX7_thirstOf_15 (by decide) ?_
    refine J_iand hX dX7_thirstOf_16 ?_
    refine K_if_eq (tgt := 29) hX dX7_thirstOf_17 rfl h (fun h => ?_) (fun h => ?_)
    · refine J_sub [0, 1, 2, 3] rfl ?_
      exact tX_thirstOf_29 hX hw hg hR hr hk4 v1 v2 v3 σ h
    · refine J_iload_n (q := 2) hX dX7_thirstOf_20 rfl rfl ?_
      refine J_aload_n (q := 0) hX dX7_thirstOf_21 rfl rfl ?_
      refine K_getc 31 hX (xc_23 hw) cls_X3 (k := 10) (by decide) uw_1_126 rfl dX7_thirstOf_22 ?_
      refine J_iload_n (q := 3) hX dX7_thirstOf_25 rfl rfl ?_
      refine K_iald hX (xc_31 hw) dX7_thirstOf_26 h (fun h => ?_)
      refine J_iadd hX dX7_thirstOf_27 ?_
      refine K_istore_n (fun v2_4 => [(2, .int v2_4), (0, .ref (wad (xw X) 23)), (1, .int v1), (3, .int v3)]) hX dX7_thirstOf_28 rfl (by decide) (fun _ => rfl) h (fun v2_4 h => ?_)
      refine J_sub [1, 2, 0, 3] rfl ?_
      exact tX_thirstOf_29 hX hw hg hR hr hk4 v1 v2_4 v3 σ h
def rX_thirstOf_4L : ((Int32 × Int32 × Int32 × St) → Option (Int32 × St)) → (Int32 × Int32 × Int32 × St) → Option (Int32 × St) := fun k a => rX_thirstOf_4 (fun v1 v2 v3 σ => k (v1, v2, v3, σ)) a.1 a.2.1 a.2.2.1 a.2.2.2
theorem tX_thirstOf_4 {X : CX} (hX : gd X cX7_thirstOf 4 RX7 (some .int)) (hw : isX (xw X)) (hg : nA X) (hR : xR X = rmOf 0 0 0 0) {r : Int32} {τ : St} (hr : xr X = (some (.int r), τ)) (n : Nat) (v1 : Int32) (v2 : Int32) (v3 : Int32) (σ : St) (h : lp (rX_thirstOf_4L) n (v1, v2, v3, σ) = some (r, τ)) : Jd X 4 4 [(0, .ref (wad (xw X) 23)), (1, .int v1), (2, .int v2), (3, .int v3)] [] σ :=
  lp_ind (F := rX_thirstOf_4L) (P := fun a => Jd X 4 4 [(0, .ref (wad (xw X) 23)), (1, .int a.1), (2, .int a.2.1), (3, .int a.2.2.1)] [] a.2.2.2) (fun k a hk h => tX_thirstOf_4b hX hw hg hR hr (fun v1 v2 v3 σ h => hk (v1, v2, v3, σ) h) a.1 a.2.1 a.2.2.1 a.2.2.2 h) n (v1, v2, v3, σ) h

def rX_thirstOf (v1 : Int32) (σ : St) : Option (Int32 × St) :=
  nm (0 : Int32) fun v2_1 => nm (0 : Int32) fun v3_2 => lp (rX_thirstOf_4L) fu (v1, v2_1, v3_2, σ)
set_option maxRecDepth 100000 in
theorem tX_thirstOf {X : CX} (hX : gd X cX7_thirstOf 4 RX7 (some .int)) (hw : isX (xw X)) (hg : nA X) (hR : xR X = rmOf 0 0 0 0) {r : Int32} {τ : St} (hr : xr X = (some (.int r), τ)) (v1 : Int32) (σ : St) (h : rX_thirstOf v1 σ = some (r, τ)) : Jd X 4 0 [(0, .ref (wad (xw X) 23)), (1, .int v1)] [] σ := by
  unfold rX_thirstOf at h
  refine J_iconst (v := (0 : Int32)) hX dX7_thirstOf_0 (by decide) ?_
  refine K_istore_n (fun v2_1 => [(2, .int v2_1), (0, .ref (wad (xw X) 23)), (1, .int v1)]) hX dX7_thirstOf_1 rfl (by decide) (fun _ => rfl) h (fun v2_1 h => ?_)
  refine J_iconst (v := (0 : Int32)) hX dX7_thirstOf_2 (by decide) ?_
  refine K_istore_n (fun v3_2 => [(3, .int v3_2), (2, .int v2_1), (0, .ref (wad (xw X) 23)), (1, .int v1)]) hX dX7_thirstOf_3 rfl (by decide) (fun _ => rfl) h (fun v3_2 h => ?_)
  refine J_sub [2, 3, 1, 0] rfl ?_
  exact tX_thirstOf_4 hX hw hg hR hr fu v1 v2_1 v3_2 σ h
theorem ctX_thirstOf {w : WT} (hw : isX w) {v1 : Int32} {σ : St} {r : Int32} {τ : St} (h : rX_thirstOf v1 σ = some (r, τ)) : Ct yX7_thirstOf cX7_thirstOf 4 (some .int) 0 0 w [.ref (wad w 23), .int v1] σ (some (.int r)) τ 0 0 :=
  Ct_intro (fun _ => (0, 0)) (by decide) rfl ⟨rfl, Nat.le_refl _⟩ (Nat.le_of_ble_eq_true rfl) (fun X hX hR hwX hg hr => by subst hwX; exact tX_thirstOf hX hw hg hR hr v1 σ h)

def rX_judge_120 (σ : St) : Option (St) :=
  some σ
set_option maxRecDepth 100000 in
theorem tX_judge_120 {X : CX} (hX : gd X cX7_judge 6 RX7 none) (hw : isX (xw X)) (hg : nA X) (hR : xR X = rmOf 1 23 0 0) {τ : St} (hr : xr X = (none, τ)) (σ : St) (h : rX_judge_120 σ = some τ) : Jd X 6 120 [] [] σ := by
  unfold rX_judge_120 at h
  exact K_vret hX hr dX7_judge_120 h

def rX_judge_102 (k30 : Int32 → Int32 → Int32 → St → Option (St)) (v2 : Int32) (v3 : Int32) (v4 : Int32) (σ : St) : Option (St) :=
  nm (v4 + Int32.ofInt 1) fun v4_11 => k30 v2 v3 v4_11 σ
set_option maxRecDepth 100000 in
theorem tX_judge_102 {X : CX} (hX : gd X cX7_judge 6 RX7 none) (hw : isX (xw X)) (hg : nA X) (hR : xR X = rmOf 1 23 0 0) {τ : St} (hr : xr X = (none, τ)) {k30 : Int32 → Int32 → Int32 → St → Option (St)} (hk30 : (∀ (v2 : Int32) (v3 : Int32) (v4 : Int32) (σ : St), k30 v2 v3 v4 σ = some τ → Jd X 6 30 [(0, .ref (wad (xw X) 57)), (1, .ref (wad (xw X) 23)), (2, .int v2), (3, .int v3), (4, .int v4)] [] σ)) (v2 : Int32) (v3 : Int32) (v4 : Int32) (σ : St) (h : rX_judge_102 k30 v2 v3 v4 σ = some τ) : Jd X 6 102 [(0, .ref (wad (xw X) 57)), (1, .ref (wad (xw X) 23)), (2, .int v2), (3, .int v3), (4, .int v4)] [] σ := by
  unfold rX_judge_102 at h
  refine K_iinc (q := 4) (fun v4_11 => [(4, .int v4_11), (0, .ref (wad (xw X) 57)), (1, .ref (wad (xw X) 23)), (2, .int v2), (3, .int v3)]) hX dX7_judge_102 rfl (by decide) (fun _ => rfl) h (fun v4_11 h => ?_)
  refine J_goto (tgt := 30) hX dX7_judge_105 rfl ?_
  refine J_sub [1, 2, 3, 4, 0] rfl ?_
  exact hk30 v2 v3 v4_11 σ h

def rX_judge_70 (k30 : Int32 → Int32 → Int32 → St → Option (St)) (k70 : Int32 → Int32 → Int32 → Int32 → St → Option (St)) (v2 : Int32) (v3 : Int32) (v4 : Int32) (v5 : Int32) (σ : St) : Option (St) :=
  brc ((σ.1 23 2) ≤ v5) (rX_judge_102 k30 v2 v3 v4 σ) (chk (ib v5 6) (chk (ib v5 6) (nm (setI σ 58 v5.toNatClampNeg ((σ.1 58 v5.toNatClampNeg) + ((v4 >>> (v5 &&& 31)) &&& (1 : Int32)))) fun σ_15 => nm (v5 + Int32.ofInt 1) fun v5_16 => k70 v2 v3 v4 v5_16 σ_15)))
set_option maxRecDepth 100000 in
theorem tX_judge_70b {X : CX} (hX : gd X cX7_judge 6 RX7 none) (hw : isX (xw X)) (hg : nA X) (hR : xR X = rmOf 1 23 0 0) {τ : St} (hr : xr X = (none, τ)) {k30 : Int32 → Int32 → Int32 → St → Option (St)} (hk30 : (∀ (v2 : Int32) (v3 : Int32) (v4 : Int32) (σ : St), k30 v2 v3 v4 σ = some τ → Jd X 6 30 [(0, .ref (wad (xw X) 57)), (1, .ref (wad (xw X) 23)), (2, .int v2), (3, .int v3), (4, .int v4)] [] σ)) {k70 : Int32 → Int32 → Int32 → Int32 → St → Option (St)} (hk70 : (∀ (v2 : Int32) (v3 : Int32) (v4 : Int32) (v5 : Int32) (σ : St), k70 v2 v3 v4 v5 σ = some τ → Jd X 6 70 [(0, .ref (wad (xw X) 57)), (1, .ref (wad (xw X) 23)), (2, .int v2), (3, .int v3), (4, .int v4), (5, .int v5)] [] σ)) (v2 : Int32) (v3 : Int32) (v4 : Int32) (v5 : Int32) (σ : St) (h : rX_judge_70 k30 k70 v2 v3 v4 v5 σ = some τ) : Jd X 6 70 [(0, .ref (wad (xw X) 57)), (1, .ref (wad (xw X) 23)), (2, .int v2), (3, .int v3), (4, .int v4), (5, .int v5)] [] σ := by
  unfold rX_judge_70 at h
  refine J_iload (q := 5) hX dX7_judge_70 rfl ?_
  refine J_aload_n (q := 1) hX dX7_judge_72 rfl rfl ?_
  refine K_geti hX (xc_23 hw) cls_X3 (k := 2) (by decide) uw_1_95 rfl dX7_judge_73 ?_
  refine K_icmp_ge (tgt := 102) hX dX7_judge_76 rfl h (fun h => ?_) (fun h => ?_)
  · refine J_sub [0, 1, 2, 3, 4] rfl ?_
    exact tX_judge_102 hX hw hg hR hr hk30 v2 v3 v4 σ h
  · refine J_aload_n (q := 0) hX dX7_judge_79 rfl rfl ?_
    refine K_getc 58 hX (xc_57 hw) cls_X7 (k := 0) (by decide) uw_2_223 rfl dX7_judge_80 ?_
    refine J_iload (q := 5) hX dX7_judge_83 rfl ?_
    refine J_dup2 hX dX7_judge_85 rfl rfl ?_
    refine K_iald hX (xc_58 hw) dX7_judge_86 h (fun h => ?_)
    refine J_iload (q := 4) hX dX7_judge_87 rfl ?_
    refine J_iload (q := 5) hX dX7_judge_89 rfl ?_
    refine J_ishr hX dX7_judge_91 ?_
    refine J_iconst (v := (1 : Int32)) hX dX7_judge_92 (by decide) ?_
    refine J_iand hX dX7_judge_93 ?_
    refine J_iadd hX dX7_judge_94 ?_
    refine K_iast hX (xc_58 hw) dX7_judge_95 h (fun σ_15 h => ?_)
    refine K_iinc (q := 5) (fun v5_16 => [(5, .int v5_16), (0, .ref (wad (xw X) 57)), (1, .ref (wad (xw X) 23)), (2, .int v2), (3, .int v3), (4, .int v4)]) hX dX7_judge_96 rfl (by decide) (fun _ => rfl) h (fun v5_16 h => ?_)
    refine J_goto (tgt := 70) hX dX7_judge_99 rfl ?_
    refine J_sub [1, 2, 3, 4, 5, 0] rfl ?_
    exact hk70 v2 v3 v4 v5_16 σ_15 h
def rX_judge_70L (k30 : Int32 → Int32 → Int32 → St → Option (St)) : ((Int32 × Int32 × Int32 × Int32 × St) → Option (St)) → (Int32 × Int32 × Int32 × Int32 × St) → Option (St) := fun k a => rX_judge_70 k30 (fun v2 v3 v4 v5 σ => k (v2, v3, v4, v5, σ)) a.1 a.2.1 a.2.2.1 a.2.2.2.1 a.2.2.2.2
theorem tX_judge_70 {X : CX} (hX : gd X cX7_judge 6 RX7 none) (hw : isX (xw X)) (hg : nA X) (hR : xR X = rmOf 1 23 0 0) {τ : St} (hr : xr X = (none, τ)) {k30 : Int32 → Int32 → Int32 → St → Option (St)} (hk30 : (∀ (v2 : Int32) (v3 : Int32) (v4 : Int32) (σ : St), k30 v2 v3 v4 σ = some τ → Jd X 6 30 [(0, .ref (wad (xw X) 57)), (1, .ref (wad (xw X) 23)), (2, .int v2), (3, .int v3), (4, .int v4)] [] σ)) (n : Nat) (v2 : Int32) (v3 : Int32) (v4 : Int32) (v5 : Int32) (σ : St) (h : lp (rX_judge_70L k30) n (v2, v3, v4, v5, σ) = some τ) : Jd X 6 70 [(0, .ref (wad (xw X) 57)), (1, .ref (wad (xw X) 23)), (2, .int v2), (3, .int v3), (4, .int v4), (5, .int v5)] [] σ :=
  lp_ind (F := rX_judge_70L k30) (P := fun a => Jd X 6 70 [(0, .ref (wad (xw X) 57)), (1, .ref (wad (xw X) 23)), (2, .int a.1), (3, .int a.2.1), (4, .int a.2.2.1), (5, .int a.2.2.2.1)] [] a.2.2.2.2) (fun k a hk h => tX_judge_70b hX hw hg hR hr hk30 (fun v2 v3 v4 v5 σ h => hk (v2, v3, v4, v5, σ) h) a.1 a.2.1 a.2.2.1 a.2.2.2.1 a.2.2.2.2 h) n (v2, v3, v4, v5, σ) h

def rX_judge_30 (k30 : Int32 → Int32 → Int32 → St → Option (St)) (v2 : Int32) (v3 : Int32) (v4 : Int32) (σ : St) : Option (St) :=
  brc (v3 < v4) (brc (¬ (σ.1 57 3) = 0) (rX_judge_120 σ) (nm (setI σ 57 4 (0 : Int32)) fun σ_7 => rX_judge_120 σ_7)) (bnd2 (rX_thirstOf v4 σ) fun r_10 σ_8 => brc (¬ r_10 = v2) (rX_judge_102 k30 v2 v3 v4 σ_8) (nm (setI σ_8 57 3 ((σ_8.1 57 3) + (1 : Int32))) fun σ_12 => nm (setI σ_12 57 4 ((σ_12.1 57 4) &&& v4)) fun σ_13 => nm (0 : Int32) fun v5_14 => lp (rX_judge_70L k30) fu (v2, v3, v4, v5_14, σ_13)))
set_option maxRecDepth 100000 in
theorem tX_judge_30b {X : CX} (hX : gd X cX7_judge 6 RX7 none) (hw : isX (xw X)) (hg : nA X) (hR : xR X = rmOf 1 23 0 0) {τ : St} (hr : xr X = (none, τ)) {k30 : Int32 → Int32 → Int32 → St → Option (St)} (hk30 : (∀ (v2 : Int32) (v3 : Int32) (v4 : Int32) (σ : St), k30 v2 v3 v4 σ = some τ → Jd X 6 30 [(0, .ref (wad (xw X) 57)), (1, .ref (wad (xw X) 23)), (2, .int v2), (3, .int v3), (4, .int v4)] [] σ)) (v2 : Int32) (v3 : Int32) (v4 : Int32) (σ : St) (h : rX_judge_30 k30 v2 v3 v4 σ = some τ) : Jd X 6 30 [(0, .ref (wad (xw X) 57)), (1, .ref (wad (xw X) 23)), (2, .int v2), (3, .int v3), (4, .int v4)] [] σ := by
  unfold rX_judge_30 at h
  refine J_iload (q := 4) hX dX7_judge_30 rfl ?_
  refine J_iload_n (q := 3) hX dX7_judge_32 rfl rfl ?_
  refine K_icmp_gt (tgt := 108) hX dX7_judge_33 rfl h (fun h => ?_) (fun h => ?_)
  · refine J_aload_n (q := 0) hX dX7_judge_108 rfl rfl ?_
    refine K_geti hX (xc_57 hw) cls_X7 (k := 3) (by decide) uw_2_226 rfl dX7_judge_109 ?_
    refine K_if_ne (tgt := 120) hX dX7_judge_112 rfl h (fun h => ?_) (fun h => ?_)
    · refine J_sub [] rfl ?_
      exact tX_judge_120 hX hw hg hR hr σ h
    · refine J_aload_n (q := 0) hX dX7_judge_115 rfl rfl ?_
      refine J_iconst (v := (0 : Int32)) hX dX7_judge_116 (by decide) ?_
      refine K_puti hX (xc_57 hw) cls_X7 (k := 4) (by decide) uw_2_228 rfl rfl rfl dX7_judge_117 h (fun σ_7 h => ?_)
      refine J_sub [] rfl ?_
      exact tX_judge_120 hX hw hg hR hr σ_7 h
  · refine J_aload_n (q := 1) hX dX7_judge_36 rfl rfl ?_
    refine J_iload (q := 4) hX dX7_judge_37 rfl ?_
    obtain ⟨r_10, σ_8, hc_9, h⟩ := bnd2_some h
    refine K_callS [.ref (wad (xw X) 23), .int v4] hX hg hR (ctX_thirstOf hw hc_9) lk_X7_39_X7_thirstOf md_X7_thirstOf ⟨by decide, by decide⟩ rfl rfl (Nat.le_of_ble_eq_true rfl) dX7_judge_39 ?_
    refine J_iload_n (q := 2) hX dX7_judge_42 rfl rfl ?_
    refine K_icmp_ne (tgt := 102) hX dX7_judge_43 rfl h (fun h => ?_) (fun h => ?_)
    · refine J_sub [0, 1, 2, 3, 4] rfl ?_
      exact tX_judge_102 hX hw hg hR hr hk30 v2 v3 v4 σ_8 h
    · refine J_aload_n (q := 0) hX dX7_judge_46 rfl rfl ?_
      refine J_dup hX dX7_judge_47 rfl ?_
      refine K_geti hX (xc_57 hw) cls_X7 (k := 3) (by decide) uw_2_226 rfl dX7_judge_48 ?_
      refine J_iconst (v := (1 : Int32)) hX dX7_judge_51 (by decide) ?_
      refine J_iadd hX dX7_judge_52 ?_
      refine K_puti hX (xc_57 hw) cls_X7 (k := 3) (by decide) uw_2_226 rfl rfl rfl dX7_judge_53 h (fun σ_12 h => ?_)
      refine J_aload_n (q := 0) hX dX7_judge_56 rfl rfl ?_
      refine J_dup hX dX7_judge_57 rfl ?_
      refine K_geti hX (xc_57 hw) cls_X7 (k := 4) (by decide) uw_2_228 rfl dX7_judge_58 ?_
      refine J_iload (q := 4) hX dX7_judge_61 rfl ?_
      refine J_iand hX dX7_judge_63 ?_
      refine K_puti hX (xc_57 hw) cls_X7 (k := 4) (by decide) uw_2_228 rfl rfl rfl dX7_judge_64 h (fun σ_13 h => ?_)
      refine J_iconst (v := (0 : Int32)) hX dX7_judge_67 (by decide) ?_
      refine K_istore (fun v5_14 => [(5, .int v5_14), (0, .ref (wad (xw X) 57)), (1, .ref (wad (xw X) 23)), (2, .int v2), (3, .int v3), (4, .int v4)]) hX dX7_judge_68 (by decide) (fun _ => rfl) h (fun v5_14 h => ?_)
      refine J_sub [1, 2, 3, 4, 5, 0] rfl ?_
      exact tX_judge_70 hX hw hg hR hr hk30 fu v2 v3 v4 v5_14 σ_13 h
def rX_judge_30L : ((Int32 × Int32 × Int32 × St) → Option (St)) → (Int32 × Int32 × Int32 × St) → Option (St) := fun k a => rX_judge_30 (fun v2 v3 v4 σ => k (v2, v3, v4, σ)) a.1 a.2.1 a.2.2.1 a.2.2.2
theorem tX_judge_30 {X : CX} (hX : gd X cX7_judge 6 RX7 none) (hw : isX (xw X)) (hg : nA X) (hR : xR X = rmOf 1 23 0 0) {τ : St} (hr : xr X = (none, τ)) (n : Nat) (v2 : Int32) (v3 : Int32) (v4 : Int32) (σ : St) (h : lp (rX_judge_30L) n (v2, v3, v4, σ) = some τ) : Jd X 6 30 [(0, .ref (wad (xw X) 57)), (1, .ref (wad (xw X) 23)), (2, .int v2), (3, .int v3), (4, .int v4)] [] σ :=
  lp_ind (F := rX_judge_30L) (P := fun a => Jd X 6 30 [(0, .ref (wad (xw X) 57)), (1, .ref (wad (xw X) 23)), (2, .int a.1), (3, .int a.2.1), (4, .int a.2.2.1)] [] a.2.2.2) (fun k a hk h => tX_judge_30b hX hw hg hR hr (fun v2 v3 v4 σ h => hk (v2, v3, v4, σ) h) a.1 a.2.1 a.2.2.1 a.2.2.2 h) n (v2, v3, v4, σ) h

def rX_judge (v2 : Int32) (σ : St) : Option (St) :=
  nm (((1 : Int32) <<< ((σ.1 23 2) &&& 31)) - (1 : Int32)) fun v3_1 => nm (setI σ 57 3 (0 : Int32)) fun σ_2 => nm (setI σ_2 57 4 v3_1) fun σ_3 => bnd1 (rX_fill_setsWith (0 : Int32) σ_3) fun σ_4 => nm (0 : Int32) fun v4_6 => lp (rX_judge_30L) fu (v2, v3_1, v4_6, σ_4)
set_option maxRecDepth 100000 in
theorem tX_judge {X : CX} (hX : gd X cX7_judge 6 RX7 none) (hw : isX (xw X)) (hg : nA X) (hR : xR X = rmOf 1 23 0 0) {τ : St} (hr : xr X = (none, τ)) (v2 : Int32) (σ : St) (h : rX_judge v2 σ = some τ) : Jd X 6 0 [(0, .ref (wad (xw X) 57)), (1, .ref (wad (xw X) 23)), (2, .int v2)] [] σ := by
  unfold rX_judge at h
  refine J_iconst (v := (1 : Int32)) hX dX7_judge_0 (by decide) ?_
  refine J_aload_n (q := 1) hX dX7_judge_1 rfl rfl ?_
  refine K_geti hX (xc_23 hw) cls_X3 (k := 2) (by decide) uw_1_95 rfl dX7_judge_2 ?_
  refine J_ishl hX dX7_judge_5 ?_
  refine J_iconst (v := (1 : Int32)) hX dX7_judge_6 (by decide) ?_
  refine J_isub hX dX7_judge_7 ?_
  refine K_istore_n (fun v3_1 => [(3, .int v3_1), (0, .ref (wad (xw X) 57)), (1, .ref (wad (xw X) 23)), (2, .int v2)]) hX dX7_judge_8 rfl (by decide) (fun _ => rfl) h (fun v3_1 h => ?_)
  refine J_aload_n (q := 1) hX dX7_judge_9 rfl rfl ?_
  refine J_iconst (v := (0 : Int32)) hX dX7_judge_10 (by decide) ?_
  refine K_puti hX (xc_57 hw) cls_X7 (k := 3) (by decide) uw_2_226 rfl rfl rfl dX7_judge_11 h (fun σ_2 h => ?_)
  refine J_aload_n (q := 1) hX dX7_judge_14 rfl rfl ?_
  refine J_iload_n (q := 0) hX dX7_judge_15 rfl rfl ?_
  refine K_puti hX (xc_57 hw) cls_X7 (k := 4) (by decide) uw_2_228 rfl rfl rfl dX7_judge_16 h (fun σ_3 h => ?_)
  refine J_aload_n (q := 1) hX dX7_judge_19 rfl rfl ?_
  refine K_getc 58 hX (xc_57 hw) cls_X7 (k := 0) (by decide) uw_2_223 rfl dX7_judge_20 ?_
  refine J_iconst (v := (0 : Int32)) hX dX7_judge_23 (by decide) ?_
  obtain ⟨σ_4, hc_5, h⟩ := bnd1_some h
  refine K_callS [.ref (wad (xw X) 58), .int (0 : Int32)] hX hg hR (ctX_fill_setsWith hw hc_5) lk_X7_33_J7_fill_53178 md_J7_fill_53178 ⟨by decide, by decide⟩ rfl rfl (Nat.le_of_ble_eq_true rfl) dX7_judge_24 ?_
  refine J_iconst (v := (0 : Int32)) hX dX7_judge_27 (by decide) ?_
  refine K_istore (fun v4_6 => [(4, .int v4_6), (3, .int v3_1), (0, .ref (wad (xw X) 57)), (1, .ref (wad (xw X) 23)), (2, .int v2)]) hX dX7_judge_28 (by decide) (fun _ => rfl) h (fun v4_6 h => ?_)
  refine J_sub [2, 3, 4, 1, 0] rfl ?_
  exact tX_judge_30 hX hw hg hR hr fu v2 v3_1 v4_6 σ_4 h
theorem ctX_judge {w : WT} (hw : isX w) {v2 : Int32} {σ : St} {τ : St} (h : rX_judge v2 σ = some τ) : Ct yX7_judge cX7_judge 6 none 1 23 w [.ref (wad w 57), .ref (wad w 23), .int v2] σ none τ 0 0 :=
  Ct_intro (fun _ => (0, 0)) (by decide) rfl ⟨rfl, Nat.le_refl _⟩ (Nat.le_of_ble_eq_true rfl) (fun X hX hR hwX hg hr => by subst hwX; exact tX_judge hX hw hg hR hr v2 σ h)

def rX_lowest_62 (v4 : Int32) (s0 : Int32) (σ : St) : Option (Int32 × St) :=
  chk (decide (¬ v4 = 0)) (some (s0 / v4, σ))
set_option maxRecDepth 100000 in
theorem tX_lowest_62 {X : CX} (hX : gd X cX7_inLowestTerms 5 RX7 (some .int)) (hw : isX (xw X)) (hg : nA X) (hR : xR X = rmOf 0 0 0 0) {r : Int32} {τ : St} (hr : xr X = (some (.int r), τ)) (v4 : Int32) (s0 : Int32) (σ : St) (h : rX_lowest_62 v4 s0 σ = some (r, τ)) : Jd X 5 62 [(4, .int v4)] [.int s0] σ := by
  unfold rX_lowest_62 at h
  refine J_iload (q := 0) hX dX7_inLowestTerms_62 rfl ?_
  refine K_idiv hX dX7_inLowestTerms_64 h (fun h => ?_)
  exact K_iret hX hr dX7_inLowestTerms_65 h

def rX_lowest_42 (v2 : Int32) (v3 : Int32) (v4 : Int32) (σ : St) : Option (Int32 × St) :=
  brc ((1 : Int32) ≤ v4) (brc (v2 = 0) (rX_lowest_62 v4 (σ.1 57 3) σ) (rX_lowest_62 v4 v3 σ)) (some ((-1 : Int32), σ))
set_option maxRecDepth 100000 in
theorem tX_lowest_42 {X : CX} (hX : gd X cX7_inLowestTerms 5 RX7 (some .int)) (hw : isX (xw X)) (hg : nA X) (hR : xR X = rmOf 0 0 0 0) {r : Int32} {τ : St} (hr : xr X = (some (.int r), τ)) (v2 : Int32) (v3 : Int32) (v4 : Int32) (σ : St) (h : rX_lowest_42 v2 v3 v4 σ = some (r, τ)) : Jd X 5 42 [(0, .ref (wad (xw X) 57)), (2, .int v2), (3, .int v3), (4, .int v4)] [] σ := by
  unfold rX_lowest_42 at h
  refine J_iload (q := 3) hX dX7_inLowestTerms_42 rfl ?_
  refine J_iconst (v := (1 : Int32)) hX dX7_inLowestTerms_44 (by decide) ?_
  refine K_icmp_ge (tgt := 50) hX dX7_inLowestTerms_45 rfl h (fun h => ?_) (fun h => ?_)
  · refine J_iload_n (q := 1) hX dX7_inLowestTerms_50 rfl rfl ?_
    refine K_if_eq (tgt := 58) hX dX7_inLowestTerms_51 rfl h (fun h => ?_) (fun h => ?_)
    · refine J_aload_n (q := 0) hX dX7_inLowestTerms_58 rfl rfl ?_
      refine K_geti hX (xc_57 hw) cls_X7 (k := 3) (by decide) uw_2_226 rfl dX7_inLowestTerms_59 ?_
      refine J_sub [3] rfl ?_
      exact tX_lowest_62 hX hw hg hR hr v4 (σ.1 57 3) σ h
    · refine J_iload_n (q := 2) hX dX7_inLowestTerms_54 rfl rfl ?_
      refine J_goto (tgt := 62) hX dX7_inLowestTerms_55 rfl ?_
      refine J_sub [3] rfl ?_
      exact tX_lowest_62 hX hw hg hR hr v4 v3 σ h
  · refine J_iconst (v := (-1 : Int32)) hX dX7_inLowestTerms_48 (by decide) ?_
    exact K_iret hX hr dX7_inLowestTerms_49 h

def rX_lowest_36 (k13 : Int32 → Int32 → Int32 → St → Option (Int32 × St)) (v2 : Int32) (v3 : Int32) (v4 : Int32) (σ : St) : Option (Int32 × St) :=
  nm (v4 + Int32.ofInt (-1)) fun v4_3 => k13 v2 v3 v4_3 σ
set_option maxRecDepth 100000 in
theorem tX_lowest_36 {X : CX} (hX : gd X cX7_inLowestTerms 5 RX7 (some .int)) (hw : isX (xw X)) (hg : nA X) (hR : xR X = rmOf 0 0 0 0) {r : Int32} {τ : St} (hr : xr X = (some (.int r), τ)) {k13 : Int32 → Int32 → Int32 → St → Option (Int32 × St)} (hk13 : (∀ (v2 : Int32) (v3 : Int32) (v4 : Int32) (σ : St), k13 v2 v3 v4 σ = some (r, τ) → Jd X 5 13 [(0, .ref (wad (xw X) 57)), (2, .int v2), (3, .int v3), (4, .int v4)] [] σ)) (v2 : Int32) (v3 : Int32) (v4 : Int32) (σ : St) (h : rX_lowest_36 k13 v2 v3 v4 σ = some (r, τ)) : Jd X 5 36 [(0, .ref (wad (xw X) 57)), (2, .int v2), (3, .int v3), (4, .int v4)] [] σ := by
  unfold rX_lowest_36 at h
  refine K_iinc (q := 3) (fun v4_3 => [(4, .int v4_3), (0, .ref (wad (xw X) 57)), (2, .int v2), (3, .int v3)]) hX dX7_inLowestTerms_36 rfl (by decide) (fun _ => rfl) h (fun v4_3 h => ?_)
  refine J_goto (tgt := 13) hX dX7_inLowestTerms_39 rfl ?_
  refine J_sub [1, 2, 3, 0] rfl ?_
  exact hk13 v2 v3 v4_3 σ h

def rX_lowest_13 (k13 : Int32 → Int32 → Int32 → St → Option (Int32 × St)) (v2 : Int32) (v3 : Int32) (v4 : Int32) (σ : St) : Option (Int32 × St) :=
  brc (v4 ≤ (1 : Int32)) (rX_lowest_42 v2 v3 v4 σ) (chk (decide (¬ v4 = 0)) (brc (¬ (v3 - v3 / v4 * v4) = 0) (rX_lowest_36 k13 v2 v3 v4 σ) (chk (decide (¬ v4 = 0)) (brc (((σ.1 57 3) - (σ.1 57 3) / v4 * v4) = 0) (rX_lowest_42 v2 v3 v4 σ) (rX_lowest_36 k13 v2 v3 v4 σ)))))
set_option maxRecDepth 100000 in
theorem tX_lowest_13b {X : CX} (hX : gd X cX7_inLowestTerms 5 RX7 (some .int)) (hw : isX (xw X)) (hg : nA X) (hR : xR X = rmOf 0 0 0 0) {r : Int32} {τ : St} (hr : xr X = (some (.int r), τ)) {k13 : Int32 → Int32 → Int32 → St → Option (Int32 × St)} (hk13 : (∀ (v2 : Int32) (v3 : Int32) (v4 : Int32) (σ : St), k13 v2 v3 v4 σ = some (r, τ) → Jd X 5 13 [(0, .ref (wad (xw X) 57)), (2, .int v2), (3, .int v3), (4, .int v4)] [] σ)) (v2 : Int32) (v3 : Int32) (v4 : Int32) (σ : St) (h : rX_lowest_13 k13 v2 v3 v4 σ = some (r, τ)) : Jd X 5 13 [(0, .ref (wad (xw X) 57)), (2, .int v2), (3, .int v3), (4, .int v4)] [] σ := by
  unfold rX_lowest_13 at h
  refine J_iload (q := 3) hX dX7_inLowestTerms_13 rfl ?_
  refine J_iconst (v := (1 : Int32)) hX dX7_inLowestTerms_15 (by decide) ?_
  refine K_icmp_le (tgt := 42) hX dX7_inLowestTerms_16 rfl h (fun h => ?_) (fun h => ?_)
  · refine J_sub [0, 1, 2, 3] rfl ?_
    exact tX_lowest_42 hX hw hg hR hr v2 v3 v4 σ h
  · refine J_iload_n (q := 2) hX dX7_inLowestTerms_19 rfl rfl ?_
    refine J_iload (q := 3) hX dX7_inLowestTerms_20 rfl ?_
    refine K_irem hX dX7_inLowestTerms_22 h (fun h => ?_)
    refine K_if_ne (tgt := 36) hX dX7_inLowestTerms_23 rfl h (fun h => ?_) (fun h => ?_)
    · refine J_sub [0, 1, 2, 3] rfl ?_
      exact tX_lowest_36 hX hw hg hR hr hk13 v2 v3 v4 σ h
    · refine J_aload_n (q := 0) hX dX7_inLowestTerms_26 rfl rfl ?_
      refine K_geti hX (xc_57 hw) cls_X7 (k := 3) (by decide) uw_2_226 rfl dX7_inLowestTerms_27 ?_
      refine J_iload (q := 3) hX dX7_inLowestTerms_30 rfl ?_
      refine K_irem hX dX7_inLowestTerms_32 h (fun h => ?_)
      refine K_if_eq (tgt := 42) hX dX7_inLowestTerms_33 rfl h (fun h => ?_) (fun h => ?_)
      · refine J_sub [0, 1, 2, 3] rfl ?_
        exact tX_lowest_42 hX hw hg hR hr v2 v3 v4 σ h
      · refine J_sub [0, 1, 2, 3] rfl ?_
        exact tX_lowest_36 hX hw hg hR hr hk13 v2 v3 v4 σ h
def rX_lowest_13L : ((Int32 × Int32 × Int32 × St) → Option (Int32 × St)) → (Int32 × Int32 × Int32 × St) → Option (Int32 × St) := fun k a => rX_lowest_13 (fun v2 v3 v4 σ => k (v2, v3, v4, σ)) a.1 a.2.1 a.2.2.1 a.2.2.2
theorem tX_lowest_13 {X : CX} (hX : gd X cX7_inLowestTerms 5 RX7 (some .int)) (hw : isX (xw X)) (hg : nA X) (hR : xR X = rmOf 0 0 0 0) {r : Int32} {τ : St} (hr : xr X = (some (.int r), τ)) (n : Nat) (v2 : Int32) (v3 : Int32) (v4 : Int32) (σ : St) (h : lp (rX_lowest_13L) n (v2, v3, v4, σ) = some (r, τ)) : Jd X 5 13 [(0, .ref (wad (xw X) 57)), (2, .int v2), (3, .int v3), (4, .int v4)] [] σ :=
  lp_ind (F := rX_lowest_13L) (P := fun a => Jd X 5 13 [(0, .ref (wad (xw X) 57)), (2, .int a.1), (3, .int a.2.1), (4, .int a.2.2.1)] [] a.2.2.2) (fun k a hk h => tX_lowest_13b hX hw hg hR hr (fun v2 v3 v4 σ h => hk (v2, v3, v4, σ) h) a.1 a.2.1 a.2.2.1 a.2.2.2 h) n (v2, v3, v4, σ) h

def rX_lowest (v1 : Int32) (v2 : Int32) (σ : St) : Option (Int32 × St) :=
  chk (ib v1 6) (nm (σ.1 58 v1.toNatClampNeg) fun v3_1 => nm (σ.1 57 3) fun v4_2 => lp (rX_lowest_13L) fu (v2, v3_1, v4_2, σ))
set_option maxRecDepth 100000 in
theorem tX_lowest {X : CX} (hX : gd X cX7_inLowestTerms 5 RX7 (some .int)) (hw : isX (xw X)) (hg : nA X) (hR : xR X = rmOf 0 0 0 0) {r : Int32} {τ : St} (hr : xr X = (some (.int r), τ)) (v1 : Int32) (v2 : Int32) (σ : St) (h : rX_lowest v1 v2 σ = some (r, τ)) : Jd X 5 0 [(0, .ref (wad (xw X) 57)), (1, .int v1), (2, .int v2)] [] σ := by
  unfold rX_lowest at h
  refine J_aload_n (q := 0) hX dX7_inLowestTerms_0 rfl rfl ?_
  refine K_getc 58 hX (xc_57 hw) cls_X7 (k := 0) (by decide) uw_2_223 rfl dX7_inLowestTerms_1 ?_
  refine J_iload_n (q := 1) hX dX7_inLowestTerms_4 rfl rfl ?_
  refine K_iald hX (xc_58 hw) dX7_inLowestTerms_5 h (fun h => ?_)
  refine K_istore_n (fun v3_1 => [(3, .int v3_1), (0, .ref (wad (xw X) 57)), (1, .int v1), (2, .int v2)]) hX dX7_inLowestTerms_6 rfl (by decide) (fun _ => rfl) h (fun v3_1 h => ?_)
  refine J_aload_n (q := 1) hX dX7_inLowestTerms_7 rfl rfl ?_
  refine K_geti hX (xc_57 hw) cls_X7 (k := 3) (by decide) uw_2_226 rfl dX7_inLowestTerms_8 ?_
  refine K_istore (fun v4_2 => [(4, .int v4_2), (3, .int v3_1), (0, .ref (wad (xw X) 57)), (1, .int v1), (2, .int v2)]) hX dX7_inLowestTerms_11 (by decide) (fun _ => rfl) h (fun v4_2 h => ?_)
  refine J_sub [2, 4, 1, 0] rfl ?_
  exact tX_lowest_13 hX hw hg hR hr fu v2 v3_1 v4_2 σ h
theorem ctX_lowest {w : WT} (hw : isX w) {v1 : Int32} {v2 : Int32} {σ : St} {r : Int32} {τ : St} (h : rX_lowest v1 v2 σ = some (r, τ)) : Ct yX7_inLowestTerms cX7_inLowestTerms 5 (some .int) 0 0 w [.ref (wad w 57), .int v1, .int v2] σ (some (.int r)) τ 0 0 :=
  Ct_intro (fun _ => (0, 0)) (by decide) rfl ⟨rfl, Nat.le_refl _⟩ (Nat.le_of_ble_eq_true rfl) (fun X hX hR hwX hg hr => by subst hwX; exact tX_lowest hX hw hg hR hr v1 v2 σ h)

def rX_fewest_133 (k26 : Int32 → Int32 → St → Option (Int32 × St)) (v3 : Int32) (v4 : Int32) (s0 : Int32) (s1 : Int32) (σ : St) : Option (Int32 × St) :=
  chk (ib s1 64) (nm (setI σ 60 s1.toNatClampNeg s0) fun σ_7 => nm (v4 + Int32.ofInt 1) fun v4_8 => k26 v3 v4_8 σ_7)
set_option maxRecDepth 100000 in
theorem tX_fewest_133 {X : CX} (hX : gd X cX7_fewestPayments 8 RX7 (some .int)) (hw : isX (xw X)) (hg : nA X) (hR : xR X = rmOf 1 23 0 0) {r : Int32} {τ : St} (hr : xr X = (some (.int r), τ)) {k26 : Int32 → Int32 → St → Option (Int32 × St)} (hk26 : (∀ (v3 : Int32) (v4 : Int32) (σ : St), k26 v3 v4 σ = some (r, τ) → Jd X 8 26 [(0, .ref (wad (xw X) 57)), (1, .ref (wad (xw X) 23)), (2, .ref (wad (xw X) 33)), (3, .int v3), (4, .int v4)] [] σ)) (v3 : Int32) (v4 : Int32) (s0 : Int32) (s1 : Int32) (σ : St) (h : rX_fewest_133 k26 v3 v4 s0 s1 σ = some (r, τ)) : Jd X 8 133 [(0, .ref (wad (xw X) 57)), (1, .ref (wad (xw X) 23)), (2, .ref (wad (xw X) 33)), (3, .int v3), (4, .int v4)] [.int s0, .int s1, .ref (wad (xw X) 60)] σ := by
  unfold rX_fewest_133 at h
  refine K_iast hX (xc_60 hw) dX7_fewestPayments_133 h (fun σ_7 h => ?_)
  refine K_iinc (q := 4) (fun v4_8 => [(4, .int v4_8), (0, .ref (wad (xw X) 57)), (1, .ref (wad (xw X) 23)), (2, .ref (wad (xw X) 33)), (3, .int v3)]) hX dX7_fewestPayments_134 rfl (by decide) (fun _ => rfl) h (fun v4_8 h => ?_)
  refine J_goto (tgt := 26) hX dX7_fewestPayments_137 rfl ?_
  refine J_sub [1, 2, 3, 4, 0] rfl ?_
  exact hk26 v3 v4_8 σ_7 h

def rX_fewest_102 (k26 : Int32 → Int32 → St → Option (Int32 × St)) (k38 : Int32 → Int32 → Int32 → Int32 → St → Option (Int32 × St)) (v3 : Int32) (v4 : Int32) (v5 : Int32) (v6 : Int32) (σ : St) : Option (Int32 × St) :=
  nm (v6 + Int32.ofInt 1) fun v6_10 => k38 v3 v4 v5 v6_10 σ
set_option maxRecDepth 100000 in
theorem tX_fewest_102 {X : CX} (hX : gd X cX7_fewestPayments 8 RX7 (some .int)) (hw : isX (xw X)) (hg : nA X) (hR : xR X = rmOf 1 23 0 0) {r : Int32} {τ : St} (hr : xr X = (some (.int r), τ)) {k26 : Int32 → Int32 → St → Option (Int32 × St)} (hk26 : (∀ (v3 : Int32) (v4 : Int32) (σ : St), k26 v3 v4 σ = some (r, τ) → Jd X 8 26 [(0, .ref (wad (xw X) 57)), (1, .ref (wad (xw X) 23)), (2, .ref (wad (xw X) 33)), (3, .int v3), (4, .int v4)] [] σ)) {k38 : Int32 → Int32 → Int32 → Int32 → St → Option (Int32 × St)} (hk38 : (∀ (v3 : Int32) (v4 : Int32) (v5 : Int32) (v6 : Int32) (σ : St), k38 v3 v4 v5 v6 σ = some (r, τ) → Jd X 8 38 [(0, .ref (wad (xw X) 57)), (1, .ref (wad (xw X) 23)), (2, .ref (wad (xw X) 33)), (3, .int v3), (4, .int v4), (5, .int v5), (6, .int v6)] [] σ)) (v3 : Int32) (v4 : Int32) (v5 : Int32) (v6 : Int32) (σ : St) (h : rX_fewest_102 k26 k38 v3 v4 v5 v6 σ = some (r, τ)) : Jd X 8 102 [(0, .ref (wad (xw X) 57)), (1, .ref (wad (xw X) 23)), (2, .ref (wad (xw X) 33)), (3, .int v3), (4, .int v4), (5, .int v5), (6, .int v6)] [] σ := by
  unfold rX_fewest_102 at h
  refine K_iinc (q := 6) (fun v6_10 => [(6, .int v6_10), (0, .ref (wad (xw X) 57)), (1, .ref (wad (xw X) 23)), (2, .ref (wad (xw X) 33)), (3, .int v3), (4, .int v4), (5, .int v5)]) hX dX7_fewestPayments_102 rfl (by decide) (fun _ => rfl) h (fun v6_10 h => ?_)
  refine J_goto (tgt := 38) hX dX7_fewestPayments_105 rfl ?_
  refine J_sub [1, 2, 3, 4, 5, 6, 0] rfl ?_
  exact hk38 v3 v4 v5 v6_10 σ h

def rX_fewest_38 (k26 : Int32 → Int32 → St → Option (Int32 × St)) (k38 : Int32 → Int32 → Int32 → Int32 → St → Option (Int32 × St)) (v3 : Int32) (v4 : Int32) (v5 : Int32) (v6 : Int32) (σ : St) : Option (Int32 × St) :=
  brc ((σ.1 23 2) ≤ v6) (chk (ib v4 64) (brc (¬ (σ.1 59 v4.toNatClampNeg) = 0) (rX_fewest_133 k26 v3 v4 v5 v4 σ) (rX_fewest_133 k26 v3 v4 (v5 + (1 : Int32)) v4 σ))) (nm ((1 : Int32) <<< (v6 &&& 31)) fun v7_9 => brc ((v4 &&& v7_9) = 0) (rX_fewest_102 k26 k38 v3 v4 v5 v6 σ) (chk (ib (v4 ^^^ v7_9) 64) (bnd2 (rX_balance v6 σ) fun r_13 σ_11 => chk (ib v4 64) (nm (setI σ_11 59 v4.toNatClampNeg ((σ.1 59 (v4 ^^^ v7_9).toNatClampNeg) + r_13)) fun σ_14 => chk (ib (v4 ^^^ v7_9) 64) (nm (if v5 < (σ_14.1 60 (v4 ^^^ v7_9).toNatClampNeg) then (σ_14.1 60 (v4 ^^^ v7_9).toNatClampNeg) else v5) fun v5_15 => rX_fewest_102 k26 k38 v3 v4 v5_15 v6 σ_14)))))
set_option maxRecDepth 100000 in
theorem tX_fewest_38b {X : CX} (hX : gd X cX7_fewestPayments 8 RX7 (some .int)) (hw : isX (xw X)) (hg : nA X) (hR : xR X = rmOf 1 23 0 0) {r : Int32} {τ : St} (hr : xr X = (some (.int r), τ)) {k26 : Int32 → Int32 → St → Option (Int32 × St)} (hk26 : (∀ (v3 : Int32) (v4 : Int32) (σ : St), k26 v3 v4 σ = some (r, τ) → Jd X 8 26 [(0, .ref (wad (xw X) 57)), (1, .ref (wad (xw X) 23)), (2, .ref (wad (xw X) 33)), (3, .int v3), (4, .int v4)] [] σ)) {k38 : Int32 → Int32 → Int32 → Int32 → St → Option (Int32 × St)} (hk38 : (∀ (v3 : Int32) (v4 : Int32) (v5 : Int32) (v6 : Int32) (σ : St), k38 v3 v4 v5 v6 σ = some (r, τ) → Jd X 8 38 [(0, .ref (wad (xw X) 57)), (1, .ref (wad (xw X) 23)), (2, .ref (wad (xw X) 33)), (3, .int v3), (4, .int v4), (5, .int v5), (6, .int v6)] [] σ)) (v3 : Int32) (v4 : Int32) (v5 : Int32) (v6 : Int32) (σ : St) (h : rX_fewest_38 k26 k38 v3 v4 v5 v6 σ = some (r, τ)) : Jd X 8 38 [(0, .ref (wad (xw X) 57)), (1, .ref (wad (xw X) 23)), (2, .ref (wad (xw X) 33)), (3, .int v3), (4, .int v4), (5, .int v5), (6, .int v6)] [] σ := by
  unfold rX_fewest_38 at h
  refine J_iload (q := 6) hX dX7_fewestPayments_38 rfl ?_
  refine J_aload_n (q := 1) hX dX7_fewestPayments_40 rfl rfl ?_
  refine K_geti hX (xc_23 hw) cls_X3 (k := 2) (by decide) uw_1_95 rfl dX7_fewestPayments_41 ?_
  refine K_icmp_ge (tgt := 108) hX dX7_fewestPayments_44 rfl h (fun h => ?_) (fun h => ?_)
  · refine J_aload_n (q := 0) hX dX7_fewestPayments_108 rfl rfl ?_
    refine K_getc 60 hX (xc_57 hw) cls_X7 (k := 2) (by decide) uw_2_225 rfl dX7_fewestPayments_109 ?_
    refine J_iload (q := 4) hX dX7_fewestPayments_112 rfl ?_
    refine J_aload_n (q := 0) hX dX7_fewestPayments_114 rfl rfl ?_
    refine K_getc 59 hX (xc_57 hw) cls_X7 (k := 1) (by decide) uw_2_224 rfl dX7_fewestPayments_115 ?_
    refine J_iload (q := 4) hX dX7_fewestPayments_118 rfl ?_
    refine K_iald hX (xc_59 hw) dX7_fewestPayments_120 h (fun h => ?_)
    refine K_if_ne (tgt := 131) hX dX7_fewestPayments_121 rfl h (fun h => ?_) (fun h => ?_)
    · refine J_iload (q := 5) hX dX7_fewestPayments_131 rfl ?_
      refine J_sub [0, 1, 2, 3, 4] rfl ?_
      exact tX_fewest_133 hX hw hg hR hr hk26 v3 v4 v5 v4 σ h
    · refine J_iload (q := 5) hX dX7_fewestPayments_124 rfl ?_
      refine J_iconst (v := (1 : Int32)) hX dX7_fewestPayments_126 (by decide) ?_
      refine J_iadd hX dX7_fewestPayments_127 ?_
      refine J_goto (tgt := 133) hX dX7_fewestPayments_128 rfl ?_
      refine J_sub [0, 1, 2, 3, 4] rfl ?_
      exact tX_fewest_133 hX hw hg hR hr hk26 v3 v4 (v5 + (1 : Int32)) v4 σ h
  · refine J_iconst (v := (1 : Int32)) hX dX7_fewestPayments_47 (by decide) ?_
    refine J_iload (q := 6) hX dX7_fewestPayments_48 rfl ?_
    refine J_ishl hX dX7_fewestPayments_50 ?_
    refine K_istore (fun v7_9 => [(7, .int v7_9), (0, .ref (wad (xw X) 57)), (1, .ref (wad (xw X) 23)), (2, .ref (wad (xw X) 33)), (3, .int v3), (4, .int v4), (5, .int v5), (6, .int v6)]) hX dX7_fewestPayments_51 (by decide) (fun _ => rfl) h (fun v7_9 h => ?_)
    refine J_iload (q := 5) hX dX7_fewestPayments_53 rfl ?_
    refine J_iload (q := 0) hX dX7_fewestPayments_55 rfl ?_
    refine J_iand hX dX7_fewestPayments_57 ?_
    refine K_if_eq (tgt := 102) hX dX7_fewestPayments_58 rfl h (fun h => ?_) (fun h => ?_)
    · refine J_sub [1, 2, 3, 4, 5, 6, 7] rfl ?_
      exact tX_fewest_102 hX hw hg hR hr hk26 hk38 v3 v4 v5 v6 σ h
    · refine J_aload_n (q := 1) hX dX7_fewestPayments_61 rfl rfl ?_
      refine K_getc 59 hX (xc_57 hw) cls_X7 (k := 1) (by decide) uw_2_224 rfl dX7_fewestPayments_62 ?_
      refine J_iload (q := 5) hX dX7_fewestPayments_65 rfl ?_
      refine J_aload_n (q := 1) hX dX7_fewestPayments_67 rfl rfl ?_
      refine K_getc 59 hX (xc_57 hw) cls_X7 (k := 1) (by decide) uw_2_224 rfl dX7_fewestPayments_68 ?_
      refine J_iload (q := 5) hX dX7_fewestPayments_71 rfl ?_
      refine J_iload (q := 0) hX dX7_fewestPayments_73 rfl ?_
      refine J_ixor hX dX7_fewestPayments_75 ?_
      refine K_iald hX (xc_59 hw) dX7_fewestPayments_76 h (fun h => ?_)
      refine J_aload_n (q := 3) hX dX7_fewestPayments_77 rfl rfl ?_
      refine J_iload (q := 7) hX dX7_fewestPayments_78 rfl ?_
      obtain ⟨r_13, σ_11, hc_12, h⟩ := bnd2_some h
      refine K_callV [.int v6] hX hg hR (ctX_balance hw hc_12) lk_X7_46_X0_balance md_X0_balance (xc_33 hw) cls_X0 ⟨by decide, by decide⟩ rfl rfl (Nat.le_of_ble_eq_true rfl) dX7_fewestPayments_80 ?_
      refine J_iadd hX dX7_fewestPayments_83 ?_
      refine K_iast hX (xc_59 hw) dX7_fewestPayments_84 h (fun σ_14 h => ?_)
      refine J_iload (q := 6) hX dX7_fewestPayments_85 rfl ?_
      refine J_aload_n (q := 1) hX dX7_fewestPayments_87 rfl rfl ?_
      refine K_getc 60 hX (xc_57 hw) cls_X7 (k := 2) (by decide) uw_2_225 rfl dX7_fewestPayments_88 ?_
      refine J_iload (q := 5) hX dX7_fewestPayments_91 rfl ?_
      refine J_iload (q := 0) hX dX7_fewestPayments_93 rfl ?_
      refine J_ixor hX dX7_fewestPayments_95 ?_
      refine K_iald hX (xc_60 hw) dX7_fewestPayments_96 h (fun h => ?_)
      refine K_max hX hR hg lmath_max_X7_52 ⟨by omega, by omega⟩ (Nat.le_of_ble_eq_true rfl) dX7_fewestPayments_97 ?_
      refine K_istore (fun v5_15 => [(5, .int v5_15), (7, .int v7_9), (0, .ref (wad (xw X) 57)), (1, .ref (wad (xw X) 23)), (2, .ref (wad (xw X) 33)), (3, .int v3), (4, .int v4), (6, .int v6)]) hX dX7_fewestPayments_100 (by decide) (fun _ => rfl) h (fun v5_15 h => ?_)
      refine J_sub [2, 3, 4, 5, 6, 0, 7] rfl ?_
      exact tX_fewest_102 hX hw hg hR hr hk26 hk38 v3 v4 v5_15 v6 σ_14 h
def rX_fewest_38L (k26 : Int32 → Int32 → St → Option (Int32 × St)) : ((Int32 × Int32 × Int32 × Int32 × St) → Option (Int32 × St)) → (Int32 × Int32 × Int32 × Int32 × St) → Option (Int32 × St) := fun k a => rX_fewest_38 k26 (fun v3 v4 v5 v6 σ => k (v3, v4, v5, v6, σ)) a.1 a.2.1 a.2.2.1 a.2.2.2.1 a.2.2.2.2
theorem tX_fewest_38 {X : CX} (hX : gd X cX7_fewestPayments 8 RX7 (some .int)) (hw : isX (xw X)) (hg : nA X) (hR : xR X = rmOf 1 23 0 0) {r : Int32} {τ : St} (hr : xr X = (some (.int r), τ)) {k26 : Int32 → Int32 → St → Option (Int32 × St)} (hk26 : (∀ (v3 : Int32) (v4 : Int32) (σ : St), k26 v3 v4 σ = some (r, τ) → Jd X 8 26 [(0, .ref (wad (xw X) 57)), (1, .ref (wad (xw X) 23)), (2, .ref (wad (xw X) 33)), (3, .int v3), (4, .int v4)] [] σ)) (n : Nat) (v3 : Int32) (v4 : Int32) (v5 : Int32) (v6 : Int32) (σ : St) (h : lp (rX_fewest_38L k26) n (v3, v4, v5, v6, σ) = some (r, τ)) : Jd X 8 38 [(0, .ref (wad (xw X) 57)), (1, .ref (wad (xw X) 23)), (2, .ref (wad (xw X) 33)), (3, .int v3), (4, .int v4), (5, .int v5), (6, .int v6)] [] σ :=
  lp_ind (F := rX_fewest_38L k26) (P := fun a => Jd X 8 38 [(0, .ref (wad (xw X) 57)), (1, .ref (wad (xw X) 23)), (2, .ref (wad (xw X) 33)), (3, .int a.1), (4, .int a.2.1), (5, .int a.2.2.1), (6, .int a.2.2.2.1)] [] a.2.2.2.2) (fun k a hk h => tX_fewest_38b hX hw hg hR hr hk26 (fun v3 v4 v5 v6 σ h => hk (v3, v4, v5, v6, σ) h) a.1 a.2.1 a.2.2.1 a.2.2.2.1 a.2.2.2.2 h) n (v3, v4, v5, v6, σ) h

def rX_fewest_26 (k26 : Int32 → Int32 → St → Option (Int32 × St)) (v3 : Int32) (v4 : Int32) (σ : St) : Option (Int32 × St) :=
  brc (v3 < v4) (chk (ib v3 64) (some ((σ.1 23 2) - (σ.1 60 v3.toNatClampNeg), σ))) (nm (0 : Int32) fun v5_5 => nm (0 : Int32) fun v6_6 => lp (rX_fewest_38L k26) fu (v3, v4, v5_5, v6_6, σ))
set_option maxRecDepth 100000 in
theorem tX_fewest_26b {X : CX} (hX : gd X cX7_fewestPayments 8 RX7 (some .int)) (hw : isX (xw X)) (hg : nA X) (hR : xR X = rmOf 1 23 0 0) {r : Int32} {τ : St} (hr : xr X = (some (.int r), τ)) {k26 : Int32 → Int32 → St → Option (Int32 × St)} (hk26 : (∀ (v3 : Int32) (v4 : Int32) (σ : St), k26 v3 v4 σ = some (r, τ) → Jd X 8 26 [(0, .ref (wad (xw X) 57)), (1, .ref (wad (xw X) 23)), (2, .ref (wad (xw X) 33)), (3, .int v3), (4, .int v4)] [] σ)) (v3 : Int32) (v4 : Int32) (σ : St) (h : rX_fewest_26 k26 v3 v4 σ = some (r, τ)) : Jd X 8 26 [(0, .ref (wad (xw X) 57)), (1, .ref (wad (xw X) 23)), (2, .ref (wad (xw X) 33)), (3, .int v3), (4, .int v4)] [] σ := by
  unfold rX_fewest_26 at h
  refine J_iload (q := 4) hX dX7_fewestPayments_26 rfl ?_
  refine J_iload_n (q := 3) hX dX7_fewestPayments_28 rfl rfl ?_
  refine K_icmp_gt (tgt := 140) hX dX7_fewestPayments_29 rfl h (fun h => ?_) (fun h => ?_)
  · refine J_aload_n (q := 1) hX dX7_fewestPayments_140 rfl rfl ?_
    refine K_geti hX (xc_23 hw) cls_X3 (k := 2) (by decide) uw_1_95 rfl dX7_fewestPayments_141 ?_
    refine J_aload_n (q := 0) hX dX7_fewestPayments_144 rfl rfl ?_
    refine K_getc 60 hX (xc_57 hw) cls_X7 (k := 2) (by decide) uw_2_225 rfl dX7_fewestPayments_145 ?_
    refine J_iload_n (q := 3) hX dX7_fewestPayments_148 rfl rfl ?_
    refine K_iald hX (xc_60 hw) dX7_fewestPayments_149 h (fun h => ?_)
    refine J_isub hX dX7_fewestPayments_150 ?_
    exact K_iret hX hr dX7_fewestPayments_151 h
  · refine J_iconst (v := (0 : Int32)) hX dX7_fewestPayments_32 (by decide) ?_
    refine K_istore (fun v5_5 => [(5, .int v5_5), (0, .ref (wad (xw X) 57)), (1, .ref (wad (xw X) 23)), (2, .ref (wad (xw X) 33)), (3, .int v3), (4, .int v4)]) hX dX7_fewestPayments_33 (by decide) (fun _ => rfl) h (fun v5_5 h => ?_)
    refine J_iconst (v := (0 : Int32)) hX dX7_fewestPayments_35 (by decide) ?_
    refine K_istore (fun v6_6 => [(6, .int v6_6), (5, .int v5_5), (0, .ref (wad (xw X) 57)), (1, .ref (wad (xw X) 23)), (2, .ref (wad (xw X) 33)), (3, .int v3), (4, .int v4)]) hX dX7_fewestPayments_36 (by decide) (fun _ => rfl) h (fun v6_6 h => ?_)
    refine J_sub [2, 3, 4, 5, 6, 1, 0] rfl ?_
    exact tX_fewest_38 hX hw hg hR hr hk26 fu v3 v4 v5_5 v6_6 σ h
def rX_fewest_26L : ((Int32 × Int32 × St) → Option (Int32 × St)) → (Int32 × Int32 × St) → Option (Int32 × St) := fun k a => rX_fewest_26 (fun v3 v4 σ => k (v3, v4, σ)) a.1 a.2.1 a.2.2
theorem tX_fewest_26 {X : CX} (hX : gd X cX7_fewestPayments 8 RX7 (some .int)) (hw : isX (xw X)) (hg : nA X) (hR : xR X = rmOf 1 23 0 0) {r : Int32} {τ : St} (hr : xr X = (some (.int r), τ)) (n : Nat) (v3 : Int32) (v4 : Int32) (σ : St) (h : lp (rX_fewest_26L) n (v3, v4, σ) = some (r, τ)) : Jd X 8 26 [(0, .ref (wad (xw X) 57)), (1, .ref (wad (xw X) 23)), (2, .ref (wad (xw X) 33)), (3, .int v3), (4, .int v4)] [] σ :=
  lp_ind (F := rX_fewest_26L) (P := fun a => Jd X 8 26 [(0, .ref (wad (xw X) 57)), (1, .ref (wad (xw X) 23)), (2, .ref (wad (xw X) 33)), (3, .int a.1), (4, .int a.2.1)] [] a.2.2) (fun k a hk h => tX_fewest_26b hX hw hg hR hr (fun v3 v4 σ h => hk (v3, v4, σ) h) a.1 a.2.1 a.2.2 h) n (v3, v4, σ) h

def rX_fewest (σ : St) : Option (Int32 × St) :=
  nm (((1 : Int32) <<< ((σ.1 23 2) &&& 31)) - (1 : Int32)) fun v3_1 => chk (ib (0 : Int32) 64) (nm (setI σ 59 (0 : Int32).toNatClampNeg (0 : Int32)) fun σ_2 => chk (ib (0 : Int32) 64) (nm (setI σ_2 60 (0 : Int32).toNatClampNeg (0 : Int32)) fun σ_3 => nm (1 : Int32) fun v4_4 => lp (rX_fewest_26L) fu (v3_1, v4_4, σ_3)))
set_option maxRecDepth 100000 in
theorem tX_fewest {X : CX} (hX : gd X cX7_fewestPayments 8 RX7 (some .int)) (hw : isX (xw X)) (hg : nA X) (hR : xR X = rmOf 1 23 0 0) {r : Int32} {τ : St} (hr : xr X = (some (.int r), τ)) (σ : St) (h : rX_fewest σ = some (r, τ)) : Jd X 8 0 [(0, .ref (wad (xw X) 57)), (1, .ref (wad (xw X) 23)), (2, .ref (wad (xw X) 33))] [] σ := by
  unfold rX_fewest at h
  refine J_iconst (v := (1 : Int32)) hX dX7_fewestPayments_0 (by decide) ?_
  refine J_aload_n (q := 1) hX dX7_fewestPayments_1 rfl rfl ?_
  refine K_geti hX (xc_23 hw) cls_X3 (k := 2) (by decide) uw_1_95 rfl dX7_fewestPayments_2 ?_
  refine J_ishl hX dX7_fewestPayments_5 ?_
  refine J_iconst (v := (1 : Int32)) hX dX7_fewestPayments_6 (by decide) ?_
  refine J_isub hX dX7_fewestPayments_7 ?_
  refine K_istore_n (fun v3_1 => [(3, .int v3_1), (0, .ref (wad (xw X) 57)), (1, .ref (wad (xw X) 23)), (2, .ref (wad (xw X) 33))]) hX dX7_fewestPayments_8 rfl (by decide) (fun _ => rfl) h (fun v3_1 h => ?_)
  refine J_aload_n (q := 1) hX dX7_fewestPayments_9 rfl rfl ?_
  refine K_getc 59 hX (xc_57 hw) cls_X7 (k := 1) (by decide) uw_2_224 rfl dX7_fewestPayments_10 ?_
  refine J_iconst (v := (0 : Int32)) hX dX7_fewestPayments_13 (by decide) ?_
  refine J_iconst (v := (0 : Int32)) hX dX7_fewestPayments_14 (by decide) ?_
  refine K_iast hX (xc_59 hw) dX7_fewestPayments_15 h (fun σ_2 h => ?_)
  refine J_aload_n (q := 1) hX dX7_fewestPayments_16 rfl rfl ?_
  refine K_getc 60 hX (xc_57 hw) cls_X7 (k := 2) (by decide) uw_2_225 rfl dX7_fewestPayments_17 ?_
  refine J_iconst (v := (0 : Int32)) hX dX7_fewestPayments_20 (by decide) ?_
  refine J_iconst (v := (0 : Int32)) hX dX7_fewestPayments_21 (by decide) ?_
  refine K_iast hX (xc_60 hw) dX7_fewestPayments_22 h (fun σ_3 h => ?_)
  refine J_iconst (v := (1 : Int32)) hX dX7_fewestPayments_23 (by decide) ?_
  refine K_istore (fun v4_4 => [(4, .int v4_4), (3, .int v3_1), (0, .ref (wad (xw X) 57)), (1, .ref (wad (xw X) 23)), (2, .ref (wad (xw X) 33))]) hX dX7_fewestPayments_24 (by decide) (fun _ => rfl) h (fun v4_4 h => ?_)
  refine J_sub [2, 3, 4, 1, 0] rfl ?_
  exact tX_fewest_26 hX hw hg hR hr fu v3_1 v4_4 σ_3 h
theorem ctX_fewest {w : WT} (hw : isX w) {σ : St} {r : Int32} {τ : St} (h : rX_fewest σ = some (r, τ)) : Ct yX7_fewestPayments cX7_fewestPayments 8 (some .int) 1 23 w [.ref (wad w 57), .ref (wad w 23), .ref (wad w 33)] σ (some (.int r)) τ 0 0 :=
  Ct_intro (fun _ => (0, 0)) (by decide) rfl ⟨rfl, Nat.le_refl _⟩ (Nat.le_of_ble_eq_true rfl) (fun X hX hR hwX hg hr => by subst hwX; exact tX_fewest hX hw hg hR hr  σ h)

def rX_isLetter_17 (s0 : Int32) (σ : St) : Option (Int32 × St) :=
  chk (decide (s0 = 0 ∨ s0 = 1)) (some (s0, σ))
set_option maxRecDepth 100000 in
theorem tX_isLetter_17 {X : CX} (hX : gd X cX8_isLetter 1 RX8 (some .boolean)) (hw : isX (xw X)) (hg : nA X) (hR : xR X = rmOf 0 0 0 0) {r : Int32} {τ : St} (hr : xr X = (some (.int r), τ)) (s0 : Int32) (σ : St) (h : rX_isLetter_17 s0 σ = some (r, τ)) : Jd X 1 17 [] [.int s0] σ := by
  unfold rX_isLetter_17 at h
  exact K_zret hX hr dX8_isLetter_17 h

def rX_isLetter_16 (σ : St) : Option (Int32 × St) :=
  rX_isLetter_17 (0 : Int32) σ
set_option maxRecDepth 100000 in
theorem tX_isLetter_16 {X : CX} (hX : gd X cX8_isLetter 1 RX8 (some .boolean)) (hw : isX (xw X)) (hg : nA X) (hR : xR X = rmOf 0 0 0 0) {r : Int32} {τ : St} (hr : xr X = (some (.int r), τ)) (σ : St) (h : rX_isLetter_16 σ = some (r, τ)) : Jd X 1 16 [] [] σ := by
  unfold rX_isLetter_16 at h
  refine J_iconst (v := (0 : Int32)) hX dX8_isLetter_16 (by decide) ?_
  refine J_sub [] rfl ?_
  exact tX_isLetter_17 hX hw hg hR hr (0 : Int32) σ h

def rX_isLetter (v0 : Int32) (σ : St) : Option (Int32 × St) :=
  brc (v0 < (97 : Int32)) (rX_isLetter_16 σ) (brc ((122 : Int32) < v0) (rX_isLetter_16 σ) (rX_isLetter_17 (1 : Int32) σ))
set_option maxRecDepth 100000 in
theorem tX_isLetter {X : CX} (hX : gd X cX8_isLetter 1 RX8 (some .boolean)) (hw : isX (xw X)) (hg : nA X) (hR : xR X = rmOf 0 0 0 0) {r : Int32} {τ : St} (hr : xr X = (some (.int r), τ)) (v0 : Int32) (σ : St) (h : rX_isLetter v0 σ = some (r, τ)) : Jd X 1 0 [(0, .int v0)] [] σ := by
  unfold rX_isLetter at h
  refine J_iload_n (q := 0) hX dX8_isLetter_0 rfl rfl ?_
  refine J_bipush (v := (97 : Int32)) hX dX8_isLetter_1 (by decide) ?_
  refine K_icmp_lt (tgt := 16) hX dX8_isLetter_3 rfl h (fun h => ?_) (fun h => ?_)
  · refine J_sub [] rfl ?_
    exact tX_isLetter_16 hX hw hg hR hr σ h
  · refine J_iload_n (q := 0) hX dX8_isLetter_6 rfl rfl ?_
    refine J_bipush (v := (122 : Int32)) hX dX8_isLetter_7 (by decide) ?_
    refine K_icmp_gt (tgt := 16) hX dX8_isLetter_9 rfl h (fun h => ?_) (fun h => ?_)
    · refine J_sub [] rfl ?_
      exact tX_isLetter_16 hX hw hg hR hr σ h
    · refine J_iconst (v := (1 : Int32)) hX dX8_isLetter_12 (by decide) ?_
      refine J_goto (tgt := 17) hX dX8_isLetter_13 rfl ?_
      refine J_sub [] rfl ?_
      exact tX_isLetter_17 hX hw hg hR hr (1 : Int32) σ h
theorem ctX_isLetter {w : WT} (hw : isX w) {v0 : Int32} {σ : St} {r : Int32} {τ : St} (h : rX_isLetter v0 σ = some (r, τ)) : Ct yX8_isLetter cX8_isLetter 1 (some .boolean) 0 0 w [.int v0] σ (some (.int r)) τ 0 0 :=
  Ct_intro (fun _ => (0, 0)) (by decide) rfl ⟨rfl, Nat.le_refl _⟩ (Nat.le_of_ble_eq_true rfl) (fun X hX hR hwX hg hr => by subst hwX; exact tX_isLetter hX hw hg hR hr v0 σ h)

def rX_isDigit_17 (s0 : Int32) (σ : St) : Option (Int32 × St) :=
  chk (decide (s0 = 0 ∨ s0 = 1)) (some (s0, σ))
set_option maxRecDepth 100000 in
theorem tX_isDigit_17 {X : CX} (hX : gd X cX8_isDigit 1 RX8 (some .boolean)) (hw : isX (xw X)) (hg : nA X) (hR : xR X = rmOf 0 0 0 0) {r : Int32} {τ : St} (hr : xr X = (some (.int r), τ)) (s0 : Int32) (σ : St) (h : rX_isDigit_17 s0 σ = some (r, τ)) : Jd X 1 17 [] [.int s0] σ := by
  unfold rX_isDigit_17 at h
  exact K_zret hX hr dX8_isDigit_17 h

def rX_isDigit_16 (σ : St) : Option (Int32 × St) :=
  rX_isDigit_17 (0 : Int32) σ
set_option maxRecDepth 100000 in
theorem tX_isDigit_16 {X : CX} (hX : gd X cX8_isDigit 1 RX8 (some .boolean)) (hw : isX (xw X)) (hg : nA X) (hR : xR X = rmOf 0 0 0 0) {r : Int32} {τ : St} (hr : xr X = (some (.int r), τ)) (σ : St) (h : rX_isDigit_16 σ = some (r, τ)) : Jd X 1 16 [] [] σ := by
  unfold rX_isDigit_16 at h
  refine J_iconst (v := (0 : Int32)) hX dX8_isDigit_16 (by decide) ?_
  refine J_sub [] rfl ?_
  exact tX_isDigit_17 hX hw hg hR hr (0 : Int32) σ h

def rX_isDigit (v0 : Int32) (σ : St) : Option (Int32 × St) :=
  brc (v0 < (48 : Int32)) (rX_isDigit_16 σ) (brc ((57 : Int32) < v0) (rX_isDigit_16 σ) (rX_isDigit_17 (1 : Int32) σ))
set_option maxRecDepth 100000 in
theorem tX_isDigit {X : CX} (hX : gd X cX8_isDigit 1 RX8 (some .boolean)) (hw : isX (xw X)) (hg : nA X) (hR : xR X = rmOf 0 0 0 0) {r : Int32} {τ : St} (hr : xr X = (some (.int r), τ)) (v0 : Int32) (σ : St) (h : rX_isDigit v0 σ = some (r, τ)) : Jd X 1 0 [(0, .int v0)] [] σ := by
  unfold rX_isDigit at h
  refine J_iload_n (q := 0) hX dX8_isDigit_0 rfl rfl ?_
  refine J_bipush (v := (48 : Int32)) hX dX8_isDigit_1 (by decide) ?_
  refine K_icmp_lt (tgt := 16) hX dX8_isDigit_3 rfl h (fun h => ?_) (fun h => ?_)
  · refine J_sub [] rfl ?_
    exact tX_isDigit_16 hX hw hg hR hr σ h
  · refine J_iload_n (q := 0) hX dX8_isDigit_6 rfl rfl ?_
    refine J_bipush (v := (57 : Int32)) hX dX8_isDigit_7 (by decide) ?_
    refine K_icmp_gt (tgt := 16) hX dX8_isDigit_9 rfl h (fun h => ?_) (fun h => ?_)
    · refine J_sub [] rfl ?_
      exact tX_isDigit_16 hX hw hg hR hr σ h
    · refine J_iconst (v := (1 : Int32)) hX dX8_isDigit_12 (by decide) ?_
      refine J_goto (tgt := 17) hX dX8_isDigit_13 rfl ?_
      refine J_sub [] rfl ?_
      exact tX_isDigit_17 hX hw hg hR hr (1 : Int32) σ h
theorem ctX_isDigit {w : WT} (hw : isX w) {v0 : Int32} {σ : St} {r : Int32} {τ : St} (h : rX_isDigit v0 σ = some (r, τ)) : Ct yX8_isDigit cX8_isDigit 1 (some .boolean) 0 0 w [.int v0] σ (some (.int r)) τ 0 0 :=
  Ct_intro (fun _ => (0, 0)) (by decide) rfl ⟨rfl, Nat.le_refl _⟩ (Nat.le_of_ble_eq_true rfl) (fun X hX hR hwX hg hr => by subst hwX; exact tX_isDigit hX hw hg hR hr v0 σ h)

def rX_taddEight_82 (k3 : Int64 → Int32 → St → Option (St)) (v1 : Int64) (v3 : Int32) (σ : St) : Option (St) :=
  nm (v3 + Int32.ofInt (-8)) fun v3_4 => k3 v1 v3_4 σ
set_option maxRecDepth 100000 in
theorem tX_taddEight_82 {X : CX} (hX : gd X cX8_addEight 6 RX8 none) (hw : isX (xw X)) (hg : nA X) (hR : xR X = rmOf 0 0 0 0) {τ : St} (hr : xr X = (none, τ)) {k3 : Int64 → Int32 → St → Option (St)} (hk3 : (∀ (v1 : Int64) (v3 : Int32) (σ : St), k3 v1 v3 σ = some τ → Jd X 6 3 [(0, .ref (wad (xw X) 5)), (1, .long v1), (3, .int v3)] [] σ)) (v1 : Int64) (v3 : Int32) (σ : St) (h : rX_taddEight_82 k3 v1 v3 σ = some τ) : Jd X 6 82 [(0, .ref (wad (xw X) 5)), (1, .long v1), (3, .int v3)] [] σ := by
  unfold rX_taddEight_82 at h
  refine K_iinc (q := 2) (fun v3_4 => [(3, .int v3_4), (0, .ref (wad (xw X) 5)), (1, .long v1)]) hX dX8_addEight_82 rfl (by decide) (fun _ => rfl) h (fun v3_4 h => ?_)
  refine J_goto (tgt := 3) hX dX8_addEight_85 rfl ?_
  refine J_sub [1, 2, 0] rfl ?_
  exact hk3 v1 v3_4 σ h

def rX_taddEight_43 (k3 : Int64 → Int32 → St → Option (St)) (v1 : Int64) (v3 : Int32) (v4 : Int32) (s0 : Int32) (σ : St) : Option (St) :=
  nm s0 fun v5_3 => brc (v5_3 = 0) (rX_taddEight_82 k3 v1 v3 σ) (brc ((1000 : Int32) ≤ (σ.1 5 2)) (rX_taddEight_82 k3 v1 v3 σ) (chk (ib (σ.1 5 2) 1000) (nm (setI σ 6 (σ.1 5 2).toNatClampNeg (vp_nar .byte v4.toInt8.toInt32)) fun σ_5 => nm (setI σ_5 5 2 ((σ_5.1 5 2) + (1 : Int32))) fun σ_6 => rX_taddEight_82 k3 v1 v3 σ_6)))
set_option maxRecDepth 100000 in
theorem tX_taddEight_43 {X : CX} (hX : gd X cX8_addEight 6 RX8 none) (hw : isX (xw X)) (hg : nA X) (hR : xR X = rmOf 0 0 0 0) {τ : St} (hr : xr X = (none, τ)) {k3 : Int64 → Int32 → St → Option (St)} (hk3 : (∀ (v1 : Int64) (v3 : Int32) (σ : St), k3 v1 v3 σ = some τ → Jd X 6 3 [(0, .ref (wad (xw X) 5)), (1, .long v1), (3, .int v3)] [] σ)) (v1 : Int64) (v3 : Int32) (v4 : Int32) (s0 : Int32) (σ : St) (h : rX_taddEight_43 k3 v1 v3 v4 s0 σ = some τ) : Jd X 6 43 [(0, .ref (wad (xw X) 5)), (1, .long v1), (3, .int v3), (4, .int v4)] [.int s0] σ := by
  unfold rX_taddEight_43 at h
  refine K_istore (fun v5_3 => [(5, .int v5_3), (0, .ref (wad (xw X) 5)), (1, .long v1), (3, .int v3), (4, .int v4)]) hX dX8_addEight_43 (by decide) (fun _ => rfl) h (fun v5_3 h => ?_)
  refine J_iload (q := 0) hX dX8_addEight_45 rfl ?_
  refine K_if_eq (tgt := 82) hX dX8_addEight_47 rfl h (fun h => ?_) (fun h => ?_)
  · refine J_sub [1, 2, 3] rfl ?_
    exact tX_taddEight_82 hX hw hg hR hr hk3 v1 v3 σ h
  · refine J_aload_n (q := 1) hX dX8_addEight_50 rfl rfl ?_
    refine K_geti hX (xc_5 hw) cls_X8 (k := 2) (by decide) uw_1_45 rfl dX8_addEight_51 ?_
    refine J_sipush (v := (1000 : Int32)) hX dX8_addEight_54 (by decide) ?_
    refine K_icmp_ge (tgt := 82) hX dX8_addEight_57 rfl h (fun h => ?_) (fun h => ?_)
    · refine J_sub [1, 2, 3] rfl ?_
      exact tX_taddEight_82 hX hw hg hR hr hk3 v1 v3 σ h
    · refine J_aload_n (q := 1) hX dX8_addEight_60 rfl rfl ?_
      refine K_getc 6 hX (xc_5 hw) cls_X8 (k := 0) (by decide) uw_1_42 rfl dX8_addEight_61 ?_
      refine J_aload_n (q := 1) hX dX8_addEight_64 rfl rfl ?_
      refine K_geti hX (xc_5 hw) cls_X8 (k := 2) (by decide) uw_1_45 rfl dX8_addEight_65 ?_
      refine J_iload (q := 4) hX dX8_addEight_68 rfl ?_
      refine J_i2b hX dX8_addEight_70 ?_
      refine K_bast hX (xc_6 hw) dX8_addEight_71 h (fun σ_5 h => ?_)
      refine J_aload_n (q := 1) hX dX8_addEight_72 rfl rfl ?_
      refine J_dup hX dX8_addEight_73 rfl ?_
      refine K_geti hX (xc_5 hw) cls_X8 (k := 2) (by decide) uw_1_45 rfl dX8_addEight_74 ?_
      refine J_iconst (v := (1 : Int32)) hX dX8_addEight_77 (by decide) ?_
      refine J_iadd hX dX8_addEight_78 ?_
      refine K_puti hX (xc_5 hw) cls_X8 (k := 2) (by decide) uw_1_45 rfl rfl rfl dX8_addEight_79 h (fun σ_6 h => ?_)
      refine J_sub [1, 2, 3] rfl ?_
      exact tX_taddEight_82 hX hw hg hR hr hk3 v1 v3 σ_6 h

def rX_taddEight_38 (k3 : Int64 → Int32 → St → Option (St)) (v1 : Int64) (v3 : Int32) (v4 : Int32) (σ : St) : Option (St) :=
  rX_taddEight_43 k3 v1 v3 v4 (1 : Int32) σ
set_option maxRecDepth 100000 in
theorem tX_taddEight_38 {X : CX} (hX : gd X cX8_addEight 6 RX8 none) (hw : isX (xw X)) (hg : nA X) (hR : xR X = rmOf 0 0 0 0) {τ : St} (hr : xr X = (none, τ)) {k3 : Int64 → Int32 → St → Option (St)} (hk3 : (∀ (v1 : Int64) (v3 : Int32) (σ : St), k3 v1 v3 σ = some τ → Jd X 6 3 [(0, .ref (wad (xw X) 5)), (1, .long v1), (3, .int v3)] [] σ)) (v1 : Int64) (v3 : Int32) (v4 : Int32) (σ : St) (h : rX_taddEight_38 k3 v1 v3 v4 σ = some τ) : Jd X 6 38 [(0, .ref (wad (xw X) 5)), (1, .long v1), (3, .int v3), (4, .int v4)] [] σ := by
  unfold rX_taddEight_38 at h
  refine J_iconst (v := (1 : Int32)) hX dX8_addEight_38 (by decide) ?_
  refine J_goto (tgt := 43) hX dX8_addEight_39 rfl ?_
  refine J_sub [0, 1, 2, 3] rfl ?_
  exact tX_taddEight_43 hX hw hg hR hr hk3 v1 v3 v4 (1 : Int32) σ h

def rX_taddEight_42 (k3 : Int64 → Int32 → St → Option (St)) (v1 : Int64) (v3 : Int32) (v4 : Int32) (σ : St) : Option (St) :=
  rX_taddEight_43 k3 v1 v3 v4 (0 : Int32) σ
set_option maxRecDepth 100000 in
theorem tX_taddEight_42 {X : CX} (hX : gd X cX8_addEight 6 RX8 none) (hw : isX (xw X)) (hg : nA X) (hR : xR X = rmOf 0 0 0 0) {τ : St} (hr : xr X = (none, τ)) {k3 : Int64 → Int32 → St → Option (St)} (hk3 : (∀ (v1 : Int64) (v3 : Int32) (σ : St), k3 v1 v3 σ = some τ → Jd X 6 3 [(0, .ref (wad (xw X) 5)), (1, .long v1), (3, .int v3)] [] σ)) (v1 : Int64) (v3 : Int32) (v4 : Int32) (σ : St) (h : rX_taddEight_42 k3 v1 v3 v4 σ = some τ) : Jd X 6 42 [(0, .ref (wad (xw X) 5)), (1, .long v1), (3, .int v3), (4, .int v4)] [] σ := by
  unfold rX_taddEight_42 at h
  refine J_iconst (v := (0 : Int32)) hX dX8_addEight_42 (by decide) ?_
  refine J_sub [0, 1, 2, 3] rfl ?_
  exact tX_taddEight_43 hX hw hg hR hr hk3 v1 v3 v4 (0 : Int32) σ h

def rX_taddEight_3 (k3 : Int64 → Int32 → St → Option (St)) (v1 : Int64) (v3 : Int32) (σ : St) : Option (St) :=
  brc (v3 < 0) (some σ) (nm ((((v1.toUInt64 >>> (v3.toInt64.toUInt64 &&& Int64.toUInt64 63)).toInt64).toInt32) &&& (255 : Int32)) fun v4_2 => brc (v4_2 = (10 : Int32)) (rX_taddEight_38 k3 v1 v3 v4_2 σ) (brc (v4_2 < (32 : Int32)) (rX_taddEight_42 k3 v1 v3 v4_2 σ) (brc ((126 : Int32) < v4_2) (rX_taddEight_42 k3 v1 v3 v4_2 σ) (rX_taddEight_38 k3 v1 v3 v4_2 σ))))
set_option maxRecDepth 100000 in
theorem tX_taddEight_3b {X : CX} (hX : gd X cX8_addEight 6 RX8 none) (hw : isX (xw X)) (hg : nA X) (hR : xR X = rmOf 0 0 0 0) {τ : St} (hr : xr X = (none, τ)) {k3 : Int64 → Int32 → St → Option (St)} (hk3 : (∀ (v1 : Int64) (v3 : Int32) (σ : St), k3 v1 v3 σ = some τ → Jd X 6 3 [(0, .ref (wad (xw X) 5)), (1, .long v1), (3, .int v3)] [] σ)) (v1 : Int64) (v3 : Int32) (σ : St) (h : rX_taddEight_3 k3 v1 v3 σ = some τ) : Jd X 6 3 [(0, .ref (wad (xw X) 5)), (1, .long v1), (3, .int v3)] [] σ := by
  unfold rX_taddEight_3 at h
  refine J_iload_n (q := 2) hX dX8_addEight_3 rfl rfl ?_
  refine K_if_lt (tgt := 88) hX dX8_addEight_4 rfl h (fun h => ?_) (fun h => ?_)
  · exact K_vret hX hr dX8_addEight_88 h
  · refine J_lload_n (q := 1) hX dX8_addEight_7 rfl rfl ?_
    refine J_iload_n (q := 2) hX dX8_addEight_8 rfl rfl ?_
    refine J_lushr hX dX8_addEight_9 ?_
    refine J_l2i hX dX8_addEight_10 ?_
    refine J_sipush (v := (255 : Int32)) hX dX8_addEight_11 (by decide) ?_
    refine J_iand hX dX8_addEight_14 ?_
    refine K_istore (fun v4_2 => [(4, .int v4_2), (0, .ref (wad (xw X) 5)), (1, .long v1), (3, .int v3)]) hX dX8_addEight_15 (by decide) (fun _ => rfl) h (fun v4_2 h => ?_)
    refine J_iload (q := 0) hX dX8_addEight_17 rfl ?_
    refine J_bipush (v := (10 : Int32)) hX dX8_addEight_19 (by decide) ?_
    refine K_icmp_eq (tgt := 38) hX dX8_addEight_21 rfl h (fun h => ?_) (fun h => ?_)
    · refine J_sub [1, 2, 3, 0] rfl ?_
      exact tX_taddEight_38 hX hw hg hR hr hk3 v1 v3 v4_2 σ h
    · refine J_iload (q := 0) hX dX8_addEight_24 rfl ?_
      refine J_bipush (v := (32 : Int32)) hX dX8_addEight_26 (by decide) ?_
      refine K_icmp_lt (tgt := 42) hX dX8_addEight_28 rfl h (fun h => ?_) (fun h => ?_)
      · refine J_sub [1, 2, 3, 0] rfl ?_
        exact tX_taddEight_42 hX hw hg hR hr hk3 v1 v3 v4_2 σ h
      · refine J_iload (q := 0) hX dX8_addEight_31 rfl ?_
        refine J_bipush (v := (126 : Int32)) hX dX8_addEight_33 (by decide) ?_
        refine K_icmp_gt (tgt := 42) hX dX8_addEight_35 rfl h (fun h => ?_) (fun h => ?_)
        · refine J_sub [1, 2, 3, 0] rfl ?_
          exact tX_taddEight_42 hX hw hg hR hr hk3 v1 v3 v4_2 σ h
        · refine J_sub [1, 2, 3, 0] rfl ?_
          exact tX_taddEight_38 hX hw hg hR hr hk3 v1 v3 v4_2 σ h
def rX_taddEight_3L : ((Int64 × Int32 × St) → Option (St)) → (Int64 × Int32 × St) → Option (St) := fun k a => rX_taddEight_3 (fun v1 v3 σ => k (v1, v3, σ)) a.1 a.2.1 a.2.2
theorem tX_taddEight_3 {X : CX} (hX : gd X cX8_addEight 6 RX8 none) (hw : isX (xw X)) (hg : nA X) (hR : xR X = rmOf 0 0 0 0) {τ : St} (hr : xr X = (none, τ)) (n : Nat) (v1 : Int64) (v3 : Int32) (σ : St) (h : lp (rX_taddEight_3L) n (v1, v3, σ) = some τ) : Jd X 6 3 [(0, .ref (wad (xw X) 5)), (1, .long v1), (3, .int v3)] [] σ :=
  lp_ind (F := rX_taddEight_3L) (P := fun a => Jd X 6 3 [(0, .ref (wad (xw X) 5)), (1, .long a.1), (3, .int a.2.1)] [] a.2.2) (fun k a hk h => tX_taddEight_3b hX hw hg hR hr (fun v1 v3 σ h => hk (v1, v3, σ) h) a.1 a.2.1 a.2.2 h) n (v1, v3, σ) h

def rX_taddEight (v1 : Int64) (σ : St) : Option (St) :=
  nm (56 : Int32) fun v3_1 => lp (rX_taddEight_3L) fu (v1, v3_1, σ)
set_option maxRecDepth 100000 in
theorem tX_taddEight {X : CX} (hX : gd X cX8_addEight 6 RX8 none) (hw : isX (xw X)) (hg : nA X) (hR : xR X = rmOf 0 0 0 0) {τ : St} (hr : xr X = (none, τ)) (v1 : Int64) (σ : St) (h : rX_taddEight v1 σ = some τ) : Jd X 6 0 [(0, .ref (wad (xw X) 5)), (1, .long v1)] [] σ := by
  unfold rX_taddEight at h
  refine J_bipush (v := (56 : Int32)) hX dX8_addEight_0 (by decide) ?_
  refine K_istore_n (fun v3_1 => [(3, .int v3_1), (0, .ref (wad (xw X) 5)), (1, .long v1)]) hX dX8_addEight_2 rfl (by decide) (fun _ => rfl) h (fun v3_1 h => ?_)
  refine J_sub [1, 2, 0] rfl ?_
  exact tX_taddEight_3 hX hw hg hR hr fu v1 v3_1 σ h
theorem ctX_taddEight {w : WT} (hw : isX w) {v1 : Int64} {σ : St} {τ : St} (h : rX_taddEight v1 σ = some τ) : Ct yX8_addEight cX8_addEight 6 none 0 0 w [.ref (wad w 5), .long v1] σ none τ 0 0 :=
  Ct_intro (fun _ => (0, 0)) (by decide) rfl ⟨rfl, Nat.le_refl _⟩ (Nat.le_of_ble_eq_true rfl) (fun X hX hR hwX hg hr => by subst hwX; exact tX_taddEight hX hw hg hR hr v1 σ h)

def rX_treadWord_103 (s0 : Nat) (σ : St) : Option (St) :=
  nm (setP σ 5 3 s0) fun σ_5 => some σ_5
set_option maxRecDepth 100000 in
theorem tX_treadWord_103 {X : CX} (hX : gd X cX8_readWord 1 RX8 none) (hw : isX (xw X)) (hg : nA X) (hR : xR X = rmOf 5 110 0 0) {τ : St} (hr : xr X = (none, τ)) (s0 : Nat) (σ : St) (h : rX_treadWord_103 s0 σ = some τ) : Jd X 1 103 [] [.ref (wadW (xw X) s0), .ref (wad (xw X) 5)] σ := by
  unfold rX_treadWord_103 at h
  refine K_putw hX (xc_5 hw) cls_X8 (k := 3) (by decide) uw_1_46 rfl rfl rfl dX8_readWord_103 h (fun σ_5 h => ?_)
  exact K_vret hX hr dX8_readWord_106 h

def rX_treadWord_67 (σ : St) : Option (St) :=
  brc (((σ.1 5 1) - (σ.1 5 4)) ≤ (8 : Int32)) (bnd2 (rX_wfind (σ.1 5 4) (σ.1 5 1) σ) fun r_4 σ_2 => rX_treadWord_103 r_4 σ_2) (rX_treadWord_103 41 σ)
set_option maxRecDepth 100000 in
theorem tX_treadWord_67 {X : CX} (hX : gd X cX8_readWord 1 RX8 none) (hw : isX (xw X)) (hg : nA X) (hR : xR X = rmOf 5 110 0 0) {τ : St} (hr : xr X = (none, τ)) (σ : St) (h : rX_treadWord_67 σ = some τ) : Jd X 1 67 [(0, .ref (wad (xw X) 5))] [] σ := by
  unfold rX_treadWord_67 at h
  refine J_aload_n (q := 0) hX dX8_readWord_67 rfl rfl ?_
  refine J_aload_n (q := 0) hX dX8_readWord_68 rfl rfl ?_
  refine K_geti hX (xc_5 hw) cls_X8 (k := 1) (by decide) uw_1_43 rfl dX8_readWord_69 ?_
  refine J_aload_n (q := 0) hX dX8_readWord_72 rfl rfl ?_
  refine K_geti hX (xc_5 hw) cls_X8 (k := 4) (by decide) uw_1_49 rfl dX8_readWord_73 ?_
  refine J_isub hX dX8_readWord_76 ?_
  refine J_bipush (v := (8 : Int32)) hX dX8_readWord_77 (by decide) ?_
  refine K_icmp_le (tgt := 88) hX dX8_readWord_79 rfl h (fun h => ?_) (fun h => ?_)
  · refine J_aload_n (q := 0) hX dX8_readWord_88 rfl rfl ?_
    refine K_getc 6 hX (xc_5 hw) cls_X8 (k := 0) (by decide) uw_1_42 rfl dX8_readWord_89 ?_
    refine J_aload_n (q := 0) hX dX8_readWord_92 rfl rfl ?_
    refine K_geti hX (xc_5 hw) cls_X8 (k := 4) (by decide) uw_1_49 rfl dX8_readWord_93 ?_
    refine J_aload_n (q := 0) hX dX8_readWord_96 rfl rfl ?_
    refine K_geti hX (xc_5 hw) cls_X8 (k := 1) (by decide) uw_1_43 rfl dX8_readWord_97 ?_
    obtain ⟨r_4, σ_2, hc_3, h⟩ := bnd2_some h
    refine K_callS [.ref (wad (xw X) 6), .int (σ.1 5 4), .int (σ.1 5 1)] hX hg hR (ctX_wfind hw hc_3) lk_X8_50_X10_find md_X10_find ⟨by decide, by decide⟩ rfl rfl (Nat.le_of_ble_eq_true rfl) dX8_readWord_100 ?_
    refine J_sub [] rfl ?_
    exact tX_treadWord_103 hX hw hg hR hr r_4 σ_2 h
  · refine K_gWord 41 hX hw (by decide) uw_3_97 dX8_readWord_82 ?_
    refine J_goto (tgt := 103) hX dX8_readWord_85 rfl ?_
    refine J_sub [] rfl ?_
    exact tX_treadWord_103 hX hw hg hR hr 41 σ h

def rX_treadWord_5 (k5 : St → Option (St)) (σ : St) : Option (St) :=
  brc ((σ.1 5 2) ≤ (σ.1 5 1)) (rX_treadWord_67 σ) (chk (ib (σ.1 5 1) 1000) (bnd2 (rX_isLetter (σ.1 6 (σ.1 5 1).toNatClampNeg) σ) fun r_8 σ_6 => brc (r_8 = 0) (rX_treadWord_67 σ_6) (chk (ib (σ_6.1 5 1) 1000) (nm (setJ σ_6 5 6 (((σ_6.2.1 5 6) * (128 : Int64)) + ((σ_6.1 6 (σ_6.1 5 1).toNatClampNeg).toInt64))) fun σ_9 => nm (setI σ_9 5 1 ((σ_9.1 5 1) + (1 : Int32))) fun σ_10 => k5 σ_10))))
set_option maxRecDepth 100000 in
theorem tX_treadWord_5b {X : CX} (hX : gd X cX8_readWord 1 RX8 none) (hw : isX (xw X)) (hg : nA X) (hR : xR X = rmOf 5 110 0 0) {τ : St} (hr : xr X = (none, τ)) {k5 : St → Option (St)} (hk5 : (∀ (σ : St), k5 σ = some τ → Jd X 1 5 [(0, .ref (wad (xw X) 5))] [] σ)) (σ : St) (h : rX_treadWord_5 k5 σ = some τ) : Jd X 1 5 [(0, .ref (wad (xw X) 5))] [] σ := by
  unfold rX_treadWord_5 at h
  refine J_aload_n (q := 0) hX dX8_readWord_5 rfl rfl ?_
  refine K_geti hX (xc_5 hw) cls_X8 (k := 1) (by decide) uw_1_43 rfl dX8_readWord_6 ?_
  refine J_aload_n (q := 0) hX dX8_readWord_9 rfl rfl ?_
  refine K_geti hX (xc_5 hw) cls_X8 (k := 2) (by decide) uw_1_45 rfl dX8_readWord_10 ?_
  refine K_icmp_ge (tgt := 67) hX dX8_readWord_13 rfl h (fun h => ?_) (fun h => ?_)
  · refine J_sub [0] rfl ?_
    exact tX_treadWord_67 hX hw hg hR hr σ h
  · refine J_aload_n (q := 0) hX dX8_readWord_16 rfl rfl ?_
    refine K_getc 6 hX (xc_5 hw) cls_X8 (k := 0) (by decide) uw_1_42 rfl dX8_readWord_17 ?_
    refine J_aload_n (q := 0) hX dX8_readWord_20 rfl rfl ?_
    refine K_geti hX (xc_5 hw) cls_X8 (k := 1) (by decide) uw_1_43 rfl dX8_readWord_21 ?_
    refine K_bald hX (xc_6 hw) dX8_readWord_24 h (fun h => ?_)
    obtain ⟨r_8, σ_6, hc_7, h⟩ := bnd2_some h
    refine K_callS [.int (σ.1 6 (σ.1 5 1).toNatClampNeg)] hX hg hR (ctX_isLetter hw hc_7) lk_X8_37_X8_isLetter md_X8_isLetter ⟨by decide, by decide⟩ rfl rfl (Nat.le_of_ble_eq_true rfl) dX8_readWord_25 ?_
    refine K_if_eq (tgt := 67) hX dX8_readWord_28 rfl h (fun h => ?_) (fun h => ?_)
    · refine J_sub [0] rfl ?_
      exact tX_treadWord_67 hX hw hg hR hr σ_6 h
    · refine J_aload_n (q := 0) hX dX8_readWord_31 rfl rfl ?_
      refine J_aload_n (q := 0) hX dX8_readWord_32 rfl rfl ?_
      refine K_getl hX (xc_5 hw) cls_X8 (k := 6) (by decide) uw_1_55 rfl dX8_readWord_33 ?_
      refine K_ldc2 (v := (128 : Int64)) hX uw_3_96 dX8_readWord_36 ?_
      refine J_lmul hX dX8_readWord_39 ?_
      refine J_aload_n (q := 0) hX dX8_readWord_40 rfl rfl ?_
      refine K_getc 6 hX (xc_5 hw) cls_X8 (k := 0) (by decide) uw_1_42 rfl dX8_readWord_41 ?_
      refine J_aload_n (q := 0) hX dX8_readWord_44 rfl rfl ?_
      refine K_geti hX (xc_5 hw) cls_X8 (k := 1) (by decide) uw_1_43 rfl dX8_readWord_45 ?_
      refine K_bald hX (xc_6 hw) dX8_readWord_48 h (fun h => ?_)
      refine J_i2l hX dX8_readWord_49 ?_
      refine J_ladd hX dX8_readWord_50 ?_
      refine K_putl hX (xc_5 hw) cls_X8 (k := 6) (by decide) uw_1_55 rfl rfl rfl dX8_readWord_51 h (fun σ_9 h => ?_)
      refine J_aload_n (q := 0) hX dX8_readWord_54 rfl rfl ?_
      refine J_dup hX dX8_readWord_55 rfl ?_
      refine K_geti hX (xc_5 hw) cls_X8 (k := 1) (by decide) uw_1_43 rfl dX8_readWord_56 ?_
      refine J_iconst (v := (1 : Int32)) hX dX8_readWord_59 (by decide) ?_
      refine J_iadd hX dX8_readWord_60 ?_
      refine K_puti hX (xc_5 hw) cls_X8 (k := 1) (by decide) uw_1_43 rfl rfl rfl dX8_readWord_61 h (fun σ_10 h => ?_)
      refine J_goto (tgt := 5) hX dX8_readWord_64 rfl ?_
      refine J_sub [0] rfl ?_
      exact hk5 σ_10 h
def rX_treadWord_5L : ((St) → Option (St)) → (St) → Option (St) := fun k a => rX_treadWord_5 (fun σ => k σ) a
theorem tX_treadWord_5 {X : CX} (hX : gd X cX8_readWord 1 RX8 none) (hw : isX (xw X)) (hg : nA X) (hR : xR X = rmOf 5 110 0 0) {τ : St} (hr : xr X = (none, τ)) (n : Nat) (σ : St) (h : lp (rX_treadWord_5L) n σ = some τ) : Jd X 1 5 [(0, .ref (wad (xw X) 5))] [] σ :=
  lp_ind (F := rX_treadWord_5L) (P := fun a => Jd X 1 5 [(0, .ref (wad (xw X) 5))] [] a) (fun k a hk h => tX_treadWord_5b hX hw hg hR hr (fun σ h => hk σ h) a h) n σ h

def rX_treadWord (σ : St) : Option (St) :=
  nm (setJ σ 5 6 (0 : Int64)) fun σ_1 => lp (rX_treadWord_5L) fu σ_1
set_option maxRecDepth 100000 in
theorem tX_treadWord {X : CX} (hX : gd X cX8_readWord 1 RX8 none) (hw : isX (xw X)) (hg : nA X) (hR : xR X = rmOf 5 110 0 0) {τ : St} (hr : xr X = (none, τ)) (σ : St) (h : rX_treadWord σ = some τ) : Jd X 1 0 [(0, .ref (wad (xw X) 5))] [] σ := by
  unfold rX_treadWord at h
  refine J_aload_n (q := 0) hX dX8_readWord_0 rfl rfl ?_
  refine J_lconst (v := 0) hX dX8_readWord_1 (by decide) ?_
  refine K_putl hX (xc_5 hw) cls_X8 (k := 6) (by decide) uw_1_55 rfl rfl rfl dX8_readWord_2 h (fun σ_1 h => ?_)
  refine J_sub [0] rfl ?_
  exact tX_treadWord_5 hX hw hg hR hr fu σ_1 h
theorem ctX_treadWord {w : WT} (hw : isX w) {σ : St} {τ : St} (h : rX_treadWord σ = some τ) : Ct yX8_readWord cX8_readWord 1 none 5 110 w [.ref (wad w 5)] σ none τ 0 0 :=
  Ct_intro (fun _ => (0, 0)) (by decide) rfl ⟨rfl, Nat.le_refl _⟩ (Nat.le_of_ble_eq_true rfl) (fun X hX hR hwX hg hr => by subst hwX; exact tX_treadWord hX hw hg hR hr  σ h)

def rX_treadNumber_91 (s0 : Nat) (σ : St) : Option (St) :=
  nm (setP σ 5 3 s0) fun σ_2 => some σ_2
set_option maxRecDepth 100000 in
theorem tX_treadNumber_91 {X : CX} (hX : gd X cX8_readNumber 1 RX8 none) (hw : isX (xw X)) (hg : nA X) (hR : xR X = rmOf 1 20 0 0) {τ : St} (hr : xr X = (none, τ)) (s0 : Nat) (σ : St) (h : rX_treadNumber_91 s0 σ = some τ) : Jd X 1 91 [] [.ref (wadW (xw X) s0), .ref (wad (xw X) 5)] σ := by
  unfold rX_treadNumber_91 at h
  refine K_putw hX (xc_5 hw) cls_X8 (k := 3) (by decide) uw_1_46 rfl rfl rfl dX8_readNumber_91 h (fun σ_2 h => ?_)
  exact K_vret hX hr dX8_readNumber_94 h

def rX_treadNumber_68 (σ : St) : Option (St) :=
  brc (((σ.1 5 1) - (σ.1 5 4)) ≤ (4 : Int32)) (rX_treadNumber_91 39 σ) (rX_treadNumber_91 41 σ)
set_option maxRecDepth 100000 in
theorem tX_treadNumber_68 {X : CX} (hX : gd X cX8_readNumber 1 RX8 none) (hw : isX (xw X)) (hg : nA X) (hR : xR X = rmOf 1 20 0 0) {τ : St} (hr : xr X = (none, τ)) (σ : St) (h : rX_treadNumber_68 σ = some τ) : Jd X 1 68 [(0, .ref (wad (xw X) 5))] [] σ := by
  unfold rX_treadNumber_68 at h
  refine J_aload_n (q := 0) hX dX8_readNumber_68 rfl rfl ?_
  refine J_aload_n (q := 0) hX dX8_readNumber_69 rfl rfl ?_
  refine K_geti hX (xc_5 hw) cls_X8 (k := 1) (by decide) uw_1_43 rfl dX8_readNumber_70 ?_
  refine J_aload_n (q := 0) hX dX8_readNumber_73 rfl rfl ?_
  refine K_geti hX (xc_5 hw) cls_X8 (k := 4) (by decide) uw_1_49 rfl dX8_readNumber_74 ?_
  refine J_isub hX dX8_readNumber_77 ?_
  refine J_iconst (v := (4 : Int32)) hX dX8_readNumber_78 (by decide) ?_
  refine K_icmp_le (tgt := 88) hX dX8_readNumber_79 rfl h (fun h => ?_) (fun h => ?_)
  · refine K_gWord 39 hX hw (by decide) uw_3_161 dX8_readNumber_88 ?_
    refine J_sub [] rfl ?_
    exact tX_treadNumber_91 hX hw hg hR hr 39 σ h
  · refine K_gWord 41 hX hw (by decide) uw_3_97 dX8_readNumber_82 ?_
    refine J_goto (tgt := 91) hX dX8_readNumber_85 rfl ?_
    refine J_sub [] rfl ?_
    exact tX_treadNumber_91 hX hw hg hR hr 41 σ h

def rX_treadNumber_5 (k5 : St → Option (St)) (σ : St) : Option (St) :=
  brc ((σ.1 5 2) ≤ (σ.1 5 1)) (rX_treadNumber_68 σ) (chk (ib (σ.1 5 1) 1000) (bnd2 (rX_isDigit (σ.1 6 (σ.1 5 1).toNatClampNeg) σ) fun r_5 σ_3 => brc (r_5 = 0) (rX_treadNumber_68 σ_3) (chk (ib (σ_3.1 5 1) 1000) (nm (setI σ_3 5 5 (((σ_3.1 5 5) * (10 : Int32)) + ((σ_3.1 6 (σ_3.1 5 1).toNatClampNeg) - (48 : Int32)))) fun σ_6 => nm (setI σ_6 5 1 ((σ_6.1 5 1) + (1 : Int32))) fun σ_7 => k5 σ_7))))
set_option maxRecDepth 100000 in
theorem tX_treadNumber_5b {X : CX} (hX : gd X cX8_readNumber 1 RX8 none) (hw : isX (xw X)) (hg : nA X) (hR : xR X = rmOf 1 20 0 0) {τ : St} (hr : xr X = (none, τ)) {k5 : St → Option (St)} (hk5 : (∀ (σ : St), k5 σ = some τ → Jd X 1 5 [(0, .ref (wad (xw X) 5))] [] σ)) (σ : St) (h : rX_treadNumber_5 k5 σ = some τ) : Jd X 1 5 [(0, .ref (wad (xw X) 5))] [] σ := by
  unfold rX_treadNumber_5 at h
  refine J_aload_n (q := 0) hX dX8_readNumber_5 rfl rfl ?_
  refine K_geti hX (xc_5 hw) cls_X8 (k := 1) (by decide) uw_1_43 rfl dX8_readNumber_6 ?_
  refine J_aload_n (q := 0) hX dX8_readNumber_9 rfl rfl ?_
  refine K_geti hX (xc_5 hw) cls_X8 (k := 2) (by decide) uw_1_45 rfl dX8_readNumber_10 ?_
  refine K_icmp_ge (tgt := 68) hX dX8_readNumber_13 rfl h (fun h => ?_) (fun h => ?_)
  · refine J_sub [0] rfl ?_
    exact tX_treadNumber_68 hX hw hg hR hr σ h
  · refine J_aload_n (q := 0) hX dX8_readNumber_16 rfl rfl ?_
    refine K_getc 6 hX (xc_5 hw) cls_X8 (k := 0) (by decide) uw_1_42 rfl dX8_readNumber_17 ?_
    refine J_aload_n (q := 0) hX dX8_readNumber_20 rfl rfl ?_
    refine K_geti hX (xc_5 hw) cls_X8 (k := 1) (by decide) uw_1_43 rfl dX8_readNumber_21 ?_
    refine K_bald hX (xc_6 hw) dX8_readNumber_24 h (fun h => ?_)
    obtain ⟨r_5, σ_3, hc_4, h⟩ := bnd2_some h
    refine K_callS [.int (σ.1 6 (σ.1 5 1).toNatClampNeg)] hX hg hR (ctX_isDigit hw hc_4) lk_X8_44_X8_isDigit md_X8_isDigit ⟨by decide, by decide⟩ rfl rfl (Nat.le_of_ble_eq_true rfl) dX8_readNumber_25 ?_
    refine K_if_eq (tgt := 68) hX dX8_readNumber_28 rfl h (fun h => ?_) (fun h => ?_)
    · refine J_sub [0] rfl ?_
      exact tX_treadNumber_68 hX hw hg hR hr σ_3 h
    · refine J_aload_n (q := 0) hX dX8_readNumber_31 rfl rfl ?_
      refine J_aload_n (q := 0) hX dX8_readNumber_32 rfl rfl ?_
      refine K_geti hX (xc_5 hw) cls_X8 (k := 5) (by decide) uw_1_52 rfl dX8_readNumber_33 ?_
      refine J_bipush (v := (10 : Int32)) hX dX8_readNumber_36 (by decide) ?_
      refine J_imul hX dX8_readNumber_38 ?_
      refine J_aload_n (q := 0) hX dX8_readNumber_39 rfl rfl ?_
      refine K_getc 6 hX (xc_5 hw) cls_X8 (k := 0) (by decide) uw_1_42 rfl dX8_readNumber_40 ?_
      refine J_aload_n (q := 0) hX dX8_readNumber_43 rfl rfl ?_
      refine K_geti hX (xc_5 hw) cls_X8 (k := 1) (by decide) uw_1_43 rfl dX8_readNumber_44 ?_
      refine K_bald hX (xc_6 hw) dX8_readNumber_47 h (fun h => ?_)
      refine J_bipush (v := (48 : Int32)) hX dX8_readNumber_48 (by decide) ?_
      refine J_isub hX dX8_readNumber_50 ?_
      refine J_iadd hX dX8_readNumber_51 ?_
      refine K_puti hX (xc_5 hw) cls_X8 (k := 5) (by decide) uw_1_52 rfl rfl rfl dX8_readNumber_52 h (fun σ_6 h => ?_)
      refine J_aload_n (q := 0) hX dX8_readNumber_55 rfl rfl ?_
      refine J_dup hX dX8_readNumber_56 rfl ?_
      refine K_geti hX (xc_5 hw) cls_X8 (k := 1) (by decide) uw_1_43 rfl dX8_readNumber_57 ?_
      refine J_iconst (v := (1 : Int32)) hX dX8_readNumber_60 (by decide) ?_
      refine J_iadd hX dX8_readNumber_61 ?_
      refine K_puti hX (xc_5 hw) cls_X8 (k := 1) (by decide) uw_1_43 rfl rfl rfl dX8_readNumber_62 h (fun σ_7 h => ?_)
      refine J_goto (tgt := 5) hX dX8_readNumber_65 rfl ?_
      refine J_sub [0] rfl ?_
      exact hk5 σ_7 h
def rX_treadNumber_5L : ((St) → Option (St)) → (St) → Option (St) := fun k a => rX_treadNumber_5 (fun σ => k σ) a
theorem tX_treadNumber_5 {X : CX} (hX : gd X cX8_readNumber 1 RX8 none) (hw : isX (xw X)) (hg : nA X) (hR : xR X = rmOf 1 20 0 0) {τ : St} (hr : xr X = (none, τ)) (n : Nat) (σ : St) (h : lp (rX_treadNumber_5L) n σ = some τ) : Jd X 1 5 [(0, .ref (wad (xw X) 5))] [] σ :=
  lp_ind (F := rX_treadNumber_5L) (P := fun a => Jd X 1 5 [(0, .ref (wad (xw X) 5))] [] a) (fun k a hk h => tX_treadNumber_5b hX hw hg hR hr (fun σ h => hk σ h) a h) n σ h

def rX_treadNumber (σ : St) : Option (St) :=
  nm (setI σ 5 5 (0 : Int32)) fun σ_1 => lp (rX_treadNumber_5L) fu σ_1
set_option maxRecDepth 100000 in
theorem tX_treadNumber {X : CX} (hX : gd X cX8_readNumber 1 RX8 none) (hw : isX (xw X)) (hg : nA X) (hR : xR X = rmOf 1 20 0 0) {τ : St} (hr : xr X = (none, τ)) (σ : St) (h : rX_treadNumber σ = some τ) : Jd X 1 0 [(0, .ref (wad (xw X) 5))] [] σ := by
  unfold rX_treadNumber at h
  refine J_aload_n (q := 0) hX dX8_readNumber_0 rfl rfl ?_
  refine J_iconst (v := (0 : Int32)) hX dX8_readNumber_1 (by decide) ?_
  refine K_puti hX (xc_5 hw) cls_X8 (k := 5) (by decide) uw_1_52 rfl rfl rfl dX8_readNumber_2 h (fun σ_1 h => ?_)
  refine J_sub [0] rfl ?_
  exact tX_treadNumber_5 hX hw hg hR hr fu σ_1 h
theorem ctX_treadNumber {w : WT} (hw : isX w) {σ : St} {τ : St} (h : rX_treadNumber σ = some τ) : Ct yX8_readNumber cX8_readNumber 1 none 1 20 w [.ref (wad w 5)] σ none τ 0 0 :=
  Ct_intro (fun _ => (0, 0)) (by decide) rfl ⟨rfl, Nat.le_refl _⟩ (Nat.le_of_ble_eq_true rfl) (fun X hX hR hwX hg hr => by subst hwX; exact tX_treadNumber hX hw hg hR hr  σ h)

def rX_tstep_169 (σ : St) : Option (St) :=
  some σ
set_option maxRecDepth 100000 in
theorem tX_tstep_169 {X : CX} (hX : gd X cX8_step 2 RX8 none) (hw : isX (xw X)) (hg : nA X) (hR : xR X = rmOf 6 130 0 0) {τ : St} (hr : xr X = (none, τ)) (σ : St) (h : rX_tstep_169 σ = some τ) : Jd X 2 169 [] [] σ := by
  unfold rX_tstep_169 at h
  exact K_vret hX hr dX8_step_169 h

def rX_tstep_166 (s0 : Nat) (σ : St) : Option (St) :=
  nm (setP σ 5 3 s0) fun σ_12 => rX_tstep_169 σ_12
set_option maxRecDepth 100000 in
theorem tX_tstep_166 {X : CX} (hX : gd X cX8_step 2 RX8 none) (hw : isX (xw X)) (hg : nA X) (hR : xR X = rmOf 6 130 0 0) {τ : St} (hr : xr X = (none, τ)) (s0 : Nat) (σ : St) (h : rX_tstep_166 s0 σ = some τ) : Jd X 2 166 [] [.ref (wadW (xw X) s0), .ref (wad (xw X) 5)] σ := by
  unfold rX_tstep_166 at h
  refine K_putw hX (xc_5 hw) cls_X8 (k := 3) (by decide) uw_1_46 rfl rfl rfl dX8_step_166 h (fun σ_12 h => ?_)
  refine J_sub [] rfl ?_
  exact tX_tstep_169 hX hw hg hR hr σ_12 h

def rX_tstep_52 (σ : St) : Option (St) :=
  nm (setI σ 5 4 (σ.1 5 1)) fun σ_1 => brc ((σ_1.1 5 1) < (σ_1.1 5 2)) (chk (ib (σ_1.1 5 1) 1000) (bnd2 (rX_isLetter (σ_1.1 6 (σ_1.1 5 1).toNatClampNeg) σ_1) fun r_4 σ_2 => brc (r_4 = 0) (chk (ib (σ_2.1 5 1) 1000) (bnd2 (rX_isDigit (σ_2.1 6 (σ_2.1 5 1).toNatClampNeg) σ_2) fun r_7 σ_5 => brc (r_7 = 0) (nm (setI σ_5 5 1 ((σ_5.1 5 1) + (1 : Int32))) fun σ_8 => bnd2 (rX_wfind (σ_8.1 5 4) (σ_8.1 5 1) σ_8) fun r_11 σ_9 => chk (decide (r_11 < 42 ∧ 38 < 42)) (brc (¬ r_11 = 38) (rX_tstep_166 r_11 σ_9) (rX_tstep_166 41 σ_9))) (bnd1 (rX_treadNumber σ_5) fun σ_13 => rX_tstep_169 σ_13))) (bnd1 (rX_treadWord σ_2) fun σ_15 => rX_tstep_169 σ_15))) (nm (setP σ_1 5 3 40) fun σ_17 => rX_tstep_169 σ_17)
set_option maxRecDepth 100000 in
theorem tX_tstep_52 {X : CX} (hX : gd X cX8_step 2 RX8 none) (hw : isX (xw X)) (hg : nA X) (hR : xR X = rmOf 6 130 0 0) {τ : St} (hr : xr X = (none, τ)) (σ : St) (h : rX_tstep_52 σ = some τ) : Jd X 2 52 [(0, .ref (wad (xw X) 5))] [] σ := by
  unfold rX_tstep_52 at h
  refine J_aload_n (q := 0) hX dX8_step_52 rfl rfl ?_
  refine J_aload_n (q := 0) hX dX8_step_53 rfl rfl ?_
  refine K_geti hX (xc_5 hw) cls_X8 (k := 1) (by decide) uw_1_43 rfl dX8_step_54 ?_
  refine K_puti hX (xc_5 hw) cls_X8 (k := 4) (by decide) uw_1_49 rfl rfl rfl dX8_step_57 h (fun σ_1 h => ?_)
  refine J_aload_n (q := 0) hX dX8_step_60 rfl rfl ?_
  refine K_geti hX (xc_5 hw) cls_X8 (k := 1) (by decide) uw_1_43 rfl dX8_step_61 ?_
  refine J_aload_n (q := 0) hX dX8_step_64 rfl rfl ?_
  refine K_geti hX (xc_5 hw) cls_X8 (k := 2) (by decide) uw_1_45 rfl dX8_step_65 ?_
  refine K_icmp_lt (tgt := 81) hX dX8_step_68 rfl h (fun h => ?_) (fun h => ?_)
  · refine J_aload_n (q := 0) hX dX8_step_81 rfl rfl ?_
    refine K_getc 6 hX (xc_5 hw) cls_X8 (k := 0) (by decide) uw_1_42 rfl dX8_step_82 ?_
    refine J_aload_n (q := 0) hX dX8_step_85 rfl rfl ?_
    refine K_geti hX (xc_5 hw) cls_X8 (k := 1) (by decide) uw_1_43 rfl dX8_step_86 ?_
    refine K_bald hX (xc_6 hw) dX8_step_89 h (fun h => ?_)
    obtain ⟨r_4, σ_2, hc_3, h⟩ := bnd2_some h
    refine K_callS [.int (σ_1.1 6 (σ_1.1 5 1).toNatClampNeg)] hX hg hR (ctX_isLetter hw hc_3) lk_X8_37_X8_isLetter md_X8_isLetter ⟨by decide, by decide⟩ rfl rfl (Nat.le_of_ble_eq_true rfl) dX8_step_90 ?_
    refine K_if_eq (tgt := 103) hX dX8_step_93 rfl h (fun h => ?_) (fun h => ?_)
    · refine J_aload_n (q := 0) hX dX8_step_103 rfl rfl ?_
      refine K_getc 6 hX (xc_5 hw) cls_X8 (k := 0) (by decide) uw_1_42 rfl dX8_step_104 ?_
      refine J_aload_n (q := 0) hX dX8_step_107 rfl rfl ?_
      refine K_geti hX (xc_5 hw) cls_X8 (k := 1) (by decide) uw_1_43 rfl dX8_step_108 ?_
      refine K_bald hX (xc_6 hw) dX8_step_111 h (fun h => ?_)
      obtain ⟨r_7, σ_5, hc_6, h⟩ := bnd2_some h
      refine K_callS [.int (σ_2.1 6 (σ_2.1 5 1).toNatClampNeg)] hX hg hR (ctX_isDigit hw hc_6) lk_X8_44_X8_isDigit md_X8_isDigit ⟨by decide, by decide⟩ rfl rfl (Nat.le_of_ble_eq_true rfl) dX8_step_112 ?_
      refine K_if_eq (tgt := 125) hX dX8_step_115 rfl h (fun h => ?_) (fun h => ?_)
      · refine J_aload_n (q := 0) hX dX8_step_125 rfl rfl ?_
        refine J_dup hX dX8_step_126 rfl ?_
        refine K_geti hX (xc_5 hw) cls_X8 (k := 1) (by decide) uw_1_43 rfl dX8_step_127 ?_
        refine J_iconst (v := (1 : Int32)) hX dX8_step_130 (by decide) ?_
        refine J_iadd hX dX8_step_131 ?_
        refine K_puti hX (xc_5 hw) cls_X8 (k := 1) (by decide) uw_1_43 rfl rfl rfl dX8_step_132 h (fun σ_8 h => ?_)
        refine J_aload_n (q := 0) hX dX8_step_135 rfl rfl ?_
        refine K_getc 6 hX (xc_5 hw) cls_X8 (k := 0) (by decide) uw_1_42 rfl dX8_step_136 ?_
        refine J_aload_n (q := 0) hX dX8_step_139 rfl rfl ?_
        refine K_geti hX (xc_5 hw) cls_X8 (k := 4) (by decide) uw_1_49 rfl dX8_step_140 ?_
        refine J_aload_n (q := 0) hX dX8_step_143 rfl rfl ?_
        refine K_geti hX (xc_5 hw) cls_X8 (k := 1) (by decide) uw_1_43 rfl dX8_step_144 ?_
        obtain ⟨r_11, σ_9, hc_10, h⟩ := bnd2_some h
        refine K_callS [.ref (wad (xw X) 6), .int (σ_8.1 5 4), .int (σ_8.1 5 1)] hX hg hR (ctX_wfind hw hc_10) lk_X8_50_X10_find md_X10_find ⟨by decide, by decide⟩ rfl rfl (Nat.le_of_ble_eq_true rfl) dX8_step_147 ?_
        refine J_astore_n (lv' := [(1, .ref (wadW (xw X) r_11)), (0, .ref (wad (xw X) 5))]) hX dX8_step_150 rfl (by decide) rfl rfl ?_
        refine J_aload_n (q := 1) hX dX8_step_151 rfl rfl ?_
        refine J_aload_n (q := 0) hX dX8_step_152 rfl rfl ?_
        refine K_gWord 38 hX hw (by decide) uw_3_163 dX8_step_153 ?_
        refine K_acmp_ne (tgt := 165) hX hw dX8_step_156 rfl h (fun h => ?_) (fun h => ?_)
        · refine J_aload_n (q := 0) hX dX8_step_165 rfl rfl ?_
          refine J_sub [] rfl ?_
          exact tX_tstep_166 hX hw hg hR hr r_11 σ_9 h
        · refine K_gWord 41 hX hw (by decide) uw_3_97 dX8_step_159 ?_
          refine J_goto (tgt := 166) hX dX8_step_162 rfl ?_
          refine J_sub [] rfl ?_
          exact tX_tstep_166 hX hw hg hR hr 41 σ_9 h
      · refine J_aload_n (q := 0) hX dX8_step_118 rfl rfl ?_
        obtain ⟨σ_13, hc_14, h⟩ := bnd1_some h
        refine K_callV [] hX hg hR (ctX_treadNumber hw hc_14) lk_X8_47_X8_readNumber md_X8_readNumber (xc_5 hw) cls_X8 ⟨by decide, by decide⟩ rfl rfl (Nat.le_of_ble_eq_true rfl) dX8_step_119 ?_
        refine J_goto (tgt := 169) hX dX8_step_122 rfl ?_
        refine J_sub [] rfl ?_
        exact tX_tstep_169 hX hw hg hR hr σ_13 h
    · refine J_aload_n (q := 0) hX dX8_step_96 rfl rfl ?_
      obtain ⟨σ_15, hc_16, h⟩ := bnd1_some h
      refine K_callV [] hX hg hR (ctX_treadWord hw hc_16) lk_X8_41_X8_readWord md_X8_readWord (xc_5 hw) cls_X8 ⟨by decide, by decide⟩ rfl rfl (Nat.le_of_ble_eq_true rfl) dX8_step_97 ?_
      refine J_goto (tgt := 169) hX dX8_step_100 rfl ?_
      refine J_sub [] rfl ?_
      exact tX_tstep_169 hX hw hg hR hr σ_15 h
  · refine J_aload_n (q := 0) hX dX8_step_71 rfl rfl ?_
    refine K_gWord 40 hX hw (by decide) uw_1_40 dX8_step_72 ?_
    refine K_putw hX (xc_5 hw) cls_X8 (k := 3) (by decide) uw_1_46 rfl rfl rfl dX8_step_75 h (fun σ_17 h => ?_)
    refine J_goto (tgt := 169) hX dX8_step_78 rfl ?_
    refine J_sub [] rfl ?_
    exact tX_tstep_169 hX hw hg hR hr σ_17 h

def rX_tstep_39 (k0 : St → Option (St)) (σ : St) : Option (St) :=
  nm (setI σ 5 1 ((σ.1 5 1) + (1 : Int32))) fun σ_18 => k0 σ_18
set_option maxRecDepth 100000 in
theorem tX_tstep_39 {X : CX} (hX : gd X cX8_step 2 RX8 none) (hw : isX (xw X)) (hg : nA X) (hR : xR X = rmOf 6 130 0 0) {τ : St} (hr : xr X = (none, τ)) {k0 : St → Option (St)} (hk0 : (∀ (σ : St), k0 σ = some τ → Jd X 2 0 [(0, .ref (wad (xw X) 5))] [] σ)) (σ : St) (h : rX_tstep_39 k0 σ = some τ) : Jd X 2 39 [(0, .ref (wad (xw X) 5))] [] σ := by
  unfold rX_tstep_39 at h
  refine J_aload_n (q := 0) hX dX8_step_39 rfl rfl ?_
  refine J_dup hX dX8_step_40 rfl ?_
  refine K_geti hX (xc_5 hw) cls_X8 (k := 1) (by decide) uw_1_43 rfl dX8_step_41 ?_
  refine J_iconst (v := (1 : Int32)) hX dX8_step_44 (by decide) ?_
  refine J_iadd hX dX8_step_45 ?_
  refine K_puti hX (xc_5 hw) cls_X8 (k := 1) (by decide) uw_1_43 rfl rfl rfl dX8_step_46 h (fun σ_18 h => ?_)
  refine J_goto (tgt := 0) hX dX8_step_49 rfl ?_
  refine J_sub [0] rfl ?_
  exact hk0 σ_18 h

def rX_tstep_0 (k0 : St → Option (St)) (σ : St) : Option (St) :=
  brc ((σ.1 5 2) ≤ (σ.1 5 1)) (rX_tstep_52 σ) (chk (ib (σ.1 5 1) 1000) (brc ((σ.1 6 (σ.1 5 1).toNatClampNeg) = (32 : Int32)) (rX_tstep_39 k0 σ) (chk (ib (σ.1 5 1) 1000) (brc (¬ (σ.1 6 (σ.1 5 1).toNatClampNeg) = (10 : Int32)) (rX_tstep_52 σ) (rX_tstep_39 k0 σ)))))
set_option maxRecDepth 100000 in
theorem tX_tstep_0b {X : CX} (hX : gd X cX8_step 2 RX8 none) (hw : isX (xw X)) (hg : nA X) (hR : xR X = rmOf 6 130 0 0) {τ : St} (hr : xr X = (none, τ)) {k0 : St → Option (St)} (hk0 : (∀ (σ : St), k0 σ = some τ → Jd X 2 0 [(0, .ref (wad (xw X) 5))] [] σ)) (σ : St) (h : rX_tstep_0 k0 σ = some τ) : Jd X 2 0 [(0, .ref (wad (xw X) 5))] [] σ := by
  unfold rX_tstep_0 at h
  refine J_aload_n (q := 0) hX dX8_step_0 rfl rfl ?_
  refine K_geti hX (xc_5 hw) cls_X8 (k := 1) (by decide) uw_1_43 rfl dX8_step_1 ?_
  refine J_aload_n (q := 0) hX dX8_step_4 rfl rfl ?_
  refine K_geti hX (xc_5 hw) cls_X8 (k := 2) (by decide) uw_1_45 rfl dX8_step_5 ?_
  refine K_icmp_ge (tgt := 52) hX dX8_step_8 rfl h (fun h => ?_) (fun h => ?_)
  · refine J_sub [0] rfl ?_
    exact tX_tstep_52 hX hw hg hR hr σ h
  · refine J_aload_n (q := 0) hX dX8_step_11 rfl rfl ?_
    refine K_getc 6 hX (xc_5 hw) cls_X8 (k := 0) (by decide) uw_1_42 rfl dX8_step_12 ?_
    refine J_aload_n (q := 0) hX dX8_step_15 rfl rfl ?_
    refine K_geti hX (xc_5 hw) cls_X8 (k := 1) (by decide) uw_1_43 rfl dX8_step_16 ?_
    refine K_bald hX (xc_6 hw) dX8_step_19 h (fun h => ?_)
    refine J_bipush (v := (32 : Int32)) hX dX8_step_20 (by decide) ?_
    refine K_icmp_eq (tgt := 39) hX dX8_step_22 rfl h (fun h => ?_) (fun h => ?_)
    · refine J_sub [0] rfl ?_
      exact tX_tstep_39 hX hw hg hR hr hk0 σ h
    · refine J_aload_n (q := 0) hX dX8_step_25 rfl rfl ?_
      refine K_getc 6 hX (xc_5 hw) cls_X8 (k := 0) (by decide) uw_1_42 rfl dX8_step_26 ?_
      refine J_aload_n (q := 0) hX dX8_step_29 rfl rfl ?_
      refine K_geti hX (xc_5 hw) cls_X8 (k := 1) (by decide) uw_1_43 rfl dX8_step_30 ?_
      refine K_bald hX (xc_6 hw) dX8_step_33 h (fun h => ?_)
      refine J_bipush (v := (10 : Int32)) hX dX8_step_34 (by decide) ?_
      refine K_icmp_ne (tgt := 52) hX dX8_step_36 rfl h (fun h => ?_) (fun h => ?_)
      · refine J_sub [0] rfl ?_
        exact tX_tstep_52 hX hw hg hR hr σ h
      · refine J_sub [0] rfl ?_
        exact tX_tstep_39 hX hw hg hR hr hk0 σ h
def rX_tstep_0L : ((St) → Option (St)) → (St) → Option (St) := fun k a => rX_tstep_0 (fun σ => k σ) a
theorem tX_tstep_0 {X : CX} (hX : gd X cX8_step 2 RX8 none) (hw : isX (xw X)) (hg : nA X) (hR : xR X = rmOf 6 130 0 0) {τ : St} (hr : xr X = (none, τ)) (n : Nat) (σ : St) (h : lp (rX_tstep_0L) n σ = some τ) : Jd X 2 0 [(0, .ref (wad (xw X) 5))] [] σ :=
  lp_ind (F := rX_tstep_0L) (P := fun a => Jd X 2 0 [(0, .ref (wad (xw X) 5))] [] a) (fun k a hk h => tX_tstep_0b hX hw hg hR hr (fun σ h => hk σ h) a h) n σ h

def rX_tstep (σ : St) : Option (St) :=
  lp (rX_tstep_0L) fu σ
set_option maxRecDepth 100000 in
theorem tX_tstep {X : CX} (hX : gd X cX8_step 2 RX8 none) (hw : isX (xw X)) (hg : nA X) (hR : xR X = rmOf 6 130 0 0) {τ : St} (hr : xr X = (none, τ)) (σ : St) (h : rX_tstep σ = some τ) : Jd X 2 0 [(0, .ref (wad (xw X) 5))] [] σ := by
  unfold rX_tstep at h
  refine J_sub [0] rfl ?_
  exact tX_tstep_0 hX hw hg hR hr fu σ h
theorem ctX_tstep {w : WT} (hw : isX w) {σ : St} {τ : St} (h : rX_tstep σ = some τ) : Ct yX8_step cX8_step 2 none 6 130 w [.ref (wad w 5)] σ none τ 0 0 :=
  Ct_intro (fun _ => (0, 0)) (by decide) rfl ⟨rfl, Nat.le_refl _⟩ (Nat.le_of_ble_eq_true rfl) (fun X hX hR hwX hg hr => by subst hwX; exact tX_tstep hX hw hg hR hr  σ h)

def rX_ttoStart (σ : St) : Option (St) :=
  nm (setI σ 5 1 (0 : Int32)) fun σ_1 => bnd1 (rX_tstep σ_1) fun σ_2 => some σ_2
set_option maxRecDepth 100000 in
theorem tX_ttoStart {X : CX} (hX : gd X cX8_toStart 1 RX8 none) (hw : isX (xw X)) (hg : nA X) (hR : xR X = rmOf 7 151 0 0) {τ : St} (hr : xr X = (none, τ)) (σ : St) (h : rX_ttoStart σ = some τ) : Jd X 1 0 [(0, .ref (wad (xw X) 5))] [] σ := by
  unfold rX_ttoStart at h
  refine J_aload_n (q := 0) hX dX8_toStart_0 rfl rfl ?_
  refine J_iconst (v := (0 : Int32)) hX dX8_toStart_1 (by decide) ?_
  refine K_puti hX (xc_5 hw) cls_X8 (k := 1) (by decide) uw_1_43 rfl rfl rfl dX8_toStart_2 h (fun σ_1 h => ?_)
  refine J_aload_n (q := 0) hX dX8_toStart_5 rfl rfl ?_
  obtain ⟨σ_2, hc_3, h⟩ := bnd1_some h
  refine K_callV [] hX hg hR (ctX_tstep hw hc_3) lk_X8_31_X8_step md_X8_step (xc_5 hw) cls_X8 ⟨by decide, by decide⟩ rfl rfl (Nat.le_of_ble_eq_true rfl) dX8_toStart_6 ?_
  exact K_vret hX hr dX8_toStart_9 h
theorem ctX_ttoStart {w : WT} (hw : isX w) {σ : St} {τ : St} (h : rX_ttoStart σ = some τ) : Ct yX8_toStart cX8_toStart 1 none 7 151 w [.ref (wad w 5)] σ none τ 0 0 :=
  Ct_intro (fun _ => (0, 0)) (by decide) rfl ⟨rfl, Nat.le_refl _⟩ (Nat.le_of_ble_eq_true rfl) (fun X hX hR hwX hg hr => by subst hwX; exact tX_ttoStart hX hw hg hR hr  σ h)

def rX_lwrite_30 (σ : St) : Option (St) :=
  some σ
set_option maxRecDepth 100000 in
theorem tX_lwrite_30 {X : CX} (hX : gd X cX2_write 2 RX2 none) (hw : isX (xw X)) (hg : nA X) (hR : xR X = rmOf 0 0 0 0) {τ : St} (hr : xr X = (none, τ)) (σ : St) (h : rX_lwrite_30 σ = some τ) : Jd X 2 30 [] [] σ := by
  unfold rX_lwrite_30 at h
  exact K_vret hX hr dX2_write_30 h

def rX_lwrite (v1 : Int32) (σ : St) : Option (St) :=
  brc ((1000 : Int32) ≤ (σ.1 20 3)) (rX_lwrite_30 σ) (chk (ib (σ.1 20 3) 1000) (nm (setI σ 21 (σ.1 20 3).toNatClampNeg v1) fun σ_1 => nm (setI σ_1 20 3 ((σ_1.1 20 3) + (1 : Int32))) fun σ_2 => rX_lwrite_30 σ_2))
set_option maxRecDepth 100000 in
theorem tX_lwrite {X : CX} (hX : gd X cX2_write 2 RX2 none) (hw : isX (xw X)) (hg : nA X) (hR : xR X = rmOf 0 0 0 0) {τ : St} (hr : xr X = (none, τ)) (v1 : Int32) (σ : St) (h : rX_lwrite v1 σ = some τ) : Jd X 2 0 [(0, .ref (wad (xw X) 20)), (1, .int v1)] [] σ := by
  unfold rX_lwrite at h
  refine J_aload_n (q := 0) hX dX2_write_0 rfl rfl ?_
  refine K_geti hX (xc_20 hw) cls_X2 (k := 3) (by decide) uw_1_197 rfl dX2_write_1 ?_
  refine J_sipush (v := (1000 : Int32)) hX dX2_write_4 (by decide) ?_
  refine K_icmp_ge (tgt := 30) hX dX2_write_7 rfl h (fun h => ?_) (fun h => ?_)
  · refine J_sub [] rfl ?_
    exact tX_lwrite_30 hX hw hg hR hr σ h
  · refine J_aload_n (q := 0) hX dX2_write_10 rfl rfl ?_
    refine K_getc 21 hX (xc_20 hw) cls_X2 (k := 1) (by decide) uw_1_195 rfl dX2_write_11 ?_
    refine J_aload_n (q := 0) hX dX2_write_14 rfl rfl ?_
    refine K_geti hX (xc_20 hw) cls_X2 (k := 3) (by decide) uw_1_197 rfl dX2_write_15 ?_
    refine J_iload_n (q := 1) hX dX2_write_18 rfl rfl ?_
    refine K_iast hX (xc_21 hw) dX2_write_19 h (fun σ_1 h => ?_)
    refine J_aload_n (q := 0) hX dX2_write_20 rfl rfl ?_
    refine J_dup hX dX2_write_21 rfl ?_
    refine K_geti hX (xc_20 hw) cls_X2 (k := 3) (by decide) uw_1_197 rfl dX2_write_22 ?_
    refine J_iconst (v := (1 : Int32)) hX dX2_write_25 (by decide) ?_
    refine J_iadd hX dX2_write_26 ?_
    refine K_puti hX (xc_20 hw) cls_X2 (k := 3) (by decide) uw_1_197 rfl rfl rfl dX2_write_27 h (fun σ_2 h => ?_)
    refine J_sub [] rfl ?_
    exact tX_lwrite_30 hX hw hg hR hr σ_2 h
theorem ctX_lwrite {w : WT} (hw : isX w) {v1 : Int32} {σ : St} {τ : St} (h : rX_lwrite v1 σ = some τ) : Ct yX2_write cX2_write 2 none 0 0 w [.ref (wad w 20), .int v1] σ none τ 0 0 :=
  Ct_intro (fun _ => (0, 0)) (by decide) rfl ⟨rfl, Nat.le_refl _⟩ (Nat.le_of_ble_eq_true rfl) (fun X hX hR hwX hg hr => by subst hwX; exact tX_lwrite hX hw hg hR hr v1 σ h)

def rX_lawait_29 (σ : St) : Option (St) :=
  some σ
set_option maxRecDepth 100000 in
theorem tX_lawait_29 {X : CX} (hX : gd X cX2_await 2 RX2 none) (hw : isX (xw X)) (hg : nA X) (hR : xR X = rmOf 0 0 0 0) {τ : St} (hr : xr X = (none, τ)) (σ : St) (h : rX_lawait_29 σ = some τ) : Jd X 2 29 [] [] σ := by
  unfold rX_lawait_29 at h
  exact K_vret hX hr dX2_await_29 h

def rX_lawait (v1 : Int32) (σ : St) : Option (St) :=
  brc ((64 : Int32) ≤ (σ.1 20 4)) (rX_lawait_29 σ) (chk (ib (σ.1 20 4) 64) (nm (setI σ 22 (σ.1 20 4).toNatClampNeg v1) fun σ_1 => nm (setI σ_1 20 4 ((σ_1.1 20 4) + (1 : Int32))) fun σ_2 => rX_lawait_29 σ_2))
set_option maxRecDepth 100000 in
theorem tX_lawait {X : CX} (hX : gd X cX2_await 2 RX2 none) (hw : isX (xw X)) (hg : nA X) (hR : xR X = rmOf 0 0 0 0) {τ : St} (hr : xr X = (none, τ)) (v1 : Int32) (σ : St) (h : rX_lawait v1 σ = some τ) : Jd X 2 0 [(0, .ref (wad (xw X) 20)), (1, .int v1)] [] σ := by
  unfold rX_lawait at h
  refine J_aload_n (q := 0) hX dX2_await_0 rfl rfl ?_
  refine K_geti hX (xc_20 hw) cls_X2 (k := 4) (by decide) uw_1_198 rfl dX2_await_1 ?_
  refine J_bipush (v := (64 : Int32)) hX dX2_await_4 (by decide) ?_
  refine K_icmp_ge (tgt := 29) hX dX2_await_6 rfl h (fun h => ?_) (fun h => ?_)
  · refine J_sub [] rfl ?_
    exact tX_lawait_29 hX hw hg hR hr σ h
  · refine J_aload_n (q := 0) hX dX2_await_9 rfl rfl ?_
    refine K_getc 22 hX (xc_20 hw) cls_X2 (k := 2) (by decide) uw_1_196 rfl dX2_await_10 ?_
    refine J_aload_n (q := 0) hX dX2_await_13 rfl rfl ?_
    refine K_geti hX (xc_20 hw) cls_X2 (k := 4) (by decide) uw_1_198 rfl dX2_await_14 ?_
    refine J_iload_n (q := 1) hX dX2_await_17 rfl rfl ?_
    refine K_iast hX (xc_22 hw) dX2_await_18 h (fun σ_1 h => ?_)
    refine J_aload_n (q := 0) hX dX2_await_19 rfl rfl ?_
    refine J_dup hX dX2_await_20 rfl ?_
    refine K_geti hX (xc_20 hw) cls_X2 (k := 4) (by decide) uw_1_198 rfl dX2_await_21 ?_
    refine J_iconst (v := (1 : Int32)) hX dX2_await_24 (by decide) ?_
    refine J_iadd hX dX2_await_25 ?_
    refine K_puti hX (xc_20 hw) cls_X2 (k := 4) (by decide) uw_1_198 rfl rfl rfl dX2_await_26 h (fun σ_2 h => ?_)
    refine J_sub [] rfl ?_
    exact tX_lawait_29 hX hw hg hR hr σ_2 h
theorem ctX_lawait {w : WT} (hw : isX w) {v1 : Int32} {σ : St} {τ : St} (h : rX_lawait v1 σ = some τ) : Ct yX2_await cX2_await 2 none 0 0 w [.ref (wad w 20), .int v1] σ none τ 0 0 :=
  Ct_intro (fun _ => (0, 0)) (by decide) rfl ⟨rfl, Nat.le_refl _⟩ (Nat.le_of_ble_eq_true rfl) (fun X hX hR hwX hg hr => by subst hwX; exact tX_lawait hX hw hg hR hr v1 σ h)

def rX_lreleaseNots_52 (σ : St) : Option (St) :=
  some σ
set_option maxRecDepth 100000 in
theorem tX_lreleaseNots_52 {X : CX} (hX : gd X cX2_releaseNots 1 RX2 none) (hw : isX (xw X)) (hg : nA X) (hR : xR X = rmOf 1 21 0 0) {τ : St} (hr : xr X = (none, τ)) (σ : St) (h : rX_lreleaseNots_52 σ = some τ) : Jd X 1 52 [] [] σ := by
  unfold rX_lreleaseNots_52 at h
  exact K_vret hX hr dX2_releaseNots_52 h

def rX_lreleaseNots_0 (k0 : St → Option (St)) (σ : St) : Option (St) :=
  brc ((σ.1 20 4) ≤ 0) (rX_lreleaseNots_52 σ) (chk (ib ((σ.1 20 4) - (1 : Int32)) 64) (brc (¬ (σ.1 22 ((σ.1 20 4) - (1 : Int32)).toNatClampNeg) = (-2 : Int32)) (rX_lreleaseNots_52 σ) (nm (setI σ 20 4 ((σ.1 20 4) - (1 : Int32))) fun σ_1 => nm (setI σ_1 20 6 ((σ_1.1 20 6) - (1 : Int32))) fun σ_2 => bnd1 (rX_lwrite (-2 : Int32) σ_2) fun σ_3 => k0 σ_3)))
set_option maxRecDepth 100000 in
theorem tX_lreleaseNots_0b {X : CX} (hX : gd X cX2_releaseNots 1 RX2 none) (hw : isX (xw X)) (hg : nA X) (hR : xR X = rmOf 1 21 0 0) {τ : St} (hr : xr X = (none, τ)) {k0 : St → Option (St)} (hk0 : (∀ (σ : St), k0 σ = some τ → Jd X 1 0 [(0, .ref (wad (xw X) 20))] [] σ)) (σ : St) (h : rX_lreleaseNots_0 k0 σ = some τ) : Jd X 1 0 [(0, .ref (wad (xw X) 20))] [] σ := by
  unfold rX_lreleaseNots_0 at h
  refine J_aload_n (q := 0) hX dX2_releaseNots_0 rfl rfl ?_
  refine K_geti hX (xc_20 hw) cls_X2 (k := 4) (by decide) uw_1_198 rfl dX2_releaseNots_1 ?_
  refine K_if_le (tgt := 52) hX dX2_releaseNots_4 rfl h (fun h => ?_) (fun h => ?_)
  · refine J_sub [] rfl ?_
    exact tX_lreleaseNots_52 hX hw hg hR hr σ h
  · refine J_aload_n (q := 0) hX dX2_releaseNots_7 rfl rfl ?_
    refine K_getc 22 hX (xc_20 hw) cls_X2 (k := 2) (by decide) uw_1_196 rfl dX2_releaseNots_8 ?_
    refine J_aload_n (q := 0) hX dX2_releaseNots_11 rfl rfl ?_
    refine K_geti hX (xc_20 hw) cls_X2 (k := 4) (by decide) uw_1_198 rfl dX2_releaseNots_12 ?_
    refine J_iconst (v := (1 : Int32)) hX dX2_releaseNots_15 (by decide) ?_
    refine J_isub hX dX2_releaseNots_16 ?_
    refine K_iald hX (xc_22 hw) dX2_releaseNots_17 h (fun h => ?_)
    refine J_bipush (v := (-2 : Int32)) hX dX2_releaseNots_18 (by decide) ?_
    refine K_icmp_ne (tgt := 52) hX dX2_releaseNots_20 rfl h (fun h => ?_) (fun h => ?_)
    · refine J_sub [] rfl ?_
      exact tX_lreleaseNots_52 hX hw hg hR hr σ h
    · refine J_aload_n (q := 0) hX dX2_releaseNots_23 rfl rfl ?_
      refine J_dup hX dX2_releaseNots_24 rfl ?_
      refine K_geti hX (xc_20 hw) cls_X2 (k := 4) (by decide) uw_1_198 rfl dX2_releaseNots_25 ?_
      refine J_iconst (v := (1 : Int32)) hX dX2_releaseNots_28 (by decide) ?_
      refine J_isub hX dX2_releaseNots_29 ?_
      refine K_puti hX (xc_20 hw) cls_X2 (k := 4) (by decide) uw_1_198 rfl rfl rfl dX2_releaseNots_30 h (fun σ_1 h => ?_)
      refine J_aload_n (q := 0) hX dX2_releaseNots_33 rfl rfl ?_
      refine J_dup hX dX2_releaseNots_34 rfl ?_
      refine K_geti hX (xc_20 hw) cls_X2 (k := 6) (by decide) uw_1_200 rfl dX2_releaseNots_35 ?_
      refine J_iconst (v := (1 : Int32)) hX dX2_releaseNots_38 (by decide) ?_
      refine J_isub hX dX2_releaseNots_39 ?_
      refine K_puti hX (xc_20 hw) cls_X2 (k := 6) (by decide) uw_1_200 rfl rfl rfl dX2_releaseNots_40 h (fun σ_2 h => ?_)
      refine J_aload_n (q := 0) hX dX2_releaseNots_43 rfl rfl ?_
      refine J_bipush (v := (-2 : Int32)) hX dX2_releaseNots_44 (by decide) ?_
      obtain ⟨σ_3, hc_4, h⟩ := bnd1_some h
      refine K_callV [.int (-2 : Int32)] hX hg hR (ctX_lwrite hw hc_4) lk_X2_102_X2_write md_X2_write (xc_20 hw) cls_X2 ⟨by decide, by decide⟩ rfl rfl (Nat.le_of_ble_eq_true rfl) dX2_releaseNots_46 ?_
      refine J_goto (tgt := 0) hX dX2_releaseNots_49 rfl ?_
      refine J_sub [0] rfl ?_
      exact hk0 σ_3 h
def rX_lreleaseNots_0L : ((St) → Option (St)) → (St) → Option (St) := fun k a => rX_lreleaseNots_0 (fun σ => k σ) a
theorem tX_lreleaseNots_0 {X : CX} (hX : gd X cX2_releaseNots 1 RX2 none) (hw : isX (xw X)) (hg : nA X) (hR : xR X = rmOf 1 21 0 0) {τ : St} (hr : xr X = (none, τ)) (n : Nat) (σ : St) (h : lp (rX_lreleaseNots_0L) n σ = some τ) : Jd X 1 0 [(0, .ref (wad (xw X) 20))] [] σ :=
  lp_ind (F := rX_lreleaseNots_0L) (P := fun a => Jd X 1 0 [(0, .ref (wad (xw X) 20))] [] a) (fun k a hk h => tX_lreleaseNots_0b hX hw hg hR hr (fun σ h => hk σ h) a h) n σ h

def rX_lreleaseNots (σ : St) : Option (St) :=
  lp (rX_lreleaseNots_0L) fu σ
set_option maxRecDepth 100000 in
theorem tX_lreleaseNots {X : CX} (hX : gd X cX2_releaseNots 1 RX2 none) (hw : isX (xw X)) (hg : nA X) (hR : xR X = rmOf 1 21 0 0) {τ : St} (hr : xr X = (none, τ)) (σ : St) (h : rX_lreleaseNots σ = some τ) : Jd X 1 0 [(0, .ref (wad (xw X) 20))] [] σ := by
  unfold rX_lreleaseNots at h
  refine J_sub [0] rfl ?_
  exact tX_lreleaseNots_0 hX hw hg hR hr fu σ h
theorem ctX_lreleaseNots {w : WT} (hw : isX w) {σ : St} {τ : St} (h : rX_lreleaseNots σ = some τ) : Ct yX2_releaseNots cX2_releaseNots 1 none 1 21 w [.ref (wad w 20)] σ none τ 0 0 :=
  Ct_intro (fun _ => (0, 0)) (by decide) rfl ⟨rfl, Nat.le_refl _⟩ (Nat.le_of_ble_eq_true rfl) (fun X hX hR hwX hg hr => by subst hwX; exact tX_lreleaseNots hX hw hg hR hr  σ h)

def rX_lrelease_51 (σ : St) : Option (St) :=
  some σ
set_option maxRecDepth 100000 in
theorem tX_lrelease_51 {X : CX} (hX : gd X cX2_release 2 RX2 none) (hw : isX (xw X)) (hg : nA X) (hR : xR X = rmOf 1 21 0 0) {τ : St} (hr : xr X = (none, τ)) (σ : St) (h : rX_lrelease_51 σ = some τ) : Jd X 2 51 [] [] σ := by
  unfold rX_lrelease_51 at h
  exact K_vret hX hr dX2_release_51 h

def rX_lrelease_0 (k0 : Int32 → St → Option (St)) (v1 : Int32) (σ : St) : Option (St) :=
  brc ((σ.1 20 4) ≤ 0) (rX_lrelease_51 σ) (chk (ib ((σ.1 20 4) - (1 : Int32)) 64) (bnd2 (rX_rank (σ.1 22 ((σ.1 20 4) - (1 : Int32)).toNatClampNeg) σ) fun r_3 σ_1 => brc (r_3 < v1) (rX_lrelease_51 σ_1) (nm (setI σ_1 20 4 ((σ_1.1 20 4) - (1 : Int32))) fun σ_4 => chk (ib (σ_4.1 20 4) 64) (bnd1 (rX_lwrite (σ_4.1 22 (σ_4.1 20 4).toNatClampNeg) σ_4) fun σ_5 => k0 v1 σ_5))))
set_option maxRecDepth 100000 in
theorem tX_lrelease_0b {X : CX} (hX : gd X cX2_release 2 RX2 none) (hw : isX (xw X)) (hg : nA X) (hR : xR X = rmOf 1 21 0 0) {τ : St} (hr : xr X = (none, τ)) {k0 : Int32 → St → Option (St)} (hk0 : (∀ (v1 : Int32) (σ : St), k0 v1 σ = some τ → Jd X 2 0 [(0, .ref (wad (xw X) 20)), (1, .int v1)] [] σ)) (v1 : Int32) (σ : St) (h : rX_lrelease_0 k0 v1 σ = some τ) : Jd X 2 0 [(0, .ref (wad (xw X) 20)), (1, .int v1)] [] σ := by
  unfold rX_lrelease_0 at h
  refine J_aload_n (q := 0) hX dX2_release_0 rfl rfl ?_
  refine K_geti hX (xc_20 hw) cls_X2 (k := 4) (by decide) uw_1_198 rfl dX2_release_1 ?_
  refine K_if_le (tgt := 51) hX dX2_release_4 rfl h (fun h => ?_) (fun h => ?_)
  · refine J_sub [] rfl ?_
    exact tX_lrelease_51 hX hw hg hR hr σ h
  · refine J_aload_n (q := 0) hX dX2_release_7 rfl rfl ?_
    refine K_getc 22 hX (xc_20 hw) cls_X2 (k := 2) (by decide) uw_1_196 rfl dX2_release_8 ?_
    refine J_aload_n (q := 0) hX dX2_release_11 rfl rfl ?_
    refine K_geti hX (xc_20 hw) cls_X2 (k := 4) (by decide) uw_1_198 rfl dX2_release_12 ?_
    refine J_iconst (v := (1 : Int32)) hX dX2_release_15 (by decide) ?_
    refine J_isub hX dX2_release_16 ?_
    refine K_iald hX (xc_22 hw) dX2_release_17 h (fun h => ?_)
    obtain ⟨r_3, σ_1, hc_2, h⟩ := bnd2_some h
    refine K_callS [.int (σ.1 22 ((σ.1 20 4) - (1 : Int32)).toNatClampNeg)] hX hg hR (ctX_rank hw hc_2) lk_X2_108_X2_rank md_X2_rank ⟨by decide, by decide⟩ rfl rfl (Nat.le_of_ble_eq_true rfl) dX2_release_18 ?_
    refine J_iload_n (q := 1) hX dX2_release_21 rfl rfl ?_
    refine K_icmp_lt (tgt := 51) hX dX2_release_22 rfl h (fun h => ?_) (fun h => ?_)
    · refine J_sub [] rfl ?_
      exact tX_lrelease_51 hX hw hg hR hr σ_1 h
    · refine J_aload_n (q := 0) hX dX2_release_25 rfl rfl ?_
      refine J_dup hX dX2_release_26 rfl ?_
      refine K_geti hX (xc_20 hw) cls_X2 (k := 4) (by decide) uw_1_198 rfl dX2_release_27 ?_
      refine J_iconst (v := (1 : Int32)) hX dX2_release_30 (by decide) ?_
      refine J_isub hX dX2_release_31 ?_
      refine K_puti hX (xc_20 hw) cls_X2 (k := 4) (by decide) uw_1_198 rfl rfl rfl dX2_release_32 h (fun σ_4 h => ?_)
      refine J_aload_n (q := 0) hX dX2_release_35 rfl rfl ?_
      refine J_aload_n (q := 0) hX dX2_release_36 rfl rfl ?_
      refine K_getc 22 hX (xc_20 hw) cls_X2 (k := 2) (by decide) uw_1_196 rfl dX2_release_37 ?_
      refine J_aload_n (q := 0) hX dX2_release_40 rfl rfl ?_
      refine K_geti hX (xc_20 hw) cls_X2 (k := 4) (by decide) uw_1_198 rfl dX2_release_41 ?_
      refine K_iald hX (xc_22 hw) dX2_release_44 h (fun h => ?_)
      obtain ⟨σ_5, hc_6, h⟩ := bnd1_some h
      refine K_callV [.int (σ_4.1 22 (σ_4.1 20 4).toNatClampNeg)] hX hg hR (ctX_lwrite hw hc_6) lk_X2_102_X2_write md_X2_write (xc_20 hw) cls_X2 ⟨by decide, by decide⟩ rfl rfl (Nat.le_of_ble_eq_true rfl) dX2_release_45 ?_
      refine J_goto (tgt := 0) hX dX2_release_48 rfl ?_
      refine J_sub [0, 1] rfl ?_
      exact hk0 v1 σ_5 h
def rX_lrelease_0L : ((Int32 × St) → Option (St)) → (Int32 × St) → Option (St) := fun k a => rX_lrelease_0 (fun v1 σ => k (v1, σ)) a.1 a.2
theorem tX_lrelease_0 {X : CX} (hX : gd X cX2_release 2 RX2 none) (hw : isX (xw X)) (hg : nA X) (hR : xR X = rmOf 1 21 0 0) {τ : St} (hr : xr X = (none, τ)) (n : Nat) (v1 : Int32) (σ : St) (h : lp (rX_lrelease_0L) n (v1, σ) = some τ) : Jd X 2 0 [(0, .ref (wad (xw X) 20)), (1, .int v1)] [] σ :=
  lp_ind (F := rX_lrelease_0L) (P := fun a => Jd X 2 0 [(0, .ref (wad (xw X) 20)), (1, .int a.1)] [] a.2) (fun k a hk h => tX_lrelease_0b hX hw hg hR hr (fun v1 σ h => hk (v1, σ) h) a.1 a.2 h) n (v1, σ) h

def rX_lrelease (v1 : Int32) (σ : St) : Option (St) :=
  lp (rX_lrelease_0L) fu (v1, σ)
set_option maxRecDepth 100000 in
theorem tX_lrelease {X : CX} (hX : gd X cX2_release 2 RX2 none) (hw : isX (xw X)) (hg : nA X) (hR : xR X = rmOf 1 21 0 0) {τ : St} (hr : xr X = (none, τ)) (v1 : Int32) (σ : St) (h : rX_lrelease v1 σ = some τ) : Jd X 2 0 [(0, .ref (wad (xw X) 20)), (1, .int v1)] [] σ := by
  unfold rX_lrelease at h
  refine J_sub [0, 1] rfl ?_
  exact tX_lrelease_0 hX hw hg hR hr fu v1 σ h
theorem ctX_lrelease {w : WT} (hw : isX w) {v1 : Int32} {σ : St} {τ : St} (h : rX_lrelease v1 σ = some τ) : Ct yX2_release cX2_release 2 none 1 21 w [.ref (wad w 20), .int v1] σ none τ 0 0 :=
  Ct_intro (fun _ => (0, 0)) (by decide) rfl ⟨rfl, Nat.le_refl _⟩ (Nat.le_of_ble_eq_true rfl) (fun X hX hR hwX hg hr => by subst hwX; exact tX_lrelease hX hw hg hR hr v1 σ h)

def rX_ltakeJoiner_60 (v1 : Int32) (σ : St) : Option (Int32 × St) :=
  bnd1 (rX_lawait v1 σ) fun σ_7 => chk (decide ((1 : Int32) = 0 ∨ (1 : Int32) = 1)) (some ((1 : Int32), σ_7))
set_option maxRecDepth 100000 in
theorem tX_ltakeJoiner_60 {X : CX} (hX : gd X cX2_takeJoiner 3 RX2 (some .boolean)) (hw : isX (xw X)) (hg : nA X) (hR : xR X = rmOf 2 42 0 0) {r : Int32} {τ : St} (hr : xr X = (some (.int r), τ)) (v1 : Int32) (σ : St) (h : rX_ltakeJoiner_60 v1 σ = some (r, τ)) : Jd X 3 60 [(0, .ref (wad (xw X) 20)), (1, .int v1)] [] σ := by
  unfold rX_ltakeJoiner_60 at h
  refine J_aload_n (q := 0) hX dX2_takeJoiner_60 rfl rfl ?_
  refine J_iload_n (q := 1) hX dX2_takeJoiner_61 rfl rfl ?_
  obtain ⟨σ_7, hc_8, h⟩ := bnd1_some h
  refine K_callV [.int v1] hX hg hR (ctX_lawait hw hc_8) lk_X2_98_X2_await md_X2_await (xc_20 hw) cls_X2 ⟨by decide, by decide⟩ rfl rfl (Nat.le_of_ble_eq_true rfl) dX2_takeJoiner_62 ?_
  refine J_iconst (v := (1 : Int32)) hX dX2_takeJoiner_65 (by decide) ?_
  exact K_zret hX hr dX2_takeJoiner_66 h

def rX_ltakeJoiner_25 (v1 : Int32) (v2 : Int32) (s0 : Int32) (σ : St) : Option (Int32 × St) :=
  bnd1 (rX_lrelease s0 σ) fun σ_5 => brc (¬ v2 = (2 : Int32)) (rX_ltakeJoiner_60 v1 σ_5) (brc ((σ_5.1 20 4) ≤ 0) (rX_ltakeJoiner_60 v1 σ_5) (chk (ib ((σ_5.1 20 4) - (1 : Int32)) 64) (bnd2 (rX_rank (σ_5.1 22 ((σ_5.1 20 4) - (1 : Int32)).toNatClampNeg) σ_5) fun r_11 σ_9 => brc (¬ r_11 = v2) (rX_ltakeJoiner_60 v1 σ_9) (chk (decide ((0 : Int32) = 0 ∨ (0 : Int32) = 1)) (some ((0 : Int32), σ_9))))))
set_option maxRecDepth 100000 in
theorem tX_ltakeJoiner_25 {X : CX} (hX : gd X cX2_takeJoiner 3 RX2 (some .boolean)) (hw : isX (xw X)) (hg : nA X) (hR : xR X = rmOf 2 42 0 0) {r : Int32} {τ : St} (hr : xr X = (some (.int r), τ)) (v1 : Int32) (v2 : Int32) (s0 : Int32) (σ : St) (h : rX_ltakeJoiner_25 v1 v2 s0 σ = some (r, τ)) : Jd X 3 25 [(0, .ref (wad (xw X) 20)), (1, .int v1), (2, .int v2)] [.int s0, .ref (wad (xw X) 20)] σ := by
  unfold rX_ltakeJoiner_25 at h
  obtain ⟨σ_5, hc_6, h⟩ := bnd1_some h
  refine K_callV [.int s0] hX hg hR (ctX_lrelease hw hc_6) lk_X2_62_X2_release md_X2_release (xc_20 hw) cls_X2 ⟨by decide, by decide⟩ rfl rfl (Nat.le_of_ble_eq_true rfl) dX2_takeJoiner_25 ?_
  refine J_iload_n (q := 2) hX dX2_takeJoiner_28 rfl rfl ?_
  refine J_iconst (v := (2 : Int32)) hX dX2_takeJoiner_29 (by decide) ?_
  refine K_icmp_ne (tgt := 60) hX dX2_takeJoiner_30 rfl h (fun h => ?_) (fun h => ?_)
  · refine J_sub [0, 1] rfl ?_
    exact tX_ltakeJoiner_60 hX hw hg hR hr v1 σ_5 h
  · refine J_aload_n (q := 0) hX dX2_takeJoiner_33 rfl rfl ?_
    refine K_geti hX (xc_20 hw) cls_X2 (k := 4) (by decide) uw_1_198 rfl dX2_takeJoiner_34 ?_
    refine K_if_le (tgt := 60) hX dX2_takeJoiner_37 rfl h (fun h => ?_) (fun h => ?_)
    · refine J_sub [0, 1] rfl ?_
      exact tX_ltakeJoiner_60 hX hw hg hR hr v1 σ_5 h
    · refine J_aload_n (q := 0) hX dX2_takeJoiner_40 rfl rfl ?_
      refine K_getc 22 hX (xc_20 hw) cls_X2 (k := 2) (by decide) uw_1_196 rfl dX2_takeJoiner_41 ?_
      refine J_aload_n (q := 0) hX dX2_takeJoiner_44 rfl rfl ?_
      refine K_geti hX (xc_20 hw) cls_X2 (k := 4) (by decide) uw_1_198 rfl dX2_takeJoiner_45 ?_
      refine J_iconst (v := (1 : Int32)) hX dX2_takeJoiner_48 (by decide) ?_
      refine J_isub hX dX2_takeJoiner_49 ?_
      refine K_iald hX (xc_22 hw) dX2_takeJoiner_50 h (fun h => ?_)
      obtain ⟨r_11, σ_9, hc_10, h⟩ := bnd2_some h
      refine K_callS [.int (σ_5.1 22 ((σ_5.1 20 4) - (1 : Int32)).toNatClampNeg)] hX hg hR (ctX_rank hw hc_10) lk_X2_108_X2_rank md_X2_rank ⟨by decide, by decide⟩ rfl rfl (Nat.le_of_ble_eq_true rfl) dX2_takeJoiner_51 ?_
      refine J_iload_n (q := 2) hX dX2_takeJoiner_54 rfl rfl ?_
      refine K_icmp_ne (tgt := 60) hX dX2_takeJoiner_55 rfl h (fun h => ?_) (fun h => ?_)
      · refine J_sub [0, 1] rfl ?_
        exact tX_ltakeJoiner_60 hX hw hg hR hr v1 σ_9 h
      · refine J_iconst (v := (0 : Int32)) hX dX2_takeJoiner_58 (by decide) ?_
        exact K_zret hX hr dX2_takeJoiner_59 h

def rX_ltakeJoiner (v1 : Int32) (σ : St) : Option (Int32 × St) :=
  brc (¬ v1 = (-1 : Int32)) (bnd2 (rX_rank v1 σ) fun r_3 σ_1 => nm r_3 fun v2_4 => brc (¬ v2_4 = (2 : Int32)) (rX_ltakeJoiner_25 v1 v2_4 v2_4 σ_1) (rX_ltakeJoiner_25 v1 v2_4 (v2_4 + (1 : Int32)) σ_1)) (chk (decide ((0 : Int32) = 0 ∨ (0 : Int32) = 1)) (some ((0 : Int32), σ)))
set_option maxRecDepth 100000 in
theorem tX_ltakeJoiner {X : CX} (hX : gd X cX2_takeJoiner 3 RX2 (some .boolean)) (hw : isX (xw X)) (hg : nA X) (hR : xR X = rmOf 2 42 0 0) {r : Int32} {τ : St} (hr : xr X = (some (.int r), τ)) (v1 : Int32) (σ : St) (h : rX_ltakeJoiner v1 σ = some (r, τ)) : Jd X 3 0 [(0, .ref (wad (xw X) 20)), (1, .int v1)] [] σ := by
  unfold rX_ltakeJoiner at h
  refine J_iload_n (q := 1) hX dX2_takeJoiner_0 rfl rfl ?_
  refine J_iconst (v := (-1 : Int32)) hX dX2_takeJoiner_1 (by decide) ?_
  refine K_icmp_ne (tgt := 7) hX dX2_takeJoiner_2 rfl h (fun h => ?_) (fun h => ?_)
  · refine J_iload_n (q := 1) hX dX2_takeJoiner_7 rfl rfl ?_
    obtain ⟨r_3, σ_1, hc_2, h⟩ := bnd2_some h
    refine K_callS [.int v1] hX hg hR (ctX_rank hw hc_2) lk_X2_108_X2_rank md_X2_rank ⟨by decide, by decide⟩ rfl rfl (Nat.le_of_ble_eq_true rfl) dX2_takeJoiner_8 ?_
    refine K_istore_n (fun v2_4 => [(2, .int v2_4), (0, .ref (wad (xw X) 20)), (1, .int v1)]) hX dX2_takeJoiner_11 rfl (by decide) (fun _ => rfl) h (fun v2_4 h => ?_)
    refine J_aload_n (q := 1) hX dX2_takeJoiner_12 rfl rfl ?_
    refine J_iload_n (q := 0) hX dX2_takeJoiner_13 rfl rfl ?_
    refine J_iconst (v := (2 : Int32)) hX dX2_takeJoiner_14 (by decide) ?_
    refine K_icmp_ne (tgt := 24) hX dX2_takeJoiner_15 rfl h (fun h => ?_) (fun h => ?_)
    · refine J_iload_n (q := 0) hX dX2_takeJoiner_24 rfl rfl ?_
      refine J_sub [1, 2, 0] rfl ?_
      exact tX_ltakeJoiner_25 hX hw hg hR hr v1 v2_4 v2_4 σ_1 h
    · refine J_iload_n (q := 0) hX dX2_takeJoiner_18 rfl rfl ?_
      refine J_iconst (v := (1 : Int32)) hX dX2_takeJoiner_19 (by decide) ?_
      refine J_iadd hX dX2_takeJoiner_20 ?_
      refine J_goto (tgt := 25) hX dX2_takeJoiner_21 rfl ?_
      refine J_sub [1, 2, 0] rfl ?_
      exact tX_ltakeJoiner_25 hX hw hg hR hr v1 v2_4 (v2_4 + (1 : Int32)) σ_1 h
  · refine J_iconst (v := (0 : Int32)) hX dX2_takeJoiner_5 (by decide) ?_
    exact K_zret hX hr dX2_takeJoiner_6 h
theorem ctX_ltakeJoiner {w : WT} (hw : isX w) {v1 : Int32} {σ : St} {r : Int32} {τ : St} (h : rX_ltakeJoiner v1 σ = some (r, τ)) : Ct yX2_takeJoiner cX2_takeJoiner 3 (some .boolean) 2 42 w [.ref (wad w 20), .int v1] σ (some (.int r)) τ 0 0 :=
  Ct_intro (fun _ => (0, 0)) (by decide) rfl ⟨rfl, Nat.le_refl _⟩ (Nat.le_of_ble_eq_true rfl) (fun X hX hR hwX hg hr => by subst hwX; exact tX_ltakeJoiner hX hw hg hR hr v1 σ h)

def rX_ltakeClose_22 (s0 : Int32) (s1 : Int32) (σ : St) : Option (St) :=
  nm (setI σ 20 4 (s1 - s0)) fun σ_3 => nm (setI σ_3 20 5 ((σ_3.1 20 5) - (1 : Int32))) fun σ_4 => nm (setI σ_4 20 6 ((σ_4.1 20 6) - (1 : Int32))) fun σ_5 => bnd1 (rX_lreleaseNots σ_5) fun σ_6 => some σ_6
set_option maxRecDepth 100000 in
theorem tX_ltakeClose_22 {X : CX} (hX : gd X cX2_takeClose 1 RX2 none) (hw : isX (xw X)) (hg : nA X) (hR : xR X = rmOf 2 42 0 0) {τ : St} (hr : xr X = (none, τ)) (s0 : Int32) (s1 : Int32) (σ : St) (h : rX_ltakeClose_22 s0 s1 σ = some τ) : Jd X 1 22 [(0, .ref (wad (xw X) 20))] [.int s0, .int s1, .ref (wad (xw X) 20)] σ := by
  unfold rX_ltakeClose_22 at h
  refine J_isub hX dX2_takeClose_22 ?_
  refine K_puti hX (xc_20 hw) cls_X2 (k := 4) (by decide) uw_1_198 rfl rfl rfl dX2_takeClose_23 h (fun σ_3 h => ?_)
  refine J_aload_n (q := 0) hX dX2_takeClose_26 rfl rfl ?_
  refine J_dup hX dX2_takeClose_27 rfl ?_
  refine K_geti hX (xc_20 hw) cls_X2 (k := 5) (by decide) uw_1_199 rfl dX2_takeClose_28 ?_
  refine J_iconst (v := (1 : Int32)) hX dX2_takeClose_31 (by decide) ?_
  refine J_isub hX dX2_takeClose_32 ?_
  refine K_puti hX (xc_20 hw) cls_X2 (k := 5) (by decide) uw_1_199 rfl rfl rfl dX2_takeClose_33 h (fun σ_4 h => ?_)
  refine J_aload_n (q := 0) hX dX2_takeClose_36 rfl rfl ?_
  refine J_dup hX dX2_takeClose_37 rfl ?_
  refine K_geti hX (xc_20 hw) cls_X2 (k := 6) (by decide) uw_1_200 rfl dX2_takeClose_38 ?_
  refine J_iconst (v := (1 : Int32)) hX dX2_takeClose_41 (by decide) ?_
  refine J_isub hX dX2_takeClose_42 ?_
  refine K_puti hX (xc_20 hw) cls_X2 (k := 6) (by decide) uw_1_200 rfl rfl rfl dX2_takeClose_43 h (fun σ_5 h => ?_)
  refine J_aload_n (q := 0) hX dX2_takeClose_46 rfl rfl ?_
  obtain ⟨σ_6, hc_7, h⟩ := bnd1_some h
  refine K_callV [] hX hg hR (ctX_lreleaseNots hw hc_7) lk_X2_105_X2_releaseNots md_X2_releaseNots (xc_20 hw) cls_X2 ⟨by decide, by decide⟩ rfl rfl (Nat.le_of_ble_eq_true rfl) dX2_takeClose_47 ?_
  exact K_vret hX hr dX2_takeClose_50 h

def rX_ltakeClose (σ : St) : Option (St) :=
  bnd1 (rX_lrelease (1 : Int32) σ) fun σ_1 => brc ((σ_1.1 20 4) ≤ 0) (rX_ltakeClose_22 (0 : Int32) (σ_1.1 20 4) σ_1) (rX_ltakeClose_22 (1 : Int32) (σ_1.1 20 4) σ_1)
set_option maxRecDepth 100000 in
theorem tX_ltakeClose {X : CX} (hX : gd X cX2_takeClose 1 RX2 none) (hw : isX (xw X)) (hg : nA X) (hR : xR X = rmOf 2 42 0 0) {τ : St} (hr : xr X = (none, τ)) (σ : St) (h : rX_ltakeClose σ = some τ) : Jd X 1 0 [(0, .ref (wad (xw X) 20))] [] σ := by
  unfold rX_ltakeClose at h
  refine J_aload_n (q := 0) hX dX2_takeClose_0 rfl rfl ?_
  refine J_iconst (v := (1 : Int32)) hX dX2_takeClose_1 (by decide) ?_
  obtain ⟨σ_1, hc_2, h⟩ := bnd1_some h
  refine K_callV [.int (1 : Int32)] hX hg hR (ctX_lrelease hw hc_2) lk_X2_62_X2_release md_X2_release (xc_20 hw) cls_X2 ⟨by decide, by decide⟩ rfl rfl (Nat.le_of_ble_eq_true rfl) dX2_takeClose_2 ?_
  refine J_aload_n (q := 0) hX dX2_takeClose_5 rfl rfl ?_
  refine J_dup hX dX2_takeClose_6 rfl ?_
  refine K_geti hX (xc_20 hw) cls_X2 (k := 4) (by decide) uw_1_198 rfl dX2_takeClose_7 ?_
  refine J_aload_n (q := 0) hX dX2_takeClose_10 rfl rfl ?_
  refine K_geti hX (xc_20 hw) cls_X2 (k := 4) (by decide) uw_1_198 rfl dX2_takeClose_11 ?_
  refine K_if_le (tgt := 21) hX dX2_takeClose_14 rfl h (fun h => ?_) (fun h => ?_)
  · refine J_iconst (v := (0 : Int32)) hX dX2_takeClose_21 (by decide) ?_
    refine J_sub [0] rfl ?_
    exact tX_ltakeClose_22 hX hw hg hR hr (0 : Int32) (σ_1.1 20 4) σ_1 h
  · refine J_iconst (v := (1 : Int32)) hX dX2_takeClose_17 (by decide) ?_
    refine J_goto (tgt := 22) hX dX2_takeClose_18 rfl ?_
    refine J_sub [0] rfl ?_
    exact tX_ltakeClose_22 hX hw hg hR hr (1 : Int32) (σ_1.1 20 4) σ_1 h
theorem ctX_ltakeClose {w : WT} (hw : isX w) {σ : St} {τ : St} (h : rX_ltakeClose σ = some τ) : Ct yX2_takeClose cX2_takeClose 1 none 2 42 w [.ref (wad w 20)] σ none τ 0 0 :=
  Ct_intro (fun _ => (0, 0)) (by decide) rfl ⟨rfl, Nat.le_refl _⟩ (Nat.le_of_ble_eq_true rfl) (fun X hX hR hwX hg hr => by subst hwX; exact tX_ltakeClose hX hw hg hR hr  σ h)

def rX_ltakePart_49 (s0 : Int32) (s1 : Int32) (σ : St) : Option (Int32 × St) :=
  nm (setI σ 20 5 (s1 + s0)) fun σ_4 => chk (decide ((1 : Int32) = 0 ∨ (1 : Int32) = 1)) (some ((1 : Int32), σ_4))
set_option maxRecDepth 100000 in
theorem tX_ltakePart_49 {X : CX} (hX : gd X cX2_takePart 2 RX2 (some .boolean)) (hw : isX (xw X)) (hg : nA X) (hR : xR X = rmOf 2 41 0 0) {r : Int32} {τ : St} (hr : xr X = (some (.int r), τ)) (s0 : Int32) (s1 : Int32) (σ : St) (h : rX_ltakePart_49 s0 s1 σ = some (r, τ)) : Jd X 2 49 [] [.int s0, .int s1, .ref (wad (xw X) 20)] σ := by
  unfold rX_ltakePart_49 at h
  refine J_iadd hX dX2_takePart_49 ?_
  refine K_puti hX (xc_20 hw) cls_X2 (k := 5) (by decide) uw_1_199 rfl rfl rfl dX2_takePart_50 h (fun σ_4 h => ?_)
  refine J_iconst (v := (1 : Int32)) hX dX2_takePart_53 (by decide) ?_
  exact K_zret hX hr dX2_takePart_54 h

def rX_ltakePart_14 (v1 : Nat) (σ : St) : Option (Int32 × St) :=
  chk (decide (v1 < 42)) (bnd1 (rX_lawait (wdM.getD v1 0) σ) fun σ_1 => nm (setI σ_1 20 6 ((σ_1.1 20 6) + (1 : Int32))) fun σ_3 => chk (decide (v1 < 42 ∧ 30 < 42)) (brc (¬ v1 = 30) (rX_ltakePart_49 (0 : Int32) (σ_3.1 20 5) σ_3) (rX_ltakePart_49 (1 : Int32) (σ_3.1 20 5) σ_3)))
set_option maxRecDepth 100000 in
theorem tX_ltakePart_14 {X : CX} (hX : gd X cX2_takePart 2 RX2 (some .boolean)) (hw : isX (xw X)) (hg : nA X) (hR : xR X = rmOf 2 41 0 0) {r : Int32} {τ : St} (hr : xr X = (some (.int r), τ)) (v1 : Nat) (σ : St) (h : rX_ltakePart_14 v1 σ = some (r, τ)) : Jd X 2 14 [(0, .ref (wad (xw X) 20)), (1, .ref (wadW (xw X) v1))] [] σ := by
  unfold rX_ltakePart_14 at h
  refine J_aload_n (q := 0) hX dX2_takePart_14 rfl rfl ?_
  refine J_aload_n (q := 1) hX dX2_takePart_15 rfl rfl ?_
  refine K_wnum hX hw uw_8_89 dX2_takePart_16 h (fun h => ?_)
  obtain ⟨σ_1, hc_2, h⟩ := bnd1_some h
  refine K_callV [.int (wdM.getD v1 0)] hX hg hR (ctX_lawait hw hc_2) lk_X2_98_X2_await md_X2_await (xc_20 hw) cls_X2 ⟨by decide, by decide⟩ rfl rfl (Nat.le_of_ble_eq_true rfl) dX2_takePart_19 ?_
  refine J_aload_n (q := 0) hX dX2_takePart_22 rfl rfl ?_
  refine J_dup hX dX2_takePart_23 rfl ?_
  refine K_geti hX (xc_20 hw) cls_X2 (k := 6) (by decide) uw_1_200 rfl dX2_takePart_24 ?_
  refine J_iconst (v := (1 : Int32)) hX dX2_takePart_27 (by decide) ?_
  refine J_iadd hX dX2_takePart_28 ?_
  refine K_puti hX (xc_20 hw) cls_X2 (k := 6) (by decide) uw_1_200 rfl rfl rfl dX2_takePart_29 h (fun σ_3 h => ?_)
  refine J_aload_n (q := 0) hX dX2_takePart_32 rfl rfl ?_
  refine J_dup hX dX2_takePart_33 rfl ?_
  refine K_geti hX (xc_20 hw) cls_X2 (k := 5) (by decide) uw_1_199 rfl dX2_takePart_34 ?_
  refine J_aload_n (q := 1) hX dX2_takePart_37 rfl rfl ?_
  refine K_gWord 30 hX hw (by decide) uw_4_27 dX2_takePart_38 ?_
  refine K_acmp_ne (tgt := 48) hX hw dX2_takePart_41 rfl h (fun h => ?_) (fun h => ?_)
  · refine J_iconst (v := (0 : Int32)) hX dX2_takePart_48 (by decide) ?_
    refine J_sub [] rfl ?_
    exact tX_ltakePart_49 hX hw hg hR hr (0 : Int32) (σ_3.1 20 5) σ_3 h
  · refine J_iconst (v := (1 : Int32)) hX dX2_takePart_44 (by decide) ?_
    refine J_goto (tgt := 49) hX dX2_takePart_45 rfl ?_
    refine J_sub [] rfl ?_
    exact tX_ltakePart_49 hX hw hg hR hr (1 : Int32) (σ_3.1 20 5) σ_3 h

def rX_ltakePart_81 (s0 : Int32) (σ : St) : Option (Int32 × St) :=
  bnd1 (rX_lwrite s0 σ) fun σ_9 => bnd1 (rX_lreleaseNots σ_9) fun σ_11 => chk (decide ((0 : Int32) = 0 ∨ (0 : Int32) = 1)) (some ((0 : Int32), σ_11))
set_option maxRecDepth 100000 in
theorem tX_ltakePart_81 {X : CX} (hX : gd X cX2_takePart 2 RX2 (some .boolean)) (hw : isX (xw X)) (hg : nA X) (hR : xR X = rmOf 2 41 0 0) {r : Int32} {τ : St} (hr : xr X = (some (.int r), τ)) (s0 : Int32) (σ : St) (h : rX_ltakePart_81 s0 σ = some (r, τ)) : Jd X 2 81 [(0, .ref (wad (xw X) 20))] [.int s0, .ref (wad (xw X) 20)] σ := by
  unfold rX_ltakePart_81 at h
  obtain ⟨σ_9, hc_10, h⟩ := bnd1_some h
  refine K_callV [.int s0] hX hg hR (ctX_lwrite hw hc_10) lk_X2_102_X2_write md_X2_write (xc_20 hw) cls_X2 ⟨by decide, by decide⟩ rfl rfl (Nat.le_of_ble_eq_true rfl) dX2_takePart_81 ?_
  refine J_aload_n (q := 0) hX dX2_takePart_84 rfl rfl ?_
  obtain ⟨σ_11, hc_12, h⟩ := bnd1_some h
  refine K_callV [] hX hg hR (ctX_lreleaseNots hw hc_12) lk_X2_105_X2_releaseNots md_X2_releaseNots (xc_20 hw) cls_X2 ⟨by decide, by decide⟩ rfl rfl (Nat.le_of_ble_eq_true rfl) dX2_takePart_85 ?_
  refine J_iconst (v := (0 : Int32)) hX dX2_takePart_88 (by decide) ?_
  exact K_zret hX hr dX2_takePart_89 h

def rX_ltakePart (v1 : Nat) (σ : St) : Option (Int32 × St) :=
  chk (decide (v1 < 42 ∧ 22 < 42)) (brc (v1 = 22) (rX_ltakePart_14 v1 σ) (chk (decide (v1 < 42 ∧ 30 < 42)) (brc (¬ v1 = 30) (chk (decide (v1 < 42 ∧ 39 < 42)) (brc (¬ v1 = 39) (chk (decide (v1 < 42)) (bnd2 (rX_wfact v1 σ) fun r_8 σ_5 => rX_ltakePart_81 ((10000 : Int32) + r_8) σ_5)) (rX_ltakePart_81 (σ.1 5 5) σ))) (rX_ltakePart_14 v1 σ))))
set_option maxRecDepth 100000 in
theorem tX_ltakePart {X : CX} (hX : gd X cX2_takePart 2 RX2 (some .boolean)) (hw : isX (xw X)) (hg : nA X) (hR : xR X = rmOf 2 41 0 0) {r : Int32} {τ : St} (hr : xr X = (some (.int r), τ)) (v1 : Nat) (σ : St) (h : rX_ltakePart v1 σ = some (r, τ)) : Jd X 2 0 [(0, .ref (wad (xw X) 20)), (1, .ref (wadW (xw X) v1))] [] σ := by
  unfold rX_ltakePart at h
  refine J_aload_n (q := 1) hX dX2_takePart_0 rfl rfl ?_
  refine K_gWord 22 hX hw (by decide) uw_4_25 dX2_takePart_1 ?_
  refine K_acmp_eq (tgt := 14) hX hw dX2_takePart_4 rfl h (fun h => ?_) (fun h => ?_)
  · refine J_sub [0, 1] rfl ?_
    exact tX_ltakePart_14 hX hw hg hR hr v1 σ h
  · refine J_aload_n (q := 1) hX dX2_takePart_7 rfl rfl ?_
    refine K_gWord 30 hX hw (by decide) uw_4_27 dX2_takePart_8 ?_
    refine K_acmp_ne (tgt := 55) hX hw dX2_takePart_11 rfl h (fun h => ?_) (fun h => ?_)
    · refine J_aload_n (q := 0) hX dX2_takePart_55 rfl rfl ?_
      refine J_aload_n (q := 1) hX dX2_takePart_56 rfl rfl ?_
      refine K_gWord 39 hX hw (by decide) uw_4_24 dX2_takePart_57 ?_
      refine K_acmp_ne (tgt := 73) hX hw dX2_takePart_60 rfl h (fun h => ?_) (fun h => ?_)
      · refine J_sipush (v := (10000 : Int32)) hX dX2_takePart_73 (by decide) ?_
        refine J_aload_n (q := 1) hX dX2_takePart_76 rfl rfl ?_
        have hb_7 := of_decide_eq_true (chk_some h).1
        replace h := (chk_some h).2
        obtain ⟨r_8, σ_5, hc_6, h⟩ := bnd2_some h
        refine K_callW [] hX hg hR (X_oW hX hw hb_7) (ctX_wfact hw hc_6) lk_X2_92_X10_fact md_X10_fact ⟨by decide, by decide⟩ rfl rfl (Nat.le_of_ble_eq_true rfl) dX2_takePart_77 ?_
        refine J_iadd hX dX2_takePart_80 ?_
        refine J_sub [0] rfl ?_
        exact tX_ltakePart_81 hX hw hg hR hr ((10000 : Int32) + r_8) σ_5 h
      · refine J_aload_n (q := 0) hX dX2_takePart_63 rfl rfl ?_
        refine K_getc 5 hX (xc_20 hw) cls_X2 (k := 0) (by decide) uw_1_194 rfl dX2_takePart_64 ?_
        refine K_geti hX (xc_5 hw) cls_X8 (k := 5) (by decide) uw_1_51 rfl dX2_takePart_67 ?_
        refine J_goto (tgt := 81) hX dX2_takePart_70 rfl ?_
        refine J_sub [0] rfl ?_
        exact tX_ltakePart_81 hX hw hg hR hr (σ.1 5 5) σ h
    · refine J_sub [0, 1] rfl ?_
      exact tX_ltakePart_14 hX hw hg hR hr v1 σ h
theorem ctX_ltakePart {w : WT} (hw : isX w) {v1 : Nat} {σ : St} {r : Int32} {τ : St} (h : rX_ltakePart v1 σ = some (r, τ)) : Ct yX2_takePart cX2_takePart 2 (some .boolean) 2 41 w [.ref (wad w 20), .ref (wadW w v1)] σ (some (.int r)) τ 0 0 :=
  Ct_intro (fun _ => (0, 0)) (by decide) rfl ⟨rfl, Nat.le_refl _⟩ (Nat.le_of_ble_eq_true rfl) (fun X hX hR hwX hg hr => by subst hwX; exact tX_ltakePart hX hw hg hR hr v1 σ h)

def rX_beginsPart_21 (σ : St) : Option (Int32 × St) :=
  chk (decide ((1 : Int32) = 0 ∨ (1 : Int32) = 1)) (some ((1 : Int32), σ))
set_option maxRecDepth 100000 in
theorem tX_beginsPart_21 {X : CX} (hX : gd X cX2_beginsPart 3 RX2 (some .boolean)) (hw : isX (xw X)) (hg : nA X) (hR : xR X = rmOf 1 20 0 0) {r : Int32} {τ : St} (hr : xr X = (some (.int r), τ)) (σ : St) (h : rX_beginsPart_21 σ = some (r, τ)) : Jd X 3 21 [] [] σ := by
  unfold rX_beginsPart_21 at h
  refine J_iconst (v := (1 : Int32)) hX dX2_beginsPart_21 (by decide) ?_
  exact K_zret hX hr dX2_beginsPart_22 h

def rX_beginsPart_65 (s0 : Int32) (σ : St) : Option (Int32 × St) :=
  chk (decide (s0 = 0 ∨ s0 = 1)) (some (s0, σ))
set_option maxRecDepth 100000 in
theorem tX_beginsPart_65 {X : CX} (hX : gd X cX2_beginsPart 3 RX2 (some .boolean)) (hw : isX (xw X)) (hg : nA X) (hR : xR X = rmOf 1 20 0 0) {r : Int32} {τ : St} (hr : xr X = (some (.int r), τ)) (s0 : Int32) (σ : St) (h : rX_beginsPart_65 s0 σ = some (r, τ)) : Jd X 3 65 [] [.int s0] σ := by
  unfold rX_beginsPart_65 at h
  exact K_zret hX hr dX2_beginsPart_65 h

def rX_beginsPart_64 (σ : St) : Option (Int32 × St) :=
  rX_beginsPart_65 (0 : Int32) σ
set_option maxRecDepth 100000 in
theorem tX_beginsPart_64 {X : CX} (hX : gd X cX2_beginsPart 3 RX2 (some .boolean)) (hw : isX (xw X)) (hg : nA X) (hR : xR X = rmOf 1 20 0 0) {r : Int32} {τ : St} (hr : xr X = (some (.int r), τ)) (σ : St) (h : rX_beginsPart_64 σ = some (r, τ)) : Jd X 3 64 [] [] σ := by
  unfold rX_beginsPart_64 at h
  refine J_iconst (v := (0 : Int32)) hX dX2_beginsPart_64 (by decide) ?_
  refine J_sub [] rfl ?_
  exact tX_beginsPart_65 hX hw hg hR hr (0 : Int32) σ h

def rX_beginsPart_45 (σ : St) : Option (Int32 × St) :=
  rX_beginsPart_65 (0 : Int32) σ
set_option maxRecDepth 100000 in
theorem tX_beginsPart_45 {X : CX} (hX : gd X cX2_beginsPart 3 RX2 (some .boolean)) (hw : isX (xw X)) (hg : nA X) (hR : xR X = rmOf 1 20 0 0) {r : Int32} {τ : St} (hr : xr X = (some (.int r), τ)) (σ : St) (h : rX_beginsPart_45 σ = some (r, τ)) : Jd X 3 45 [] [] σ := by
  unfold rX_beginsPart_45 at h
  refine J_iconst (v := (0 : Int32)) hX dX2_beginsPart_45 (by decide) ?_
  refine J_goto (tgt := 65) hX dX2_beginsPart_46 rfl ?_
  refine J_sub [] rfl ?_
  exact tX_beginsPart_65 hX hw hg hR hr (0 : Int32) σ h

def rX_beginsPart (v0 : Nat) (v1 : Int32) (σ : St) : Option (Int32 × St) :=
  chk (decide (v0 < 42 ∧ 39 < 42)) (brc (v0 = 39) (rX_beginsPart_21 σ) (chk (decide (v0 < 42 ∧ 22 < 42)) (brc (v0 = 22) (rX_beginsPart_21 σ) (chk (decide (v0 < 42 ∧ 30 < 42)) (brc (¬ v0 = 30) (chk (decide (v0 < 42)) (bnd2 (rX_wfact v0 σ) fun r_4 σ_1 => nm r_4 fun v2_5 => brc (v1 = 0) (brc (v2_5 < (5 : Int32)) (rX_beginsPart_64 σ_1) (brc ((6 : Int32) < v2_5) (rX_beginsPart_64 σ_1) (rX_beginsPart_65 (1 : Int32) σ_1))) (brc (v2_5 < 0) (rX_beginsPart_45 σ_1) (brc ((4 : Int32) < v2_5) (rX_beginsPart_45 σ_1) (rX_beginsPart_65 (1 : Int32) σ_1))))) (rX_beginsPart_21 σ))))))
set_option maxRecDepth 100000 in
theorem tX_beginsPart {X : CX} (hX : gd X cX2_beginsPart 3 RX2 (some .boolean)) (hw : isX (xw X)) (hg : nA X) (hR : xR X = rmOf 1 20 0 0) {r : Int32} {τ : St} (hr : xr X = (some (.int r), τ)) (v0 : Nat) (v1 : Int32) (σ : St) (h : rX_beginsPart v0 v1 σ = some (r, τ)) : Jd X 3 0 [(0, .ref (wadW (xw X) v0)), (1, .int v1)] [] σ := by
  unfold rX_beginsPart at h
  refine J_aload_n (q := 0) hX dX2_beginsPart_0 rfl rfl ?_
  refine K_gWord 39 hX hw (by decide) uw_4_24 dX2_beginsPart_1 ?_
  refine K_acmp_eq (tgt := 21) hX hw dX2_beginsPart_4 rfl h (fun h => ?_) (fun h => ?_)
  · refine J_sub [] rfl ?_
    exact tX_beginsPart_21 hX hw hg hR hr σ h
  · refine J_aload_n (q := 0) hX dX2_beginsPart_7 rfl rfl ?_
    refine K_gWord 22 hX hw (by decide) uw_4_25 dX2_beginsPart_8 ?_
    refine K_acmp_eq (tgt := 21) hX hw dX2_beginsPart_11 rfl h (fun h => ?_) (fun h => ?_)
    · refine J_sub [] rfl ?_
      exact tX_beginsPart_21 hX hw hg hR hr σ h
    · refine J_aload_n (q := 0) hX dX2_beginsPart_14 rfl rfl ?_
      refine K_gWord 30 hX hw (by decide) uw_4_27 dX2_beginsPart_15 ?_
      refine K_acmp_ne (tgt := 23) hX hw dX2_beginsPart_18 rfl h (fun h => ?_) (fun h => ?_)
      · refine J_aload_n (q := 0) hX dX2_beginsPart_23 rfl rfl ?_
        have hb_3 := of_decide_eq_true (chk_some h).1
        replace h := (chk_some h).2
        obtain ⟨r_4, σ_1, hc_2, h⟩ := bnd2_some h
        refine K_callW [] hX hg hR (X_oW hX hw hb_3) (ctX_wfact hw hc_2) lk_X2_92_X10_fact md_X10_fact ⟨by decide, by decide⟩ rfl rfl (Nat.le_of_ble_eq_true rfl) dX2_beginsPart_24 ?_
        refine K_istore_n (fun v2_5 => [(2, .int v2_5), (0, .ref (wadW (xw X) v0)), (1, .int v1)]) hX dX2_beginsPart_27 rfl (by decide) (fun _ => rfl) h (fun v2_5 h => ?_)
        refine J_iload_n (q := 2) hX dX2_beginsPart_28 rfl rfl ?_
        refine K_if_eq (tgt := 49) hX dX2_beginsPart_29 rfl h (fun h => ?_) (fun h => ?_)
        · refine J_iload_n (q := 0) hX dX2_beginsPart_49 rfl rfl ?_
          refine J_iconst (v := (5 : Int32)) hX dX2_beginsPart_50 (by decide) ?_
          refine K_icmp_lt (tgt := 64) hX dX2_beginsPart_51 rfl h (fun h => ?_) (fun h => ?_)
          · refine J_sub [] rfl ?_
            exact tX_beginsPart_64 hX hw hg hR hr σ_1 h
          · refine J_iload_n (q := 0) hX dX2_beginsPart_54 rfl rfl ?_
            refine J_bipush (v := (6 : Int32)) hX dX2_beginsPart_55 (by decide) ?_
            refine K_icmp_gt (tgt := 64) hX dX2_beginsPart_57 rfl h (fun h => ?_) (fun h => ?_)
            · refine J_sub [] rfl ?_
              exact tX_beginsPart_64 hX hw hg hR hr σ_1 h
            · refine J_iconst (v := (1 : Int32)) hX dX2_beginsPart_60 (by decide) ?_
              refine J_goto (tgt := 65) hX dX2_beginsPart_61 rfl ?_
              refine J_sub [] rfl ?_
              exact tX_beginsPart_65 hX hw hg hR hr (1 : Int32) σ_1 h
        · refine J_iload_n (q := 0) hX dX2_beginsPart_32 rfl rfl ?_
          refine K_if_lt (tgt := 45) hX dX2_beginsPart_33 rfl h (fun h => ?_) (fun h => ?_)
          · refine J_sub [] rfl ?_
            exact tX_beginsPart_45 hX hw hg hR hr σ_1 h
          · refine J_iload_n (q := 0) hX dX2_beginsPart_36 rfl rfl ?_
            refine J_iconst (v := (4 : Int32)) hX dX2_beginsPart_37 (by decide) ?_
            refine K_icmp_gt (tgt := 45) hX dX2_beginsPart_38 rfl h (fun h => ?_) (fun h => ?_)
            · refine J_sub [] rfl ?_
              exact tX_beginsPart_45 hX hw hg hR hr σ_1 h
            · refine J_iconst (v := (1 : Int32)) hX dX2_beginsPart_41 (by decide) ?_
              refine J_goto (tgt := 65) hX dX2_beginsPart_42 rfl ?_
              refine J_sub [] rfl ?_
              exact tX_beginsPart_65 hX hw hg hR hr (1 : Int32) σ_1 h
      · refine J_sub [] rfl ?_
        exact tX_beginsPart_21 hX hw hg hR hr σ h
theorem ctX_beginsPart {w : WT} (hw : isX w) {v0 : Nat} {v1 : Int32} {σ : St} {r : Int32} {τ : St} (h : rX_beginsPart v0 v1 σ = some (r, τ)) : Ct yX2_beginsPart cX2_beginsPart 3 (some .boolean) 1 20 w [.ref (wadW w v0), .int v1] σ (some (.int r)) τ 0 0 :=
  Ct_intro (fun _ => (0, 0)) (by decide) rfl ⟨rfl, Nat.le_refl _⟩ (Nat.le_of_ble_eq_true rfl) (fun X hX hR hwX hg hr => by subst hwX; exact tX_beginsPart hX hw hg hR hr v0 v1 σ h)

def rX_lreadLaw_138 (k24 : Int32 → Int32 → Int32 → St → Option (Int32 × St)) (v1 : Int32) (v2 : Int32) (v3 : Int32) (σ : St) : Option (Int32 × St) :=
  bnd1 (rX_tstep σ) fun σ_15 => nm (v3 + Int32.ofInt 1) fun v3_17 => k24 v1 v2 v3_17 σ_15
set_option maxRecDepth 100000 in
theorem tX_lreadLaw_138 {X : CX} (hX : gd X cX2_readLaw 5 RX2 (some .int)) (hw : isX (xw X)) (hg : nA X) (hR : xR X = rmOf 7 151 0 0) {r : Int32} {τ : St} (hr : xr X = (some (.int r), τ)) {k24 : Int32 → Int32 → Int32 → St → Option (Int32 × St)} (hk24 : (∀ (v1 : Int32) (v2 : Int32) (v3 : Int32) (σ : St), k24 v1 v2 v3 σ = some (r, τ) → Jd X 5 24 [(0, .ref (wad (xw X) 20)), (1, .int v1), (2, .int v2), (3, .int v3)] [] σ)) (v1 : Int32) (v2 : Int32) (v3 : Int32) (σ : St) (h : rX_lreadLaw_138 k24 v1 v2 v3 σ = some (r, τ)) : Jd X 5 138 [(0, .ref (wad (xw X) 20)), (1, .int v1), (2, .int v2), (3, .int v3)] [] σ := by
  unfold rX_lreadLaw_138 at h
  refine J_aload_n (q := 0) hX dX2_readLaw_138 rfl rfl ?_
  refine K_getc 5 hX (xc_20 hw) cls_X2 (k := 0) (by decide) uw_1_194 rfl dX2_readLaw_139 ?_
  obtain ⟨σ_15, hc_16, h⟩ := bnd1_some h
  refine K_callV [] hX hg hR (ctX_tstep hw hc_16) lk_X2_80_X8_step md_X8_step (xc_5 hw) cls_X8 ⟨by decide, by decide⟩ rfl rfl (Nat.le_of_ble_eq_true rfl) dX2_readLaw_142 ?_
  refine K_iinc (q := 3) (fun v3_17 => [(3, .int v3_17), (0, .ref (wad (xw X) 20)), (1, .int v1), (2, .int v2)]) hX dX2_readLaw_145 rfl (by decide) (fun _ => rfl) h (fun v3_17 h => ?_)
  refine J_goto (tgt := 24) hX dX2_readLaw_148 rfl ?_
  refine J_sub [1, 2, 3, 0] rfl ?_
  exact hk24 v1 v2 v3_17 σ_15 h

def rX_lreadLaw_119 (k24 : Int32 → Int32 → Int32 → St → Option (Int32 × St)) (v1 : Int32) (v3 : Int32) (v4 : Nat) (σ : St) : Option (Int32 × St) :=
  chk (decide (v4 < 42)) (bnd2 (rX_wjoiner v4 σ) fun r_10 σ_7 => bnd2 (rX_ltakeJoiner r_10 σ_7) fun r_13 σ_11 => brc (r_13 = 0) (some ((1 : Int32), σ_11)) (nm (1 : Int32) fun v2_14 => rX_lreadLaw_138 k24 v1 v2_14 v3 σ_11))
set_option maxRecDepth 100000 in
theorem tX_lreadLaw_119 {X : CX} (hX : gd X cX2_readLaw 5 RX2 (some .int)) (hw : isX (xw X)) (hg : nA X) (hR : xR X = rmOf 7 151 0 0) {r : Int32} {τ : St} (hr : xr X = (some (.int r), τ)) {k24 : Int32 → Int32 → Int32 → St → Option (Int32 × St)} (hk24 : (∀ (v1 : Int32) (v2 : Int32) (v3 : Int32) (σ : St), k24 v1 v2 v3 σ = some (r, τ) → Jd X 5 24 [(0, .ref (wad (xw X) 20)), (1, .int v1), (2, .int v2), (3, .int v3)] [] σ)) (v1 : Int32) (v3 : Int32) (v4 : Nat) (σ : St) (h : rX_lreadLaw_119 k24 v1 v3 v4 σ = some (r, τ)) : Jd X 5 119 [(0, .ref (wad (xw X) 20)), (1, .int v1), (3, .int v3), (4, .ref (wadW (xw X) v4))] [] σ := by
  unfold rX_lreadLaw_119 at h
  refine J_aload_n (q := 0) hX dX2_readLaw_119 rfl rfl ?_
  refine J_aload (q := 3) hX dX2_readLaw_120 rfl ?_
  have hb_9 := of_decide_eq_true (chk_some h).1
  replace h := (chk_some h).2
  obtain ⟨r_10, σ_7, hc_8, h⟩ := bnd2_some h
  refine K_callW [] hX hg hR (X_oW hX hw hb_9) (ctX_wjoiner hw hc_8) lk_X2_72_X10_joiner md_X10_joiner ⟨by decide, by decide⟩ rfl rfl (Nat.le_of_ble_eq_true rfl) dX2_readLaw_122 ?_
  obtain ⟨r_13, σ_11, hc_12, h⟩ := bnd2_some h
  refine K_callV [.int r_10] hX hg hR (ctX_ltakeJoiner hw hc_12) lk_X2_76_X2_takeJoiner md_X2_takeJoiner (xc_20 hw) cls_X2 ⟨by decide, by decide⟩ rfl rfl (Nat.le_of_ble_eq_true rfl) dX2_readLaw_125 ?_
  refine K_if_eq (tgt := 136) hX dX2_readLaw_128 rfl h (fun h => ?_) (fun h => ?_)
  · refine J_iconst (v := (1 : Int32)) hX dX2_readLaw_136 (by decide) ?_
    exact K_iret hX hr dX2_readLaw_137 h
  · refine J_iconst (v := (1 : Int32)) hX dX2_readLaw_131 (by decide) ?_
    refine K_istore_n (fun v2_14 => [(2, .int v2_14), (0, .ref (wad (xw X) 20)), (1, .int v1), (3, .int v3), (4, .ref (wadW (xw X) v4))]) hX dX2_readLaw_132 rfl (by decide) (fun _ => rfl) h (fun v2_14 h => ?_)
    refine J_goto (tgt := 138) hX dX2_readLaw_133 rfl ?_
    refine J_sub [1, 2, 0, 3] rfl ?_
    exact tX_lreadLaw_138 hX hw hg hR hr hk24 v1 v2_14 v3 σ_11 h

def rX_lreadLaw_97 (k24 : Int32 → Int32 → Int32 → St → Option (Int32 × St)) (v1 : Int32) (v2 : Int32) (v3 : Int32) (v4 : Nat) (σ : St) : Option (Int32 × St) :=
  chk (decide (v4 < 42 ∧ 31 < 42)) (brc (¬ v4 = 31) (rX_lreadLaw_119 k24 v1 v3 v4 σ) (brc ((σ.1 20 5) ≤ 0) (rX_lreadLaw_119 k24 v1 v3 v4 σ) (bnd1 (rX_ltakeClose σ) fun σ_18 => rX_lreadLaw_138 k24 v1 v2 v3 σ_18)))
set_option maxRecDepth 100000 in
theorem tX_lreadLaw_97 {X : CX} (hX : gd X cX2_readLaw 5 RX2 (some .int)) (hw : isX (xw X)) (hg : nA X) (hR : xR X = rmOf 7 151 0 0) {r : Int32} {τ : St} (hr : xr X = (some (.int r), τ)) {k24 : Int32 → Int32 → Int32 → St → Option (Int32 × St)} (hk24 : (∀ (v1 : Int32) (v2 : Int32) (v3 : Int32) (σ : St), k24 v1 v2 v3 σ = some (r, τ) → Jd X 5 24 [(0, .ref (wad (xw X) 20)), (1, .int v1), (2, .int v2), (3, .int v3)] [] σ)) (v1 : Int32) (v2 : Int32) (v3 : Int32) (v4 : Nat) (σ : St) (h : rX_lreadLaw_97 k24 v1 v2 v3 v4 σ = some (r, τ)) : Jd X 5 97 [(0, .ref (wad (xw X) 20)), (1, .int v1), (2, .int v2), (3, .int v3), (4, .ref (wadW (xw X) v4))] [] σ := by
  unfold rX_lreadLaw_97 at h
  refine J_aload (q := 4) hX dX2_readLaw_97 rfl ?_
  refine K_gWord 31 hX hw (by decide) uw_4_58 dX2_readLaw_99 ?_
  refine K_acmp_ne (tgt := 119) hX hw dX2_readLaw_102 rfl h (fun h => ?_) (fun h => ?_)
  · refine J_sub [0, 1, 3, 4] rfl ?_
    exact tX_lreadLaw_119 hX hw hg hR hr hk24 v1 v3 v4 σ h
  · refine J_aload_n (q := 0) hX dX2_readLaw_105 rfl rfl ?_
    refine K_geti hX (xc_20 hw) cls_X2 (k := 5) (by decide) uw_1_199 rfl dX2_readLaw_106 ?_
    refine K_if_le (tgt := 119) hX dX2_readLaw_109 rfl h (fun h => ?_) (fun h => ?_)
    · refine J_sub [0, 1, 3, 4] rfl ?_
      exact tX_lreadLaw_119 hX hw hg hR hr hk24 v1 v3 v4 σ h
    · refine J_aload_n (q := 0) hX dX2_readLaw_112 rfl rfl ?_
      obtain ⟨σ_18, hc_19, h⟩ := bnd1_some h
      refine K_callV [] hX hg hR (ctX_ltakeClose hw hc_19) lk_X2_69_X2_takeClose md_X2_takeClose (xc_20 hw) cls_X2 ⟨by decide, by decide⟩ rfl rfl (Nat.le_of_ble_eq_true rfl) dX2_readLaw_113 ?_
      refine J_goto (tgt := 138) hX dX2_readLaw_116 rfl ?_
      refine J_sub [0, 1, 2, 3] rfl ?_
      exact tX_lreadLaw_138 hX hw hg hR hr hk24 v1 v2 v3 σ_18 h

def rX_lreadLaw_24 (k24 : Int32 → Int32 → Int32 → St → Option (Int32 × St)) (v1 : Int32) (v2 : Int32) (v3 : Int32) (σ : St) : Option (Int32 × St) :=
  brc ((1000 : Int32) < v3) (some ((1 : Int32), σ)) (brc (v2 = 0) (chk (decide ((σ.2.2.1 5 3) < 42 ∧ 32 < 42)) (brc (¬ (σ.2.2.1 5 3) = 32) (rX_lreadLaw_97 k24 v1 v2 v3 (σ.2.2.1 5 3) σ) (brc (¬ (σ.1 20 5) = 0) (rX_lreadLaw_97 k24 v1 v2 v3 (σ.2.2.1 5 3) σ) (bnd1 (rX_lrelease (1 : Int32) σ) fun σ_20 => some ((0 : Int32), σ_20))))) (bnd2 (rX_beginsPart (σ.2.2.1 5 3) v1 σ) fun r_24 σ_22 => brc (¬ r_24 = 0) (brc ((σ_22.1 20 6) < (5 : Int32)) (bnd2 (rX_ltakePart (σ.2.2.1 5 3) σ_22) fun r_27 σ_25 => nm r_27 fun v2_28 => rX_lreadLaw_138 k24 v1 v2_28 v3 σ_25) (some ((5 : Int32), σ_22))) (some ((1 : Int32), σ_22))))
set_option maxRecDepth 100000 in
theorem tX_lreadLaw_24b {X : CX} (hX : gd X cX2_readLaw 5 RX2 (some .int)) (hw : isX (xw X)) (hg : nA X) (hR : xR X = rmOf 7 151 0 0) {r : Int32} {τ : St} (hr : xr X = (some (.int r), τ)) {k24 : Int32 → Int32 → Int32 → St → Option (Int32 × St)} (hk24 : (∀ (v1 : Int32) (v2 : Int32) (v3 : Int32) (σ : St), k24 v1 v2 v3 σ = some (r, τ) → Jd X 5 24 [(0, .ref (wad (xw X) 20)), (1, .int v1), (2, .int v2), (3, .int v3)] [] σ)) (v1 : Int32) (v2 : Int32) (v3 : Int32) (σ : St) (h : rX_lreadLaw_24 k24 v1 v2 v3 σ = some (r, τ)) : Jd X 5 24 [(0, .ref (wad (xw X) 20)), (1, .int v1), (2, .int v2), (3, .int v3)] [] σ := by
  unfold rX_lreadLaw_24 at h
  refine J_iload_n (q := 3) hX dX2_readLaw_24 rfl rfl ?_
  refine J_sipush (v := (1000 : Int32)) hX dX2_readLaw_25 (by decide) ?_
  refine K_icmp_gt (tgt := 151) hX dX2_readLaw_28 rfl h (fun h => ?_) (fun h => ?_)
  · refine J_iconst (v := (1 : Int32)) hX dX2_readLaw_151 (by decide) ?_
    exact K_iret hX hr dX2_readLaw_152 h
  · refine J_aload_n (q := 0) hX dX2_readLaw_31 rfl rfl ?_
    refine K_getc 5 hX (xc_20 hw) cls_X2 (k := 0) (by decide) uw_1_194 rfl dX2_readLaw_32 ?_
    refine K_getw hX (xc_5 hw) cls_X8 (k := 3) (by decide) uw_1_48 rfl dX2_readLaw_35 ?_
    refine J_astore (lv' := [(4, .ref (wadW (xw X) (σ.2.2.1 5 3))), (0, .ref (wad (xw X) 20)), (1, .int v1), (2, .int v2), (3, .int v3)]) hX dX2_readLaw_38 (by decide) rfl rfl ?_
    refine J_iload_n (q := 3) hX dX2_readLaw_40 rfl rfl ?_
    refine K_if_eq (tgt := 75) hX dX2_readLaw_41 rfl h (fun h => ?_) (fun h => ?_)
    · refine J_aload (q := 0) hX dX2_readLaw_75 rfl ?_
      refine K_gWord 32 hX hw (by decide) uw_4_49 dX2_readLaw_77 ?_
      refine K_acmp_ne (tgt := 97) hX hw dX2_readLaw_80 rfl h (fun h => ?_) (fun h => ?_)
      · refine J_sub [1, 2, 3, 4, 0] rfl ?_
        exact tX_lreadLaw_97 hX hw hg hR hr hk24 v1 v2 v3 (σ.2.2.1 5 3) σ h
      · refine J_aload_n (q := 1) hX dX2_readLaw_83 rfl rfl ?_
        refine K_geti hX (xc_20 hw) cls_X2 (k := 5) (by decide) uw_1_199 rfl dX2_readLaw_84 ?_
        refine K_if_ne (tgt := 97) hX dX2_readLaw_87 rfl h (fun h => ?_) (fun h => ?_)
        · refine J_sub [1, 2, 3, 4, 0] rfl ?_
          exact tX_lreadLaw_97 hX hw hg hR hr hk24 v1 v2 v3 (σ.2.2.1 5 3) σ h
        · refine J_aload_n (q := 1) hX dX2_readLaw_90 rfl rfl ?_
          refine J_iconst (v := (1 : Int32)) hX dX2_readLaw_91 (by decide) ?_
          obtain ⟨σ_20, hc_21, h⟩ := bnd1_some h
          refine K_callV [.int (1 : Int32)] hX hg hR (ctX_lrelease hw hc_21) lk_X2_62_X2_release md_X2_release (xc_20 hw) cls_X2 ⟨by decide, by decide⟩ rfl rfl (Nat.le_of_ble_eq_true rfl) dX2_readLaw_92 ?_
          refine J_iconst (v := (0 : Int32)) hX dX2_readLaw_95 (by decide) ?_
          exact K_iret hX hr dX2_readLaw_96 h
    · refine J_aload (q := 0) hX dX2_readLaw_44 rfl ?_
      refine J_iload_n (q := 2) hX dX2_readLaw_46 rfl rfl ?_
      obtain ⟨r_24, σ_22, hc_23, h⟩ := bnd2_some h
      refine K_callS [.ref (wadW (xw X) (σ.2.2.1 5 3)), .int v1] hX hg hR (ctX_beginsPart hw hc_23) lk_X2_47_X2_beginsPart md_X2_beginsPart ⟨by decide, by decide⟩ rfl rfl (Nat.le_of_ble_eq_true rfl) dX2_readLaw_47 ?_
      refine K_if_ne (tgt := 55) hX dX2_readLaw_50 rfl h (fun h => ?_) (fun h => ?_)
      · refine J_aload_n (q := 1) hX dX2_readLaw_55 rfl rfl ?_
        refine K_geti hX (xc_20 hw) cls_X2 (k := 6) (by decide) uw_1_200 rfl dX2_readLaw_56 ?_
        refine J_iconst (v := (5 : Int32)) hX dX2_readLaw_59 (by decide) ?_
        refine K_icmp_lt (tgt := 65) hX dX2_readLaw_60 rfl h (fun h => ?_) (fun h => ?_)
        · refine J_aload_n (q := 1) hX dX2_readLaw_65 rfl rfl ?_
          refine J_aload (q := 0) hX dX2_readLaw_66 rfl ?_
          obtain ⟨r_27, σ_25, hc_26, h⟩ := bnd2_some h
          refine K_callV [.ref (wadW (xw X) (σ.2.2.1 5 3))] hX hg hR (ctX_ltakePart hw hc_26) lk_X2_53_X2_takePart md_X2_takePart (xc_20 hw) cls_X2 ⟨by decide, by decide⟩ rfl rfl (Nat.le_of_ble_eq_true rfl) dX2_readLaw_68 ?_
          refine K_istore_n (fun v2_28 => [(2, .int v2_28), (4, .ref (wadW (xw X) (σ.2.2.1 5 3))), (0, .ref (wad (xw X) 20)), (1, .int v1), (3, .int v3)]) hX dX2_readLaw_71 rfl (by decide) (fun _ => rfl) h (fun v2_28 h => ?_)
          refine J_goto (tgt := 138) hX dX2_readLaw_72 rfl ?_
          refine J_sub [2, 3, 0, 4] rfl ?_
          exact tX_lreadLaw_138 hX hw hg hR hr hk24 v1 v2_28 v3 σ_25 h
        · refine J_iconst (v := (5 : Int32)) hX dX2_readLaw_63 (by decide) ?_
          exact K_iret hX hr dX2_readLaw_64 h
      · refine J_iconst (v := (1 : Int32)) hX dX2_readLaw_53 (by decide) ?_
        exact K_iret hX hr dX2_readLaw_54 h
def rX_lreadLaw_24L : ((Int32 × Int32 × Int32 × St) → Option (Int32 × St)) → (Int32 × Int32 × Int32 × St) → Option (Int32 × St) := fun k a => rX_lreadLaw_24 (fun v1 v2 v3 σ => k (v1, v2, v3, σ)) a.1 a.2.1 a.2.2.1 a.2.2.2
theorem tX_lreadLaw_24 {X : CX} (hX : gd X cX2_readLaw 5 RX2 (some .int)) (hw : isX (xw X)) (hg : nA X) (hR : xR X = rmOf 7 151 0 0) {r : Int32} {τ : St} (hr : xr X = (some (.int r), τ)) (n : Nat) (v1 : Int32) (v2 : Int32) (v3 : Int32) (σ : St) (h : lp (rX_lreadLaw_24L) n (v1, v2, v3, σ) = some (r, τ)) : Jd X 5 24 [(0, .ref (wad (xw X) 20)), (1, .int v1), (2, .int v2), (3, .int v3)] [] σ :=
  lp_ind (F := rX_lreadLaw_24L) (P := fun a => Jd X 5 24 [(0, .ref (wad (xw X) 20)), (1, .int a.1), (2, .int a.2.1), (3, .int a.2.2.1)] [] a.2.2.2) (fun k a hk h => tX_lreadLaw_24b hX hw hg hR hr (fun v1 v2 v3 σ h => hk (v1, v2, v3, σ) h) a.1 a.2.1 a.2.2.1 a.2.2.2 h) n (v1, v2, v3, σ) h

def rX_lreadLaw (v1 : Int32) (σ : St) : Option (Int32 × St) :=
  nm (setI σ 20 3 (0 : Int32)) fun σ_1 => nm (setI σ_1 20 4 (0 : Int32)) fun σ_2 => nm (setI σ_2 20 5 (0 : Int32)) fun σ_3 => nm (setI σ_3 20 6 (0 : Int32)) fun σ_4 => nm (1 : Int32) fun v2_5 => nm (0 : Int32) fun v3_6 => lp (rX_lreadLaw_24L) fu (v1, v2_5, v3_6, σ_4)
set_option maxRecDepth 100000 in
theorem tX_lreadLaw {X : CX} (hX : gd X cX2_readLaw 5 RX2 (some .int)) (hw : isX (xw X)) (hg : nA X) (hR : xR X = rmOf 7 151 0 0) {r : Int32} {τ : St} (hr : xr X = (some (.int r), τ)) (v1 : Int32) (σ : St) (h : rX_lreadLaw v1 σ = some (r, τ)) : Jd X 5 0 [(0, .ref (wad (xw X) 20)), (1, .int v1)] [] σ := by
  unfold rX_lreadLaw at h
  refine J_aload_n (q := 0) hX dX2_readLaw_0 rfl rfl ?_
  refine J_iconst (v := (0 : Int32)) hX dX2_readLaw_1 (by decide) ?_
  refine K_puti hX (xc_20 hw) cls_X2 (k := 3) (by decide) uw_1_197 rfl rfl rfl dX2_readLaw_2 h (fun σ_1 h => ?_)
  refine J_aload_n (q := 0) hX dX2_readLaw_5 rfl rfl ?_
  refine J_iconst (v := (0 : Int32)) hX dX2_readLaw_6 (by decide) ?_
  refine K_puti hX (xc_20 hw) cls_X2 (k := 4) (by decide) uw_1_198 rfl rfl rfl dX2_readLaw_7 h (fun σ_2 h => ?_)
  refine J_aload_n (q := 0) hX dX2_readLaw_10 rfl rfl ?_
  refine J_iconst (v := (0 : Int32)) hX dX2_readLaw_11 (by decide) ?_
  refine K_puti hX (xc_20 hw) cls_X2 (k := 5) (by decide) uw_1_199 rfl rfl rfl dX2_readLaw_12 h (fun σ_3 h => ?_)
  refine J_aload_n (q := 0) hX dX2_readLaw_15 rfl rfl ?_
  refine J_iconst (v := (0 : Int32)) hX dX2_readLaw_16 (by decide) ?_
  refine K_puti hX (xc_20 hw) cls_X2 (k := 6) (by decide) uw_1_200 rfl rfl rfl dX2_readLaw_17 h (fun σ_4 h => ?_)
  refine J_iconst (v := (1 : Int32)) hX dX2_readLaw_20 (by decide) ?_
  refine K_istore_n (fun v2_5 => [(2, .int v2_5), (0, .ref (wad (xw X) 20)), (1, .int v1)]) hX dX2_readLaw_21 rfl (by decide) (fun _ => rfl) h (fun v2_5 h => ?_)
  refine J_iconst (v := (0 : Int32)) hX dX2_readLaw_22 (by decide) ?_
  refine K_istore_n (fun v3_6 => [(3, .int v3_6), (2, .int v2_5), (0, .ref (wad (xw X) 20)), (1, .int v1)]) hX dX2_readLaw_23 rfl (by decide) (fun _ => rfl) h (fun v3_6 h => ?_)
  refine J_sub [2, 3, 1, 0] rfl ?_
  exact tX_lreadLaw_24 hX hw hg hR hr fu v1 v2_5 v3_6 σ_4 h
theorem ctX_lreadLaw {w : WT} (hw : isX w) {v1 : Int32} {σ : St} {r : Int32} {τ : St} (h : rX_lreadLaw v1 σ = some (r, τ)) : Ct yX2_readLaw cX2_readLaw 5 (some .int) 7 151 w [.ref (wad w 20), .int v1] σ (some (.int r)) τ 0 0 :=
  Ct_intro (fun _ => (0, 0)) (by decide) rfl ⟨rfl, Nat.le_refl _⟩ (Nat.le_of_ble_eq_true rfl) (fun X hX hR hwX hg hr => by subst hwX; exact tX_lreadLaw hX hw hg hR hr v1 σ h)

def rX_wrong (v1 : Int32) (σ : St) : Option (Int32 × St) :=
  nm (setI σ 7 4 (v1 + ((16 : Int32) * (σ.1 5 4)))) fun σ_1 => chk (decide ((0 : Int32) = 0 ∨ (0 : Int32) = 1)) (some ((0 : Int32), σ_1))
set_option maxRecDepth 100000 in
theorem tX_wrong {X : CX} (hX : gd X cX5_wrong 2 RX5 (some .boolean)) (hw : isX (xw X)) (hg : nA X) (hR : xR X = rmOf 0 0 0 0) {r : Int32} {τ : St} (hr : xr X = (some (.int r), τ)) (v1 : Int32) (σ : St) (h : rX_wrong v1 σ = some (r, τ)) : Jd X 2 0 [(0, .ref (wad (xw X) 7)), (1, .int v1)] [] σ := by
  unfold rX_wrong at h
  refine J_aload_n (q := 0) hX dX5_wrong_0 rfl rfl ?_
  refine J_iload_n (q := 1) hX dX5_wrong_1 rfl rfl ?_
  refine J_bipush (v := (16 : Int32)) hX dX5_wrong_2 (by decide) ?_
  refine J_aload_n (q := 0) hX dX5_wrong_4 rfl rfl ?_
  refine K_getc 5 hX (xc_7 hw) cls_X5 (k := 0) (by decide) uw_1_216 rfl dX5_wrong_5 ?_
  refine K_geti hX (xc_5 hw) cls_X8 (k := 4) (by decide) uw_1_50 rfl dX5_wrong_8 ?_
  refine J_imul hX dX5_wrong_11 ?_
  refine J_iadd hX dX5_wrong_12 ?_
  refine K_puti hX (xc_7 hw) cls_X5 (k := 4) (by decide) uw_1_220 rfl rfl rfl dX5_wrong_13 h (fun σ_1 h => ?_)
  refine J_iconst (v := (0 : Int32)) hX dX5_wrong_16 (by decide) ?_
  exact K_zret hX hr dX5_wrong_17 h
theorem ctX_wrong {w : WT} (hw : isX w) {v1 : Int32} {σ : St} {r : Int32} {τ : St} (h : rX_wrong v1 σ = some (r, τ)) : Ct yX5_wrong cX5_wrong 2 (some .boolean) 0 0 w [.ref (wad w 7), .int v1] σ (some (.int r)) τ 0 0 :=
  Ct_intro (fun _ => (0, 0)) (by decide) rfl ⟨rfl, Nat.le_refl _⟩ (Nat.le_of_ble_eq_true rfl) (fun X hX hR hwX hg hr => by subst hwX; exact tX_wrong hX hw hg hR hr v1 σ h)

def rX_isFirst (v1 : Int32) (σ : St) : Option (Int32 × St) :=
  brc (((σ.1 7 5) &&& v1) = 0) (nm (setI σ 7 5 ((σ.1 7 5) ||| v1)) fun σ_1 => chk (decide ((1 : Int32) = 0 ∨ (1 : Int32) = 1)) (some ((1 : Int32), σ_1))) (bnd2 (rX_wrong (3 : Int32) σ) fun r_4 σ_2 => chk (decide (r_4 = 0 ∨ r_4 = 1)) (some (r_4, σ_2)))
set_option maxRecDepth 100000 in
theorem tX_isFirst {X : CX} (hX : gd X cX5_isFirst 2 RX5 (some .boolean)) (hw : isX (xw X)) (hg : nA X) (hR : xR X = rmOf 1 21 0 0) {r : Int32} {τ : St} (hr : xr X = (some (.int r), τ)) (v1 : Int32) (σ : St) (h : rX_isFirst v1 σ = some (r, τ)) : Jd X 2 0 [(0, .ref (wad (xw X) 7)), (1, .int v1)] [] σ := by
  unfold rX_isFirst at h
  refine J_aload_n (q := 0) hX dX5_isFirst_0 rfl rfl ?_
  refine K_geti hX (xc_7 hw) cls_X5 (k := 5) (by decide) uw_1_221 rfl dX5_isFirst_1 ?_
  refine J_iload_n (q := 1) hX dX5_isFirst_4 rfl rfl ?_
  refine J_iand hX dX5_isFirst_5 ?_
  refine K_if_eq (tgt := 15) hX dX5_isFirst_6 rfl h (fun h => ?_) (fun h => ?_)
  · refine J_aload_n (q := 0) hX dX5_isFirst_15 rfl rfl ?_
    refine J_dup hX dX5_isFirst_16 rfl ?_
    refine K_geti hX (xc_7 hw) cls_X5 (k := 5) (by decide) uw_1_221 rfl dX5_isFirst_17 ?_
    refine J_iload_n (q := 1) hX dX5_isFirst_20 rfl rfl ?_
    refine J_ior hX dX5_isFirst_21 ?_
    refine K_puti hX (xc_7 hw) cls_X5 (k := 5) (by decide) uw_1_221 rfl rfl rfl dX5_isFirst_22 h (fun σ_1 h => ?_)
    refine J_iconst (v := (1 : Int32)) hX dX5_isFirst_25 (by decide) ?_
    exact K_zret hX hr dX5_isFirst_26 h
  · refine J_aload_n (q := 0) hX dX5_isFirst_9 rfl rfl ?_
    refine J_iconst (v := (3 : Int32)) hX dX5_isFirst_10 (by decide) ?_
    obtain ⟨r_4, σ_2, hc_3, h⟩ := bnd2_some h
    refine K_callV [.int (3 : Int32)] hX hg hR (ctX_wrong hw hc_3) lk_X5_110_X5_wrong md_X5_wrong (xc_7 hw) cls_X5 ⟨by decide, by decide⟩ rfl rfl (Nat.le_of_ble_eq_true rfl) dX5_isFirst_11 ?_
    exact K_zret hX hr dX5_isFirst_14 h
theorem ctX_isFirst {w : WT} (hw : isX w) {v1 : Int32} {σ : St} {r : Int32} {τ : St} (h : rX_isFirst v1 σ = some (r, τ)) : Ct yX5_isFirst cX5_isFirst 2 (some .boolean) 1 21 w [.ref (wad w 7), .int v1] σ (some (.int r)) τ 0 0 :=
  Ct_intro (fun _ => (0, 0)) (by decide) rfl ⟨rfl, Nat.le_refl _⟩ (Nat.le_of_ble_eq_true rfl) (fun X hX hR hwX hg hr => by subst hwX; exact tX_isFirst hX hw hg hR hr v1 σ h)

def rX_take (v1 : Nat) (σ : St) : Option (Int32 × St) :=
  chk (decide ((σ.2.2.1 5 3) < 42 ∧ v1 < 42)) (brc ((σ.2.2.1 5 3) = v1) (bnd1 (rX_tstep σ) fun σ_1 => chk (decide ((1 : Int32) = 0 ∨ (1 : Int32) = 1)) (some ((1 : Int32), σ_1))) (bnd2 (rX_wrong (1 : Int32) σ) fun r_5 σ_3 => chk (decide (r_5 = 0 ∨ r_5 = 1)) (some (r_5, σ_3))))
set_option maxRecDepth 100000 in
theorem tX_take {X : CX} (hX : gd X cX5_take 2 RX5 (some .boolean)) (hw : isX (xw X)) (hg : nA X) (hR : xR X = rmOf 7 151 0 0) {r : Int32} {τ : St} (hr : xr X = (some (.int r), τ)) (v1 : Nat) (σ : St) (h : rX_take v1 σ = some (r, τ)) : Jd X 2 0 [(0, .ref (wad (xw X) 7)), (1, .ref (wadW (xw X) v1))] [] σ := by
  unfold rX_take at h
  refine J_aload_n (q := 0) hX dX5_take_0 rfl rfl ?_
  refine K_getc 5 hX (xc_7 hw) cls_X5 (k := 0) (by decide) uw_1_216 rfl dX5_take_1 ?_
  refine K_getw hX (xc_5 hw) cls_X8 (k := 3) (by decide) uw_1_47 rfl dX5_take_4 ?_
  refine J_aload_n (q := 1) hX dX5_take_7 rfl rfl ?_
  refine K_acmp_eq (tgt := 17) hX hw dX5_take_8 rfl h (fun h => ?_) (fun h => ?_)
  · refine J_aload_n (q := 0) hX dX5_take_17 rfl rfl ?_
    refine K_getc 5 hX (xc_7 hw) cls_X5 (k := 0) (by decide) uw_1_216 rfl dX5_take_18 ?_
    obtain ⟨σ_1, hc_2, h⟩ := bnd1_some h
    refine K_callV [] hX hg hR (ctX_tstep hw hc_2) lk_X5_123_X8_step md_X8_step (xc_5 hw) cls_X8 ⟨by decide, by decide⟩ rfl rfl (Nat.le_of_ble_eq_true rfl) dX5_take_21 ?_
    refine J_iconst (v := (1 : Int32)) hX dX5_take_24 (by decide) ?_
    exact K_zret hX hr dX5_take_25 h
  · refine J_aload_n (q := 0) hX dX5_take_11 rfl rfl ?_
    refine J_iconst (v := (1 : Int32)) hX dX5_take_12 (by decide) ?_
    obtain ⟨r_5, σ_3, hc_4, h⟩ := bnd2_some h
    refine K_callV [.int (1 : Int32)] hX hg hR (ctX_wrong hw hc_4) lk_X5_110_X5_wrong md_X5_wrong (xc_7 hw) cls_X5 ⟨by decide, by decide⟩ rfl rfl (Nat.le_of_ble_eq_true rfl) dX5_take_13 ?_
    exact K_zret hX hr dX5_take_16 h
theorem ctX_take {w : WT} (hw : isX w) {v1 : Nat} {σ : St} {r : Int32} {τ : St} (h : rX_take v1 σ = some (r, τ)) : Ct yX5_take cX5_take 2 (some .boolean) 7 151 w [.ref (wad w 7), .ref (wadW w v1)] σ (some (.int r)) τ 0 0 :=
  Ct_intro (fun _ => (0, 0)) (by decide) rfl ⟨rfl, Nat.le_refl _⟩ (Nat.le_of_ble_eq_true rfl) (fun X hX hR hwX hg hr => by subst hwX; exact tX_take hX hw hg hR hr v1 σ h)

def rX_takeNumber_41 (σ : St) : Option (Int32 × St) :=
  bnd2 (rX_wrong (4 : Int32) σ) fun r_3 σ_1 => chk (decide (r_3 = 0 ∨ r_3 = 1)) (some (r_3, σ_1))
set_option maxRecDepth 100000 in
theorem tX_takeNumber_41 {X : CX} (hX : gd X cX5_takeNumber 3 RX5 (some .boolean)) (hw : isX (xw X)) (hg : nA X) (hR : xR X = rmOf 7 151 0 0) {r : Int32} {τ : St} (hr : xr X = (some (.int r), τ)) (σ : St) (h : rX_takeNumber_41 σ = some (r, τ)) : Jd X 3 41 [(0, .ref (wad (xw X) 7))] [] σ := by
  unfold rX_takeNumber_41 at h
  refine J_aload_n (q := 0) hX dX5_takeNumber_41 rfl rfl ?_
  refine J_iconst (v := (4 : Int32)) hX dX5_takeNumber_42 (by decide) ?_
  obtain ⟨r_3, σ_1, hc_2, h⟩ := bnd2_some h
  refine K_callV [.int (4 : Int32)] hX hg hR (ctX_wrong hw hc_2) lk_X5_110_X5_wrong md_X5_wrong (xc_7 hw) cls_X5 ⟨by decide, by decide⟩ rfl rfl (Nat.le_of_ble_eq_true rfl) dX5_takeNumber_43 ?_
  exact K_zret hX hr dX5_takeNumber_46 h

def rX_takeNumber (v1 : Int32) (v2 : Int32) (σ : St) : Option (Int32 × St) :=
  chk (decide ((σ.2.2.1 5 3) < 42 ∧ 39 < 42)) (brc ((σ.2.2.1 5 3) = 39) (brc ((σ.1 5 5) < v1) (rX_takeNumber_41 σ) (brc ((σ.1 5 5) ≤ v2) (nm (setI σ 7 6 (σ.1 5 5)) fun σ_4 => bnd1 (rX_tstep σ_4) fun σ_5 => chk (decide ((1 : Int32) = 0 ∨ (1 : Int32) = 1)) (some ((1 : Int32), σ_5))) (rX_takeNumber_41 σ))) (bnd2 (rX_wrong (1 : Int32) σ) fun r_9 σ_7 => chk (decide (r_9 = 0 ∨ r_9 = 1)) (some (r_9, σ_7))))
set_option maxRecDepth 100000 in
theorem tX_takeNumber {X : CX} (hX : gd X cX5_takeNumber 3 RX5 (some .boolean)) (hw : isX (xw X)) (hg : nA X) (hR : xR X = rmOf 7 151 0 0) {r : Int32} {τ : St} (hr : xr X = (some (.int r), τ)) (v1 : Int32) (v2 : Int32) (σ : St) (h : rX_takeNumber v1 v2 σ = some (r, τ)) : Jd X 3 0 [(0, .ref (wad (xw X) 7)), (1, .int v1), (2, .int v2)] [] σ := by
  unfold rX_takeNumber at h
  refine J_aload_n (q := 0) hX dX5_takeNumber_0 rfl rfl ?_
  refine K_getc 5 hX (xc_7 hw) cls_X5 (k := 0) (by decide) uw_1_216 rfl dX5_takeNumber_1 ?_
  refine K_getw hX (xc_5 hw) cls_X8 (k := 3) (by decide) uw_1_47 rfl dX5_takeNumber_4 ?_
  refine K_gWord 39 hX hw (by decide) uw_3_198 dX5_takeNumber_7 ?_
  refine K_acmp_eq (tgt := 19) hX hw dX5_takeNumber_10 rfl h (fun h => ?_) (fun h => ?_)
  · refine J_aload_n (q := 0) hX dX5_takeNumber_19 rfl rfl ?_
    refine K_getc 5 hX (xc_7 hw) cls_X5 (k := 0) (by decide) uw_1_216 rfl dX5_takeNumber_20 ?_
    refine K_geti hX (xc_5 hw) cls_X8 (k := 5) (by decide) uw_1_53 rfl dX5_takeNumber_23 ?_
    refine J_iload_n (q := 1) hX dX5_takeNumber_26 rfl rfl ?_
    refine K_icmp_lt (tgt := 41) hX dX5_takeNumber_27 rfl h (fun h => ?_) (fun h => ?_)
    · refine J_sub [0] rfl ?_
      exact tX_takeNumber_41 hX hw hg hR hr σ h
    · refine J_aload_n (q := 0) hX dX5_takeNumber_30 rfl rfl ?_
      refine K_getc 5 hX (xc_7 hw) cls_X5 (k := 0) (by decide) uw_1_216 rfl dX5_takeNumber_31 ?_
      refine K_geti hX (xc_5 hw) cls_X8 (k := 5) (by decide) uw_1_53 rfl dX5_takeNumber_34 ?_
      refine J_iload_n (q := 2) hX dX5_takeNumber_37 rfl rfl ?_
      refine K_icmp_le (tgt := 47) hX dX5_takeNumber_38 rfl h (fun h => ?_) (fun h => ?_)
      · refine J_aload_n (q := 0) hX dX5_takeNumber_47 rfl rfl ?_
        refine J_aload_n (q := 0) hX dX5_takeNumber_48 rfl rfl ?_
        refine K_getc 5 hX (xc_7 hw) cls_X5 (k := 0) (by decide) uw_1_216 rfl dX5_takeNumber_49 ?_
        refine K_geti hX (xc_5 hw) cls_X8 (k := 5) (by decide) uw_1_53 rfl dX5_takeNumber_52 ?_
        refine K_puti hX (xc_7 hw) cls_X5 (k := 6) (by decide) uw_1_222 rfl rfl rfl dX5_takeNumber_55 h (fun σ_4 h => ?_)
        refine J_aload_n (q := 0) hX dX5_takeNumber_58 rfl rfl ?_
        refine K_getc 5 hX (xc_7 hw) cls_X5 (k := 0) (by decide) uw_1_216 rfl dX5_takeNumber_59 ?_
        obtain ⟨σ_5, hc_6, h⟩ := bnd1_some h
        refine K_callV [] hX hg hR (ctX_tstep hw hc_6) lk_X5_123_X8_step md_X8_step (xc_5 hw) cls_X8 ⟨by decide, by decide⟩ rfl rfl (Nat.le_of_ble_eq_true rfl) dX5_takeNumber_62 ?_
        refine J_iconst (v := (1 : Int32)) hX dX5_takeNumber_65 (by decide) ?_
        exact K_zret hX hr dX5_takeNumber_66 h
      · refine J_sub [0] rfl ?_
        exact tX_takeNumber_41 hX hw hg hR hr σ h
  · refine J_aload_n (q := 0) hX dX5_takeNumber_13 rfl rfl ?_
    refine J_iconst (v := (1 : Int32)) hX dX5_takeNumber_14 (by decide) ?_
    obtain ⟨r_9, σ_7, hc_8, h⟩ := bnd2_some h
    refine K_callV [.int (1 : Int32)] hX hg hR (ctX_wrong hw hc_8) lk_X5_110_X5_wrong md_X5_wrong (xc_7 hw) cls_X5 ⟨by decide, by decide⟩ rfl rfl (Nat.le_of_ble_eq_true rfl) dX5_takeNumber_15 ?_
    exact K_zret hX hr dX5_takeNumber_18 h
theorem ctX_takeNumber {w : WT} (hw : isX w) {v1 : Int32} {v2 : Int32} {σ : St} {r : Int32} {τ : St} (h : rX_takeNumber v1 v2 σ = some (r, τ)) : Ct yX5_takeNumber cX5_takeNumber 3 (some .boolean) 7 151 w [.ref (wad w 7), .int v1, .int v2] σ (some (.int r)) τ 0 0 :=
  Ct_intro (fun _ => (0, 0)) (by decide) rfl ⟨rfl, Nat.le_refl _⟩ (Nat.le_of_ble_eq_true rfl) (fun X hX hR hwX hg hr => by subst hwX; exact tX_takeNumber hX hw hg hR hr v1 v2 σ h)

def rX_placeOfS_35 (σ : St) : Option (Int32 × St) :=
  some ((-1 : Int32), σ)
set_option maxRecDepth 100000 in
theorem tX_placeOfS_35 {X : CX} (hX : gd X cX5_placeOf 4 RX5 (some .int)) (hw : isX (xw X)) (hg : nA X) (hR : xR X = rmOf 0 0 0 0) {r : Int32} {τ : St} (hr : xr X = (some (.int r), τ)) (σ : St) (h : rX_placeOfS_35 σ = some (r, τ)) : Jd X 4 35 [] [] σ := by
  unfold rX_placeOfS_35 at h
  refine J_iconst (v := (-1 : Int32)) hX dX5_placeOf_35 (by decide) ?_
  exact K_iret hX hr dX5_placeOf_36 h

def rX_placeOfS_2 (k2 : Int32 → Int32 → St → Option (Int32 × St)) (v2 : Int32) (v3 : Int32) (σ : St) : Option (Int32 × St) :=
  brc (v2 ≤ v3) (rX_placeOfS_35 σ) (brc ((nI 7) ≤ v3) (rX_placeOfS_35 σ) (chk (ib v3 7) (brc (¬ (lg_cmp (σ.2.1 8 v3.toNatClampNeg) (σ.2.1 5 6)) = 0) (nm (v3 + Int32.ofInt 1) fun v3_2 => k2 v2 v3_2 σ) (some (v3, σ)))))
set_option maxRecDepth 100000 in
theorem tX_placeOfS_2b {X : CX} (hX : gd X cX5_placeOf 4 RX5 (some .int)) (hw : isX (xw X)) (hg : nA X) (hR : xR X = rmOf 0 0 0 0) {r : Int32} {τ : St} (hr : xr X = (some (.int r), τ)) {k2 : Int32 → Int32 → St → Option (Int32 × St)} (hk2 : (∀ (v2 : Int32) (v3 : Int32) (σ : St), k2 v2 v3 σ = some (r, τ) → Jd X 4 2 [(0, .ref (wad (xw X) 7)), (1, .ref (wad (xw X) 8)), (2, .int v2), (3, .int v3)] [] σ)) (v2 : Int32) (v3 : Int32) (σ : St) (h : rX_placeOfS_2 k2 v2 v3 σ = some (r, τ)) : Jd X 4 2 [(0, .ref (wad (xw X) 7)), (1, .ref (wad (xw X) 8)), (2, .int v2), (3, .int v3)] [] σ := by
  unfold rX_placeOfS_2 at h
  refine J_iload_n (q := 3) hX dX5_placeOf_2 rfl rfl ?_
  refine J_iload_n (q := 2) hX dX5_placeOf_3 rfl rfl ?_
  refine K_icmp_ge (tgt := 35) hX dX5_placeOf_4 rfl h (fun h => ?_) (fun h => ?_)
  · refine J_sub [] rfl ?_
    exact tX_placeOfS_35 hX hw hg hR hr σ h
  · refine J_iload_n (q := 3) hX dX5_placeOf_7 rfl rfl ?_
    refine J_aload_n (q := 1) hX dX5_placeOf_8 rfl rfl ?_
    refine K_alen hX (xc_8 hw) rfl dX5_placeOf_9 ?_
    refine K_icmp_ge (tgt := 35) hX dX5_placeOf_10 rfl h (fun h => ?_) (fun h => ?_)
    · refine J_sub [] rfl ?_
      exact tX_placeOfS_35 hX hw hg hR hr σ h
    · refine J_aload_n (q := 1) hX dX5_placeOf_13 rfl rfl ?_
      refine J_iload_n (q := 3) hX dX5_placeOf_14 rfl rfl ?_
      refine K_lald hX (xc_8 hw) dX5_placeOf_15 h (fun h => ?_)
      refine J_aload_n (q := 0) hX dX5_placeOf_16 rfl rfl ?_
      refine K_getc 5 hX (xc_7 hw) cls_X5 (k := 0) (by decide) uw_1_216 rfl dX5_placeOf_17 ?_
      refine K_getl hX (xc_5 hw) cls_X8 (k := 6) (by decide) uw_1_54 rfl dX5_placeOf_20 ?_
      refine J_lcmp hX dX5_placeOf_23 ?_
      refine K_if_ne (tgt := 29) hX dX5_placeOf_24 rfl h (fun h => ?_) (fun h => ?_)
      · refine K_iinc (q := 3) (fun v3_2 => [(3, .int v3_2), (0, .ref (wad (xw X) 7)), (1, .ref (wad (xw X) 8)), (2, .int v2)]) hX dX5_placeOf_29 rfl (by decide) (fun _ => rfl) h (fun v3_2 h => ?_)
        refine J_goto (tgt := 2) hX dX5_placeOf_32 rfl ?_
        refine J_sub [1, 2, 3, 0] rfl ?_
        exact hk2 v2 v3_2 σ h
      · refine J_iload_n (q := 3) hX dX5_placeOf_27 rfl rfl ?_
        exact K_iret hX hr dX5_placeOf_28 h
def rX_placeOfS_2L : ((Int32 × Int32 × St) → Option (Int32 × St)) → (Int32 × Int32 × St) → Option (Int32 × St) := fun k a => rX_placeOfS_2 (fun v2 v3 σ => k (v2, v3, σ)) a.1 a.2.1 a.2.2
theorem tX_placeOfS_2 {X : CX} (hX : gd X cX5_placeOf 4 RX5 (some .int)) (hw : isX (xw X)) (hg : nA X) (hR : xR X = rmOf 0 0 0 0) {r : Int32} {τ : St} (hr : xr X = (some (.int r), τ)) (n : Nat) (v2 : Int32) (v3 : Int32) (σ : St) (h : lp (rX_placeOfS_2L) n (v2, v3, σ) = some (r, τ)) : Jd X 4 2 [(0, .ref (wad (xw X) 7)), (1, .ref (wad (xw X) 8)), (2, .int v2), (3, .int v3)] [] σ :=
  lp_ind (F := rX_placeOfS_2L) (P := fun a => Jd X 4 2 [(0, .ref (wad (xw X) 7)), (1, .ref (wad (xw X) 8)), (2, .int a.1), (3, .int a.2.1)] [] a.2.2) (fun k a hk h => tX_placeOfS_2b hX hw hg hR hr (fun v2 v3 σ h => hk (v2, v3, σ) h) a.1 a.2.1 a.2.2 h) n (v2, v3, σ) h

def rX_placeOfS (v2 : Int32) (σ : St) : Option (Int32 × St) :=
  nm (0 : Int32) fun v3_1 => lp (rX_placeOfS_2L) fu (v2, v3_1, σ)
set_option maxRecDepth 100000 in
theorem tX_placeOfS {X : CX} (hX : gd X cX5_placeOf 4 RX5 (some .int)) (hw : isX (xw X)) (hg : nA X) (hR : xR X = rmOf 0 0 0 0) {r : Int32} {τ : St} (hr : xr X = (some (.int r), τ)) (v2 : Int32) (σ : St) (h : rX_placeOfS v2 σ = some (r, τ)) : Jd X 4 0 [(0, .ref (wad (xw X) 7)), (1, .ref (wad (xw X) 8)), (2, .int v2)] [] σ := by
  unfold rX_placeOfS at h
  refine J_iconst (v := (0 : Int32)) hX dX5_placeOf_0 (by decide) ?_
  refine K_istore_n (fun v3_1 => [(3, .int v3_1), (0, .ref (wad (xw X) 7)), (1, .ref (wad (xw X) 8)), (2, .int v2)]) hX dX5_placeOf_1 rfl (by decide) (fun _ => rfl) h (fun v3_1 h => ?_)
  refine J_sub [1, 2, 3, 0] rfl ?_
  exact tX_placeOfS_2 hX hw hg hR hr fu v2 v3_1 σ h
theorem ctX_placeOfS {w : WT} (hw : isX w) {v2 : Int32} {σ : St} {r : Int32} {τ : St} (h : rX_placeOfS v2 σ = some (r, τ)) : Ct yX5_placeOf cX5_placeOf 4 (some .int) 0 0 w [.ref (wad w 7), .ref (wad w 8), .int v2] σ (some (.int r)) τ 0 0 :=
  Ct_intro (fun _ => (0, 0)) (by decide) rfl ⟨rfl, Nat.le_refl _⟩ (Nat.le_of_ble_eq_true rfl) (fun X hX hR hwX hg hr => by subst hwX; exact tX_placeOfS hX hw hg hR hr v2 σ h)

def rX_isToldS (v2 : Int32) (σ : St) : Option (Int32 × St) :=
  chk (decide (σ.2.2.1 5 3 < 42)) (bnd2 (rX_wcanName (σ.2.2.1 5 3) σ) fun r_4 σ_1 => brc (¬ r_4 = 0) (bnd2 (rX_placeOfS v2 σ_1) fun r_7 σ_5 => brc (¬ r_7 = (-1 : Int32)) (chk (decide ((1 : Int32) = 0 ∨ (1 : Int32) = 1)) (some ((1 : Int32), σ_5))) (bnd2 (rX_wrong (2 : Int32) σ_5) fun r_10 σ_8 => chk (decide (r_10 = 0 ∨ r_10 = 1)) (some (r_10, σ_8)))) (bnd2 (rX_wrong (1 : Int32) σ_1) fun r_13 σ_11 => chk (decide (r_13 = 0 ∨ r_13 = 1)) (some (r_13, σ_11))))
set_option maxRecDepth 100000 in
theorem tX_isToldS {X : CX} (hX : gd X cX5_isTold 3 RX5 (some .boolean)) (hw : isX (xw X)) (hg : nA X) (hR : xR X = rmOf 1 23 0 0) {r : Int32} {τ : St} (hr : xr X = (some (.int r), τ)) (v2 : Int32) (σ : St) (h : rX_isToldS v2 σ = some (r, τ)) : Jd X 3 0 [(0, .ref (wad (xw X) 7)), (1, .ref (wad (xw X) 8)), (2, .int v2)] [] σ := by
  unfold rX_isToldS at h
  refine J_aload_n (q := 0) hX dX5_isTold_0 rfl rfl ?_
  refine K_getc 5 hX (xc_7 hw) cls_X5 (k := 0) (by decide) uw_1_216 rfl dX5_isTold_1 ?_
  refine K_getw hX (xc_5 hw) cls_X8 (k := 3) (by decide) uw_1_47 rfl dX5_isTold_4 ?_
  have hb_3 := of_decide_eq_true (chk_some h).1
  replace h := (chk_some h).2
  obtain ⟨r_4, σ_1, hc_2, h⟩ := bnd2_some h
  refine K_callW [] hX hg hR (X_oW hX hw hb_3) (ctX_wcanName hw hc_2) lk_X5_245_X10_canName md_X10_canName ⟨by decide, by decide⟩ rfl rfl (Nat.le_of_ble_eq_true rfl) dX5_isTold_7 ?_
  refine K_if_ne (tgt := 19) hX dX5_isTold_10 rfl h (fun h => ?_) (fun h => ?_)
  · refine J_aload_n (q := 0) hX dX5_isTold_19 rfl rfl ?_
    refine J_aload_n (q := 1) hX dX5_isTold_20 rfl rfl ?_
    refine J_iload_n (q := 2) hX dX5_isTold_21 rfl rfl ?_
    obtain ⟨r_7, σ_5, hc_6, h⟩ := bnd2_some h
    refine K_callV [.ref (wad (xw X) 8), .int v2] hX hg hR (ctX_placeOfS hw hc_6) lk_X5_163_X5_placeOf md_X5_placeOf (xc_7 hw) cls_X5 ⟨by decide, by decide⟩ rfl rfl (Nat.le_of_ble_eq_true rfl) dX5_isTold_22 ?_
    refine J_iconst (v := (-1 : Int32)) hX dX5_isTold_25 (by decide) ?_
    refine K_icmp_ne (tgt := 35) hX dX5_isTold_26 rfl h (fun h => ?_) (fun h => ?_)
    · refine J_iconst (v := (1 : Int32)) hX dX5_isTold_35 (by decide) ?_
      exact K_zret hX hr dX5_isTold_36 h
    · refine J_aload_n (q := 0) hX dX5_isTold_29 rfl rfl ?_
      refine J_iconst (v := (2 : Int32)) hX dX5_isTold_30 (by decide) ?_
      obtain ⟨r_10, σ_8, hc_9, h⟩ := bnd2_some h
      refine K_callV [.int (2 : Int32)] hX hg hR (ctX_wrong hw hc_9) lk_X5_110_X5_wrong md_X5_wrong (xc_7 hw) cls_X5 ⟨by decide, by decide⟩ rfl rfl (Nat.le_of_ble_eq_true rfl) dX5_isTold_31 ?_
      exact K_zret hX hr dX5_isTold_34 h
  · refine J_aload_n (q := 0) hX dX5_isTold_13 rfl rfl ?_
    refine J_iconst (v := (1 : Int32)) hX dX5_isTold_14 (by decide) ?_
    obtain ⟨r_13, σ_11, hc_12, h⟩ := bnd2_some h
    refine K_callV [.int (1 : Int32)] hX hg hR (ctX_wrong hw hc_12) lk_X5_110_X5_wrong md_X5_wrong (xc_7 hw) cls_X5 ⟨by decide, by decide⟩ rfl rfl (Nat.le_of_ble_eq_true rfl) dX5_isTold_15 ?_
    exact K_zret hX hr dX5_isTold_18 h
theorem ctX_isToldS {w : WT} (hw : isX w) {v2 : Int32} {σ : St} {r : Int32} {τ : St} (h : rX_isToldS v2 σ = some (r, τ)) : Ct yX5_isTold cX5_isTold 3 (some .boolean) 1 23 w [.ref (wad w 7), .ref (wad w 8), .int v2] σ (some (.int r)) τ 0 0 :=
  Ct_intro (fun _ => (0, 0)) (by decide) rfl ⟨rfl, Nat.le_refl _⟩ (Nat.le_of_ble_eq_true rfl) (fun X hX hR hwX hg hr => by subst hwX; exact tX_isToldS hX hw hg hR hr v2 σ h)

def rX_takeToldS (v2 : Int32) (σ : St) : Option (Int32 × St) :=
  bnd2 (rX_isToldS v2 σ) fun r_3 σ_1 => brc (¬ r_3 = 0) (bnd2 (rX_placeOfS v2 σ_1) fun r_6 σ_4 => nm (setI σ_4 7 6 r_6) fun σ_7 => bnd1 (rX_tstep σ_7) fun σ_8 => chk (decide ((1 : Int32) = 0 ∨ (1 : Int32) = 1)) (some ((1 : Int32), σ_8))) (chk (decide ((0 : Int32) = 0 ∨ (0 : Int32) = 1)) (some ((0 : Int32), σ_1)))
set_option maxRecDepth 100000 in
theorem tX_takeToldS {X : CX} (hX : gd X cX5_takeTold 3 RX5 (some .boolean)) (hw : isX (xw X)) (hg : nA X) (hR : xR X = rmOf 7 151 0 0) {r : Int32} {τ : St} (hr : xr X = (some (.int r), τ)) (v2 : Int32) (σ : St) (h : rX_takeToldS v2 σ = some (r, τ)) : Jd X 3 0 [(0, .ref (wad (xw X) 7)), (1, .ref (wad (xw X) 8)), (2, .int v2)] [] σ := by
  unfold rX_takeToldS at h
  refine J_aload_n (q := 0) hX dX5_takeTold_0 rfl rfl ?_
  refine J_aload_n (q := 1) hX dX5_takeTold_1 rfl rfl ?_
  refine J_iload_n (q := 2) hX dX5_takeTold_2 rfl rfl ?_
  obtain ⟨r_3, σ_1, hc_2, h⟩ := bnd2_some h
  refine K_callV [.ref (wad (xw X) 8), .int v2] hX hg hR (ctX_isToldS hw hc_2) lk_X5_160_X5_isTold md_X5_isTold (xc_7 hw) cls_X5 ⟨by decide, by decide⟩ rfl rfl (Nat.le_of_ble_eq_true rfl) dX5_takeTold_3 ?_
  refine K_if_ne (tgt := 11) hX dX5_takeTold_6 rfl h (fun h => ?_) (fun h => ?_)
  · refine J_aload_n (q := 0) hX dX5_takeTold_11 rfl rfl ?_
    refine J_aload_n (q := 0) hX dX5_takeTold_12 rfl rfl ?_
    refine J_aload_n (q := 1) hX dX5_takeTold_13 rfl rfl ?_
    refine J_iload_n (q := 2) hX dX5_takeTold_14 rfl rfl ?_
    obtain ⟨r_6, σ_4, hc_5, h⟩ := bnd2_some h
    refine K_callV [.ref (wad (xw X) 8), .int v2] hX hg hR (ctX_placeOfS hw hc_5) lk_X5_163_X5_placeOf md_X5_placeOf (xc_7 hw) cls_X5 ⟨by decide, by decide⟩ rfl rfl (Nat.le_of_ble_eq_true rfl) dX5_takeTold_15 ?_
    refine K_puti hX (xc_7 hw) cls_X5 (k := 6) (by decide) uw_1_222 rfl rfl rfl dX5_takeTold_18 h (fun σ_7 h => ?_)
    refine J_aload_n (q := 0) hX dX5_takeTold_21 rfl rfl ?_
    refine K_getc 5 hX (xc_7 hw) cls_X5 (k := 0) (by decide) uw_1_216 rfl dX5_takeTold_22 ?_
    obtain ⟨σ_8, hc_9, h⟩ := bnd1_some h
    refine K_callV [] hX hg hR (ctX_tstep hw hc_9) lk_X5_123_X8_step md_X8_step (xc_5 hw) cls_X8 ⟨by decide, by decide⟩ rfl rfl (Nat.le_of_ble_eq_true rfl) dX5_takeTold_25 ?_
    refine J_iconst (v := (1 : Int32)) hX dX5_takeTold_28 (by decide) ?_
    exact K_zret hX hr dX5_takeTold_29 h
  · refine J_iconst (v := (0 : Int32)) hX dX5_takeTold_9 (by decide) ?_
    exact K_zret hX hr dX5_takeTold_10 h
theorem ctX_takeToldS {w : WT} (hw : isX w) {v2 : Int32} {σ : St} {r : Int32} {τ : St} (h : rX_takeToldS v2 σ = some (r, τ)) : Ct yX5_takeTold cX5_takeTold 3 (some .boolean) 7 151 w [.ref (wad w 7), .ref (wad w 8), .int v2] σ (some (.int r)) τ 0 0 :=
  Ct_intro (fun _ => (0, 0)) (by decide) rfl ⟨rfl, Nat.le_refl _⟩ (Nat.le_of_ble_eq_true rfl) (fun X hX hR hwX hg hr => by subst hwX; exact tX_takeToldS hX hw hg hR hr v2 σ h)

def rX_placeOfC_35 (σ : St) : Option (Int32 × St) :=
  some ((-1 : Int32), σ)
set_option maxRecDepth 100000 in
theorem tX_placeOfC_35 {X : CX} (hX : gd X cX5_placeOf 4 RX5 (some .int)) (hw : isX (xw X)) (hg : nA X) (hR : xR X = rmOf 0 0 0 0) {r : Int32} {τ : St} (hr : xr X = (some (.int r), τ)) (σ : St) (h : rX_placeOfC_35 σ = some (r, τ)) : Jd X 4 35 [] [] σ := by
  unfold rX_placeOfC_35 at h
  refine J_iconst (v := (-1 : Int32)) hX dX5_placeOf_35 (by decide) ?_
  exact K_iret hX hr dX5_placeOf_36 h

def rX_placeOfC_2 (k2 : Int32 → Int32 → St → Option (Int32 × St)) (v2 : Int32) (v3 : Int32) (σ : St) : Option (Int32 × St) :=
  brc (v2 ≤ v3) (rX_placeOfC_35 σ) (brc ((nI 6) ≤ v3) (rX_placeOfC_35 σ) (chk (ib v3 6) (brc (¬ (lg_cmp (σ.2.1 9 v3.toNatClampNeg) (σ.2.1 5 6)) = 0) (nm (v3 + Int32.ofInt 1) fun v3_2 => k2 v2 v3_2 σ) (some (v3, σ)))))
set_option maxRecDepth 100000 in
theorem tX_placeOfC_2b {X : CX} (hX : gd X cX5_placeOf 4 RX5 (some .int)) (hw : isX (xw X)) (hg : nA X) (hR : xR X = rmOf 0 0 0 0) {r : Int32} {τ : St} (hr : xr X = (some (.int r), τ)) {k2 : Int32 → Int32 → St → Option (Int32 × St)} (hk2 : (∀ (v2 : Int32) (v3 : Int32) (σ : St), k2 v2 v3 σ = some (r, τ) → Jd X 4 2 [(0, .ref (wad (xw X) 7)), (1, .ref (wad (xw X) 9)), (2, .int v2), (3, .int v3)] [] σ)) (v2 : Int32) (v3 : Int32) (σ : St) (h : rX_placeOfC_2 k2 v2 v3 σ = some (r, τ)) : Jd X 4 2 [(0, .ref (wad (xw X) 7)), (1, .ref (wad (xw X) 9)), (2, .int v2), (3, .int v3)] [] σ := by
  unfold rX_placeOfC_2 at h
  refine J_iload_n (q := 3) hX dX5_placeOf_2 rfl rfl ?_
  refine J_iload_n (q := 2) hX dX5_placeOf_3 rfl rfl ?_
  refine K_icmp_ge (tgt := 35) hX dX5_placeOf_4 rfl h (fun h => ?_) (fun h => ?_)
  · refine J_sub [] rfl ?_
    exact tX_placeOfC_35 hX hw hg hR hr σ h
  · refine J_iload_n (q := 3) hX dX5_placeOf_7 rfl rfl ?_
    refine J_aload_n (q := 1) hX dX5_placeOf_8 rfl rfl ?_
    refine K_alen hX (xc_9 hw) rfl dX5_placeOf_9 ?_
    refine K_icmp_ge (tgt := 35) hX dX5_placeOf_10 rfl h (fun h => ?_) (fun h => ?_)
    · refine J_sub [] rfl ?_
      exact tX_placeOfC_35 hX hw hg hR hr σ h
    · refine J_aload_n (q := 1) hX dX5_placeOf_13 rfl rfl ?_
      refine J_iload_n (q := 3) hX dX5_placeOf_14 rfl rfl ?_
      refine K_lald hX (xc_9 hw) dX5_placeOf_15 h (fun h => ?_)
      refine J_aload_n (q := 0) hX dX5_placeOf_16 rfl rfl ?_
      refine K_getc 5 hX (xc_7 hw) cls_X5 (k := 0) (by decide) uw_1_216 rfl dX5_placeOf_17 ?_
      refine K_getl hX (xc_5 hw) cls_X8 (k := 6) (by decide) uw_1_54 rfl dX5_placeOf_20 ?_
      refine J_lcmp hX dX5_placeOf_23 ?_
      refine K_if_ne (tgt := 29) hX dX5_placeOf_24 rfl h (fun h => ?_) (fun h => ?_)
      · refine K_iinc (q := 3) (fun v3_2 => [(3, .int v3_2), (0, .ref (wad (xw X) 7)), (1, .ref (wad (xw X) 9)), (2, .int v2)]) hX dX5_placeOf_29 rfl (by decide) (fun _ => rfl) h (fun v3_2 h => ?_)
        refine J_goto (tgt := 2) hX dX5_placeOf_32 rfl ?_
        refine J_sub [1, 2, 3, 0] rfl ?_
        exact hk2 v2 v3_2 σ h
      · refine J_iload_n (q := 3) hX dX5_placeOf_27 rfl rfl ?_
        exact K_iret hX hr dX5_placeOf_28 h
def rX_placeOfC_2L : ((Int32 × Int32 × St) → Option (Int32 × St)) → (Int32 × Int32 × St) → Option (Int32 × St) := fun k a => rX_placeOfC_2 (fun v2 v3 σ => k (v2, v3, σ)) a.1 a.2.1 a.2.2
theorem tX_placeOfC_2 {X : CX} (hX : gd X cX5_placeOf 4 RX5 (some .int)) (hw : isX (xw X)) (hg : nA X) (hR : xR X = rmOf 0 0 0 0) {r : Int32} {τ : St} (hr : xr X = (some (.int r), τ)) (n : Nat) (v2 : Int32) (v3 : Int32) (σ : St) (h : lp (rX_placeOfC_2L) n (v2, v3, σ) = some (r, τ)) : Jd X 4 2 [(0, .ref (wad (xw X) 7)), (1, .ref (wad (xw X) 9)), (2, .int v2), (3, .int v3)] [] σ :=
  lp_ind (F := rX_placeOfC_2L) (P := fun a => Jd X 4 2 [(0, .ref (wad (xw X) 7)), (1, .ref (wad (xw X) 9)), (2, .int a.1), (3, .int a.2.1)] [] a.2.2) (fun k a hk h => tX_placeOfC_2b hX hw hg hR hr (fun v2 v3 σ h => hk (v2, v3, σ) h) a.1 a.2.1 a.2.2 h) n (v2, v3, σ) h

def rX_placeOfC (v2 : Int32) (σ : St) : Option (Int32 × St) :=
  nm (0 : Int32) fun v3_1 => lp (rX_placeOfC_2L) fu (v2, v3_1, σ)
set_option maxRecDepth 100000 in
theorem tX_placeOfC {X : CX} (hX : gd X cX5_placeOf 4 RX5 (some .int)) (hw : isX (xw X)) (hg : nA X) (hR : xR X = rmOf 0 0 0 0) {r : Int32} {τ : St} (hr : xr X = (some (.int r), τ)) (v2 : Int32) (σ : St) (h : rX_placeOfC v2 σ = some (r, τ)) : Jd X 4 0 [(0, .ref (wad (xw X) 7)), (1, .ref (wad (xw X) 9)), (2, .int v2)] [] σ := by
  unfold rX_placeOfC at h
  refine J_iconst (v := (0 : Int32)) hX dX5_placeOf_0 (by decide) ?_
  refine K_istore_n (fun v3_1 => [(3, .int v3_1), (0, .ref (wad (xw X) 7)), (1, .ref (wad (xw X) 9)), (2, .int v2)]) hX dX5_placeOf_1 rfl (by decide) (fun _ => rfl) h (fun v3_1 h => ?_)
  refine J_sub [1, 2, 3, 0] rfl ?_
  exact tX_placeOfC_2 hX hw hg hR hr fu v2 v3_1 σ h
theorem ctX_placeOfC {w : WT} (hw : isX w) {v2 : Int32} {σ : St} {r : Int32} {τ : St} (h : rX_placeOfC v2 σ = some (r, τ)) : Ct yX5_placeOf cX5_placeOf 4 (some .int) 0 0 w [.ref (wad w 7), .ref (wad w 9), .int v2] σ (some (.int r)) τ 0 0 :=
  Ct_intro (fun _ => (0, 0)) (by decide) rfl ⟨rfl, Nat.le_refl _⟩ (Nat.le_of_ble_eq_true rfl) (fun X hX hR hwX hg hr => by subst hwX; exact tX_placeOfC hX hw hg hR hr v2 σ h)

def rX_isToldC (v2 : Int32) (σ : St) : Option (Int32 × St) :=
  chk (decide (σ.2.2.1 5 3 < 42)) (bnd2 (rX_wcanName (σ.2.2.1 5 3) σ) fun r_4 σ_1 => brc (¬ r_4 = 0) (bnd2 (rX_placeOfC v2 σ_1) fun r_7 σ_5 => brc (¬ r_7 = (-1 : Int32)) (chk (decide ((1 : Int32) = 0 ∨ (1 : Int32) = 1)) (some ((1 : Int32), σ_5))) (bnd2 (rX_wrong (2 : Int32) σ_5) fun r_10 σ_8 => chk (decide (r_10 = 0 ∨ r_10 = 1)) (some (r_10, σ_8)))) (bnd2 (rX_wrong (1 : Int32) σ_1) fun r_13 σ_11 => chk (decide (r_13 = 0 ∨ r_13 = 1)) (some (r_13, σ_11))))
set_option maxRecDepth 100000 in
theorem tX_isToldC {X : CX} (hX : gd X cX5_isTold 3 RX5 (some .boolean)) (hw : isX (xw X)) (hg : nA X) (hR : xR X = rmOf 1 23 0 0) {r : Int32} {τ : St} (hr : xr X = (some (.int r), τ)) (v2 : Int32) (σ : St) (h : rX_isToldC v2 σ = some (r, τ)) : Jd X 3 0 [(0, .ref (wad (xw X) 7)), (1, .ref (wad (xw X) 9)), (2, .int v2)] [] σ := by
  unfold rX_isToldC at h
  refine J_aload_n (q := 0) hX dX5_isTold_0 rfl rfl ?_
  refine K_getc 5 hX (xc_7 hw) cls_X5 (k := 0) (by decide) uw_1_216 rfl dX5_isTold_1 ?_
  refine K_getw hX (xc_5 hw) cls_X8 (k := 3) (by decide) uw_1_47 rfl dX5_isTold_4 ?_
  have hb_3 := of_decide_eq_true (chk_some h).1
  replace h := (chk_some h).2
  obtain ⟨r_4, σ_1, hc_2, h⟩ := bnd2_some h
  refine K_callW [] hX hg hR (X_oW hX hw hb_3) (ctX_wcanName hw hc_2) lk_X5_245_X10_canName md_X10_canName ⟨by decide, by decide⟩ rfl rfl (Nat.le_of_ble_eq_true rfl) dX5_isTold_7 ?_
  refine K_if_ne (tgt := 19) hX dX5_isTold_10 rfl h (fun h => ?_) (fun h => ?_)
  · refine J_aload_n (q := 0) hX dX5_isTold_19 rfl rfl ?_
    refine J_aload_n (q := 1) hX dX5_isTold_20 rfl rfl ?_
    refine J_iload_n (q := 2) hX dX5_isTold_21 rfl rfl ?_
    obtain ⟨r_7, σ_5, hc_6, h⟩ := bnd2_some h
    refine K_callV [.ref (wad (xw X) 9), .int v2] hX hg hR (ctX_placeOfC hw hc_6) lk_X5_163_X5_placeOf md_X5_placeOf (xc_7 hw) cls_X5 ⟨by decide, by decide⟩ rfl rfl (Nat.le_of_ble_eq_true rfl) dX5_isTold_22 ?_
    refine J_iconst (v := (-1 : Int32)) hX dX5_isTold_25 (by decide) ?_
    refine K_icmp_ne (tgt := 35) hX dX5_isTold_26 rfl h (fun h => ?_) (fun h => ?_)
    · refine J_iconst (v := (1 : Int32)) hX dX5_isTold_35 (by decide) ?_
      exact K_zret hX hr dX5_isTold_36 h
    · refine J_aload_n (q := 0) hX dX5_isTold_29 rfl rfl ?_
      refine J_iconst (v := (2 : Int32)) hX dX5_isTold_30 (by decide) ?_
      obtain ⟨r_10, σ_8, hc_9, h⟩ := bnd2_some h
      refine K_callV [.int (2 : Int32)] hX hg hR (ctX_wrong hw hc_9) lk_X5_110_X5_wrong md_X5_wrong (xc_7 hw) cls_X5 ⟨by decide, by decide⟩ rfl rfl (Nat.le_of_ble_eq_true rfl) dX5_isTold_31 ?_
      exact K_zret hX hr dX5_isTold_34 h
  · refine J_aload_n (q := 0) hX dX5_isTold_13 rfl rfl ?_
    refine J_iconst (v := (1 : Int32)) hX dX5_isTold_14 (by decide) ?_
    obtain ⟨r_13, σ_11, hc_12, h⟩ := bnd2_some h
    refine K_callV [.int (1 : Int32)] hX hg hR (ctX_wrong hw hc_12) lk_X5_110_X5_wrong md_X5_wrong (xc_7 hw) cls_X5 ⟨by decide, by decide⟩ rfl rfl (Nat.le_of_ble_eq_true rfl) dX5_isTold_15 ?_
    exact K_zret hX hr dX5_isTold_18 h
theorem ctX_isToldC {w : WT} (hw : isX w) {v2 : Int32} {σ : St} {r : Int32} {τ : St} (h : rX_isToldC v2 σ = some (r, τ)) : Ct yX5_isTold cX5_isTold 3 (some .boolean) 1 23 w [.ref (wad w 7), .ref (wad w 9), .int v2] σ (some (.int r)) τ 0 0 :=
  Ct_intro (fun _ => (0, 0)) (by decide) rfl ⟨rfl, Nat.le_refl _⟩ (Nat.le_of_ble_eq_true rfl) (fun X hX hR hwX hg hr => by subst hwX; exact tX_isToldC hX hw hg hR hr v2 σ h)

def rX_takeToldC (v2 : Int32) (σ : St) : Option (Int32 × St) :=
  bnd2 (rX_isToldC v2 σ) fun r_3 σ_1 => brc (¬ r_3 = 0) (bnd2 (rX_placeOfC v2 σ_1) fun r_6 σ_4 => nm (setI σ_4 7 6 r_6) fun σ_7 => bnd1 (rX_tstep σ_7) fun σ_8 => chk (decide ((1 : Int32) = 0 ∨ (1 : Int32) = 1)) (some ((1 : Int32), σ_8))) (chk (decide ((0 : Int32) = 0 ∨ (0 : Int32) = 1)) (some ((0 : Int32), σ_1)))
set_option maxRecDepth 100000 in
theorem tX_takeToldC {X : CX} (hX : gd X cX5_takeTold 3 RX5 (some .boolean)) (hw : isX (xw X)) (hg : nA X) (hR : xR X = rmOf 7 151 0 0) {r : Int32} {τ : St} (hr : xr X = (some (.int r), τ)) (v2 : Int32) (σ : St) (h : rX_takeToldC v2 σ = some (r, τ)) : Jd X 3 0 [(0, .ref (wad (xw X) 7)), (1, .ref (wad (xw X) 9)), (2, .int v2)] [] σ := by
  unfold rX_takeToldC at h
  refine J_aload_n (q := 0) hX dX5_takeTold_0 rfl rfl ?_
  refine J_aload_n (q := 1) hX dX5_takeTold_1 rfl rfl ?_
  refine J_iload_n (q := 2) hX dX5_takeTold_2 rfl rfl ?_
  obtain ⟨r_3, σ_1, hc_2, h⟩ := bnd2_some h
  refine K_callV [.ref (wad (xw X) 9), .int v2] hX hg hR (ctX_isToldC hw hc_2) lk_X5_160_X5_isTold md_X5_isTold (xc_7 hw) cls_X5 ⟨by decide, by decide⟩ rfl rfl (Nat.le_of_ble_eq_true rfl) dX5_takeTold_3 ?_
  refine K_if_ne (tgt := 11) hX dX5_takeTold_6 rfl h (fun h => ?_) (fun h => ?_)
  · refine J_aload_n (q := 0) hX dX5_takeTold_11 rfl rfl ?_
    refine J_aload_n (q := 0) hX dX5_takeTold_12 rfl rfl ?_
    refine J_aload_n (q := 1) hX dX5_takeTold_13 rfl rfl ?_
    refine J_iload_n (q := 2) hX dX5_takeTold_14 rfl rfl ?_
    obtain ⟨r_6, σ_4, hc_5, h⟩ := bnd2_some h
    refine K_callV [.ref (wad (xw X) 9), .int v2] hX hg hR (ctX_placeOfC hw hc_5) lk_X5_163_X5_placeOf md_X5_placeOf (xc_7 hw) cls_X5 ⟨by decide, by decide⟩ rfl rfl (Nat.le_of_ble_eq_true rfl) dX5_takeTold_15 ?_
    refine K_puti hX (xc_7 hw) cls_X5 (k := 6) (by decide) uw_1_222 rfl rfl rfl dX5_takeTold_18 h (fun σ_7 h => ?_)
    refine J_aload_n (q := 0) hX dX5_takeTold_21 rfl rfl ?_
    refine K_getc 5 hX (xc_7 hw) cls_X5 (k := 0) (by decide) uw_1_216 rfl dX5_takeTold_22 ?_
    obtain ⟨σ_8, hc_9, h⟩ := bnd1_some h
    refine K_callV [] hX hg hR (ctX_tstep hw hc_9) lk_X5_123_X8_step md_X8_step (xc_5 hw) cls_X8 ⟨by decide, by decide⟩ rfl rfl (Nat.le_of_ble_eq_true rfl) dX5_takeTold_25 ?_
    refine J_iconst (v := (1 : Int32)) hX dX5_takeTold_28 (by decide) ?_
    exact K_zret hX hr dX5_takeTold_29 h
  · refine J_iconst (v := (0 : Int32)) hX dX5_takeTold_9 (by decide) ?_
    exact K_zret hX hr dX5_takeTold_10 h
theorem ctX_takeToldC {w : WT} (hw : isX w) {v2 : Int32} {σ : St} {r : Int32} {τ : St} (h : rX_takeToldC v2 σ = some (r, τ)) : Ct yX5_takeTold cX5_takeTold 3 (some .boolean) 7 151 w [.ref (wad w 7), .ref (wad w 9), .int v2] σ (some (.int r)) τ 0 0 :=
  Ct_intro (fun _ => (0, 0)) (by decide) rfl ⟨rfl, Nat.le_refl _⟩ (Nat.le_of_ble_eq_true rfl) (fun X hX hR hwX hg hr => by subst hwX; exact tX_takeToldC hX hw hg hR hr v2 σ h)

def rX_isNewName_57 (σ : St) : Option (Int32 × St) :=
  bnd2 (rX_wrong (3 : Int32) σ) fun r_10 σ_8 => chk (decide (r_10 = 0 ∨ r_10 = 1)) (some (r_10, σ_8))
set_option maxRecDepth 100000 in
theorem tX_isNewName_57 {X : CX} (hX : gd X cX5_isNewName 1 RX5 (some .boolean)) (hw : isX (xw X)) (hg : nA X) (hR : xR X = rmOf 1 23 0 0) {r : Int32} {τ : St} (hr : xr X = (some (.int r), τ)) (σ : St) (h : rX_isNewName_57 σ = some (r, τ)) : Jd X 1 57 [(0, .ref (wad (xw X) 7))] [] σ := by
  unfold rX_isNewName_57 at h
  refine J_aload_n (q := 0) hX dX5_isNewName_57 rfl rfl ?_
  refine J_iconst (v := (3 : Int32)) hX dX5_isNewName_58 (by decide) ?_
  obtain ⟨r_10, σ_8, hc_9, h⟩ := bnd2_some h
  refine K_callV [.int (3 : Int32)] hX hg hR (ctX_wrong hw hc_9) lk_X5_110_X5_wrong md_X5_wrong (xc_7 hw) cls_X5 ⟨by decide, by decide⟩ rfl rfl (Nat.le_of_ble_eq_true rfl) dX5_isNewName_59 ?_
  exact K_zret hX hr dX5_isNewName_62 h

def rX_isNewName (σ : St) : Option (Int32 × St) :=
  chk (decide (σ.2.2.1 5 3 < 42)) (bnd2 (rX_wcanName (σ.2.2.1 5 3) σ) fun r_4 σ_1 => brc (¬ r_4 = 0) (bnd2 (rX_placeOfS (σ_1.1 10 0) σ_1) fun r_7 σ_5 => brc (¬ r_7 = (-1 : Int32)) (rX_isNewName_57 σ_5) (bnd2 (rX_placeOfC (σ_5.1 10 2) σ_5) fun r_13 σ_11 => brc (r_13 = (-1 : Int32)) (chk (decide ((1 : Int32) = 0 ∨ (1 : Int32) = 1)) (some ((1 : Int32), σ_11))) (rX_isNewName_57 σ_11))) (bnd2 (rX_wrong (1 : Int32) σ_1) fun r_16 σ_14 => chk (decide (r_16 = 0 ∨ r_16 = 1)) (some (r_16, σ_14))))
set_option maxRecDepth 100000 in
theorem tX_isNewName {X : CX} (hX : gd X cX5_isNewName 1 RX5 (some .boolean)) (hw : isX (xw X)) (hg : nA X) (hR : xR X = rmOf 1 23 0 0) {r : Int32} {τ : St} (hr : xr X = (some (.int r), τ)) (σ : St) (h : rX_isNewName σ = some (r, τ)) : Jd X 1 0 [(0, .ref (wad (xw X) 7))] [] σ := by
  unfold rX_isNewName at h
  refine J_aload_n (q := 0) hX dX5_isNewName_0 rfl rfl ?_
  refine K_getc 5 hX (xc_7 hw) cls_X5 (k := 0) (by decide) uw_1_216 rfl dX5_isNewName_1 ?_
  refine K_getw hX (xc_5 hw) cls_X8 (k := 3) (by decide) uw_1_47 rfl dX5_isNewName_4 ?_
  have hb_3 := of_decide_eq_true (chk_some h).1
  replace h := (chk_some h).2
  obtain ⟨r_4, σ_1, hc_2, h⟩ := bnd2_some h
  refine K_callW [] hX hg hR (X_oW hX hw hb_3) (ctX_wcanName hw hc_2) lk_X5_245_X10_canName md_X10_canName ⟨by decide, by decide⟩ rfl rfl (Nat.le_of_ble_eq_true rfl) dX5_isNewName_7 ?_
  refine K_if_ne (tgt := 19) hX dX5_isNewName_10 rfl h (fun h => ?_) (fun h => ?_)
  · refine J_aload_n (q := 0) hX dX5_isNewName_19 rfl rfl ?_
    refine J_aload_n (q := 0) hX dX5_isNewName_20 rfl rfl ?_
    refine K_getc 8 hX (xc_7 hw) cls_X5 (k := 2) (by decide) uw_1_218 rfl dX5_isNewName_21 ?_
    refine J_aload_n (q := 0) hX dX5_isNewName_24 rfl rfl ?_
    refine K_getc 10 hX (xc_7 hw) cls_X5 (k := 7) (by decide) uw_1_223 rfl dX5_isNewName_25 ?_
    refine K_geti hX (xc_10 hw) cls_X3 (k := 0) (by decide) uw_1_90 rfl dX5_isNewName_28 ?_
    obtain ⟨r_7, σ_5, hc_6, h⟩ := bnd2_some h
    refine K_callV [.ref (wad (xw X) 8), .int (σ_1.1 10 0)] hX hg hR (ctX_placeOfS hw hc_6) lk_X5_163_X5_placeOf md_X5_placeOf (xc_7 hw) cls_X5 ⟨by decide, by decide⟩ rfl rfl (Nat.le_of_ble_eq_true rfl) dX5_isNewName_31 ?_
    refine J_iconst (v := (-1 : Int32)) hX dX5_isNewName_34 (by decide) ?_
    refine K_icmp_ne (tgt := 57) hX dX5_isNewName_35 rfl h (fun h => ?_) (fun h => ?_)
    · refine J_sub [0] rfl ?_
      exact tX_isNewName_57 hX hw hg hR hr σ_5 h
    · refine J_aload_n (q := 0) hX dX5_isNewName_38 rfl rfl ?_
      refine J_aload_n (q := 0) hX dX5_isNewName_39 rfl rfl ?_
      refine K_getc 9 hX (xc_7 hw) cls_X5 (k := 3) (by decide) uw_1_219 rfl dX5_isNewName_40 ?_
      refine J_aload_n (q := 0) hX dX5_isNewName_43 rfl rfl ?_
      refine K_getc 10 hX (xc_7 hw) cls_X5 (k := 7) (by decide) uw_1_223 rfl dX5_isNewName_44 ?_
      refine K_geti hX (xc_10 hw) cls_X3 (k := 2) (by decide) uw_1_99 rfl dX5_isNewName_47 ?_
      obtain ⟨r_13, σ_11, hc_12, h⟩ := bnd2_some h
      refine K_callV [.ref (wad (xw X) 9), .int (σ_5.1 10 2)] hX hg hR (ctX_placeOfC hw hc_12) lk_X5_163_X5_placeOf md_X5_placeOf (xc_7 hw) cls_X5 ⟨by decide, by decide⟩ rfl rfl (Nat.le_of_ble_eq_true rfl) dX5_isNewName_50 ?_
      refine J_iconst (v := (-1 : Int32)) hX dX5_isNewName_53 (by decide) ?_
      refine K_icmp_eq (tgt := 63) hX dX5_isNewName_54 rfl h (fun h => ?_) (fun h => ?_)
      · refine J_iconst (v := (1 : Int32)) hX dX5_isNewName_63 (by decide) ?_
        exact K_zret hX hr dX5_isNewName_64 h
      · refine J_sub [0] rfl ?_
        exact tX_isNewName_57 hX hw hg hR hr σ_11 h
  · refine J_aload_n (q := 0) hX dX5_isNewName_13 rfl rfl ?_
    refine J_iconst (v := (1 : Int32)) hX dX5_isNewName_14 (by decide) ?_
    obtain ⟨r_16, σ_14, hc_15, h⟩ := bnd2_some h
    refine K_callV [.int (1 : Int32)] hX hg hR (ctX_wrong hw hc_15) lk_X5_110_X5_wrong md_X5_wrong (xc_7 hw) cls_X5 ⟨by decide, by decide⟩ rfl rfl (Nat.le_of_ble_eq_true rfl) dX5_isNewName_15 ?_
    exact K_zret hX hr dX5_isNewName_18 h
theorem ctX_isNewName {w : WT} (hw : isX w) {σ : St} {r : Int32} {τ : St} (h : rX_isNewName σ = some (r, τ)) : Ct yX5_isNewName cX5_isNewName 1 (some .boolean) 1 23 w [.ref (wad w 7)] σ (some (.int r)) τ 0 0 :=
  Ct_intro (fun _ => (0, 0)) (by decide) rfl ⟨rfl, Nat.le_refl _⟩ (Nat.le_of_ble_eq_true rfl) (fun X hX hR hwX hg hr => by subst hwX; exact tX_isNewName hX hw hg hR hr  σ h)

def rX_readStation_76 (σ : St) : Option (Int32 × St) :=
  chk (decide ((0 : Int32) = 0 ∨ (0 : Int32) = 1)) (some ((0 : Int32), σ))
set_option maxRecDepth 100000 in
theorem tX_readStation_76 {X : CX} (hX : gd X cX5_readStation 2 RX5 (some .boolean)) (hw : isX (xw X)) (hg : nA X) (hR : xR X = rmOf 8 173 0 0) {r : Int32} {τ : St} (hr : xr X = (some (.int r), τ)) (σ : St) (h : rX_readStation_76 σ = some (r, τ)) : Jd X 2 76 [] [] σ := by
  unfold rX_readStation_76 at h
  refine J_iconst (v := (0 : Int32)) hX dX5_readStation_76 (by decide) ?_
  exact K_zret hX hr dX5_readStation_77 h

def rX_readStation_111 (σ : St) : Option (Int32 × St) :=
  chk (decide ((0 : Int32) = 0 ∨ (0 : Int32) = 1)) (some ((0 : Int32), σ))
set_option maxRecDepth 100000 in
theorem tX_readStation_111 {X : CX} (hX : gd X cX5_readStation 2 RX5 (some .boolean)) (hw : isX (xw X)) (hg : nA X) (hR : xR X = rmOf 8 173 0 0) {r : Int32} {τ : St} (hr : xr X = (some (.int r), τ)) (σ : St) (h : rX_readStation_111 σ = some (r, τ)) : Jd X 2 111 [] [] σ := by
  unfold rX_readStation_111 at h
  refine J_iconst (v := (0 : Int32)) hX dX5_readStation_111 (by decide) ?_
  exact K_zret hX hr dX5_readStation_112 h

def rX_readStation (σ : St) : Option (Int32 × St) :=
  nm (σ.1 10 0) fun v1_1 => brc (v1_1 < (7 : Int32)) (bnd1 (rX_tstep σ) fun σ_2 => bnd2 (rX_isNewName σ_2) fun r_6 σ_4 => brc (¬ r_6 = 0) (chk (ib v1_1 7) (nm (setJ σ_4 8 v1_1.toNatClampNeg (σ_4.2.1 5 6)) fun σ_7 => bnd1 (rX_tstep σ_7) fun σ_8 => bnd2 (rX_take 1 σ_8) fun r_12 σ_10 => brc (r_12 = 0) (rX_readStation_76 σ_10) (bnd2 (rX_takeNumber (0 : Int32) (99 : Int32) σ_10) fun r_15 σ_13 => brc (¬ r_15 = 0) (chk (ib v1_1 7) (nm (setI σ_13 11 v1_1.toNatClampNeg (σ_13.1 7 6)) fun σ_16 => bnd2 (rX_take 2 σ_16) fun r_19 σ_17 => brc (r_19 = 0) (rX_readStation_111 σ_17) (bnd2 (rX_takeNumber (0 : Int32) (9 : Int32) σ_17) fun r_22 σ_20 => brc (¬ r_22 = 0) (chk (ib v1_1 7) (nm (setI σ_20 12 v1_1.toNatClampNeg (σ_20.1 7 6)) fun σ_23 => nm (setI σ_23 10 0 ((σ_23.1 10 0) + (1 : Int32))) fun σ_24 => chk (decide ((1 : Int32) = 0 ∨ (1 : Int32) = 1)) (some ((1 : Int32), σ_24)))) (rX_readStation_111 σ_20)))) (rX_readStation_76 σ_13)))) (chk (decide ((0 : Int32) = 0 ∨ (0 : Int32) = 1)) (some ((0 : Int32), σ_4)))) (bnd2 (rX_wrong (5 : Int32) σ) fun r_27 σ_25 => chk (decide (r_27 = 0 ∨ r_27 = 1)) (some (r_27, σ_25)))
set_option maxRecDepth 100000 in
theorem tX_readStation {X : CX} (hX : gd X cX5_readStation 2 RX5 (some .boolean)) (hw : isX (xw X)) (hg : nA X) (hR : xR X = rmOf 8 173 0 0) {r : Int32} {τ : St} (hr : xr X = (some (.int r), τ)) (σ : St) (h : rX_readStation σ = some (r, τ)) : Jd X 2 0 [(0, .ref (wad (xw X) 7))] [] σ := by
  unfold rX_readStation at h
  refine J_aload_n (q := 0) hX dX5_readStation_0 rfl rfl ?_
  refine K_getc 10 hX (xc_7 hw) cls_X5 (k := 7) (by decide) uw_1_223 rfl dX5_readStation_1 ?_
  refine K_geti hX (xc_10 hw) cls_X3 (k := 0) (by decide) uw_1_90 rfl dX5_readStation_4 ?_
  refine K_istore_n (fun v1_1 => [(1, .int v1_1), (0, .ref (wad (xw X) 7))]) hX dX5_readStation_7 rfl (by decide) (fun _ => rfl) h (fun v1_1 h => ?_)
  refine J_iload_n (q := 0) hX dX5_readStation_8 rfl rfl ?_
  refine J_bipush (v := (7 : Int32)) hX dX5_readStation_9 (by decide) ?_
  refine K_icmp_lt (tgt := 20) hX dX5_readStation_11 rfl h (fun h => ?_) (fun h => ?_)
  · refine J_aload_n (q := 1) hX dX5_readStation_20 rfl rfl ?_
    refine K_getc 5 hX (xc_7 hw) cls_X5 (k := 0) (by decide) uw_1_216 rfl dX5_readStation_21 ?_
    obtain ⟨σ_2, hc_3, h⟩ := bnd1_some h
    refine K_callV [] hX hg hR (ctX_tstep hw hc_3) lk_X5_123_X8_step md_X8_step (xc_5 hw) cls_X8 ⟨by decide, by decide⟩ rfl rfl (Nat.le_of_ble_eq_true rfl) dX5_readStation_24 ?_
    refine J_aload_n (q := 1) hX dX5_readStation_27 rfl rfl ?_
    obtain ⟨r_6, σ_4, hc_5, h⟩ := bnd2_some h
    refine K_callV [] hX hg hR (ctX_isNewName hw hc_5) lk_X5_126_X5_isNewName md_X5_isNewName (xc_7 hw) cls_X5 ⟨by decide, by decide⟩ rfl rfl (Nat.le_of_ble_eq_true rfl) dX5_readStation_28 ?_
    refine K_if_ne (tgt := 36) hX dX5_readStation_31 rfl h (fun h => ?_) (fun h => ?_)
    · refine J_aload_n (q := 1) hX dX5_readStation_36 rfl rfl ?_
      refine K_getc 8 hX (xc_7 hw) cls_X5 (k := 2) (by decide) uw_1_218 rfl dX5_readStation_37 ?_
      refine J_iload_n (q := 0) hX dX5_readStation_40 rfl rfl ?_
      refine J_aload_n (q := 1) hX dX5_readStation_41 rfl rfl ?_
      refine K_getc 5 hX (xc_7 hw) cls_X5 (k := 0) (by decide) uw_1_216 rfl dX5_readStation_42 ?_
      refine K_getl hX (xc_5 hw) cls_X8 (k := 6) (by decide) uw_1_54 rfl dX5_readStation_45 ?_
      refine K_last hX (xc_8 hw) dX5_readStation_48 h (fun σ_7 h => ?_)
      refine J_aload_n (q := 1) hX dX5_readStation_49 rfl rfl ?_
      refine K_getc 5 hX (xc_7 hw) cls_X5 (k := 0) (by decide) uw_1_216 rfl dX5_readStation_50 ?_
      obtain ⟨σ_8, hc_9, h⟩ := bnd1_some h
      refine K_callV [] hX hg hR (ctX_tstep hw hc_9) lk_X5_123_X8_step md_X8_step (xc_5 hw) cls_X8 ⟨by decide, by decide⟩ rfl rfl (Nat.le_of_ble_eq_true rfl) dX5_readStation_53 ?_
      refine J_aload_n (q := 1) hX dX5_readStation_56 rfl rfl ?_
      refine K_gWord 1 hX hw (by decide) uw_3_188 dX5_readStation_57 ?_
      obtain ⟨r_12, σ_10, hc_11, h⟩ := bnd2_some h
      refine K_callV [.ref (wadW (xw X) 1)] hX hg hR (ctX_take hw hc_11) lk_X5_117_X5_take md_X5_take (xc_7 hw) cls_X5 ⟨by decide, by decide⟩ rfl rfl (Nat.le_of_ble_eq_true rfl) dX5_readStation_60 ?_
      refine K_if_eq (tgt := 76) hX dX5_readStation_63 rfl h (fun h => ?_) (fun h => ?_)
      · refine J_sub [] rfl ?_
        exact tX_readStation_76 hX hw hg hR hr σ_10 h
      · refine J_aload_n (q := 1) hX dX5_readStation_66 rfl rfl ?_
        refine J_iconst (v := (0 : Int32)) hX dX5_readStation_67 (by decide) ?_
        refine J_bipush (v := (99 : Int32)) hX dX5_readStation_68 (by decide) ?_
        obtain ⟨r_15, σ_13, hc_14, h⟩ := bnd2_some h
        refine K_callV [.int (0 : Int32), .int (99 : Int32)] hX hg hR (ctX_takeNumber hw hc_14) lk_X5_136_X5_takeNumber md_X5_takeNumber (xc_7 hw) cls_X5 ⟨by decide, by decide⟩ rfl rfl (Nat.le_of_ble_eq_true rfl) dX5_readStation_70 ?_
        refine K_if_ne (tgt := 78) hX dX5_readStation_73 rfl h (fun h => ?_) (fun h => ?_)
        · refine J_aload_n (q := 1) hX dX5_readStation_78 rfl rfl ?_
          refine K_getc 10 hX (xc_7 hw) cls_X5 (k := 7) (by decide) uw_1_223 rfl dX5_readStation_79 ?_
          refine K_getc 11 hX (xc_10 hw) cls_X3 (k := 3) (by decide) uw_1_102 rfl dX5_readStation_82 ?_
          refine J_iload_n (q := 0) hX dX5_readStation_85 rfl rfl ?_
          refine J_aload_n (q := 1) hX dX5_readStation_86 rfl rfl ?_
          refine K_geti hX (xc_7 hw) cls_X5 (k := 6) (by decide) uw_1_222 rfl dX5_readStation_87 ?_
          refine K_iast hX (xc_11 hw) dX5_readStation_90 h (fun σ_16 h => ?_)
          refine J_aload_n (q := 1) hX dX5_readStation_91 rfl rfl ?_
          refine K_gWord 2 hX hw (by decide) uw_3_199 dX5_readStation_92 ?_
          obtain ⟨r_19, σ_17, hc_18, h⟩ := bnd2_some h
          refine K_callV [.ref (wadW (xw X) 2)] hX hg hR (ctX_take hw hc_18) lk_X5_117_X5_take md_X5_take (xc_7 hw) cls_X5 ⟨by decide, by decide⟩ rfl rfl (Nat.le_of_ble_eq_true rfl) dX5_readStation_95 ?_
          refine K_if_eq (tgt := 111) hX dX5_readStation_98 rfl h (fun h => ?_) (fun h => ?_)
          · refine J_sub [] rfl ?_
            exact tX_readStation_111 hX hw hg hR hr σ_17 h
          · refine J_aload_n (q := 1) hX dX5_readStation_101 rfl rfl ?_
            refine J_iconst (v := (0 : Int32)) hX dX5_readStation_102 (by decide) ?_
            refine J_bipush (v := (9 : Int32)) hX dX5_readStation_103 (by decide) ?_
            obtain ⟨r_22, σ_20, hc_21, h⟩ := bnd2_some h
            refine K_callV [.int (0 : Int32), .int (9 : Int32)] hX hg hR (ctX_takeNumber hw hc_21) lk_X5_136_X5_takeNumber md_X5_takeNumber (xc_7 hw) cls_X5 ⟨by decide, by decide⟩ rfl rfl (Nat.le_of_ble_eq_true rfl) dX5_readStation_105 ?_
            refine K_if_ne (tgt := 113) hX dX5_readStation_108 rfl h (fun h => ?_) (fun h => ?_)
            · refine J_aload_n (q := 1) hX dX5_readStation_113 rfl rfl ?_
              refine K_getc 10 hX (xc_7 hw) cls_X5 (k := 7) (by decide) uw_1_223 rfl dX5_readStation_114 ?_
              refine K_getc 12 hX (xc_10 hw) cls_X3 (k := 4) (by decide) uw_1_107 rfl dX5_readStation_117 ?_
              refine J_iload_n (q := 0) hX dX5_readStation_120 rfl rfl ?_
              refine J_aload_n (q := 1) hX dX5_readStation_121 rfl rfl ?_
              refine K_geti hX (xc_7 hw) cls_X5 (k := 6) (by decide) uw_1_222 rfl dX5_readStation_122 ?_
              refine K_iast hX (xc_12 hw) dX5_readStation_125 h (fun σ_23 h => ?_)
              refine J_aload_n (q := 1) hX dX5_readStation_126 rfl rfl ?_
              refine K_getc 10 hX (xc_7 hw) cls_X5 (k := 7) (by decide) uw_1_223 rfl dX5_readStation_127 ?_
              refine J_dup hX dX5_readStation_130 rfl ?_
              refine K_geti hX (xc_10 hw) cls_X3 (k := 0) (by decide) uw_1_90 rfl dX5_readStation_131 ?_
              refine J_iconst (v := (1 : Int32)) hX dX5_readStation_134 (by decide) ?_
              refine J_iadd hX dX5_readStation_135 ?_
              refine K_puti hX (xc_10 hw) cls_X3 (k := 0) (by decide) uw_1_90 rfl rfl rfl dX5_readStation_136 h (fun σ_24 h => ?_)
              refine J_iconst (v := (1 : Int32)) hX dX5_readStation_139 (by decide) ?_
              exact K_zret hX hr dX5_readStation_140 h
            · refine J_sub [] rfl ?_
              exact tX_readStation_111 hX hw hg hR hr σ_20 h
        · refine J_sub [] rfl ?_
          exact tX_readStation_76 hX hw hg hR hr σ_13 h
    · refine J_iconst (v := (0 : Int32)) hX dX5_readStation_34 (by decide) ?_
      exact K_zret hX hr dX5_readStation_35 h
  · refine J_aload_n (q := 1) hX dX5_readStation_14 rfl rfl ?_
    refine J_iconst (v := (5 : Int32)) hX dX5_readStation_15 (by decide) ?_
    obtain ⟨r_27, σ_25, hc_26, h⟩ := bnd2_some h
    refine K_callV [.int (5 : Int32)] hX hg hR (ctX_wrong hw hc_26) lk_X5_110_X5_wrong md_X5_wrong (xc_7 hw) cls_X5 ⟨by decide, by decide⟩ rfl rfl (Nat.le_of_ble_eq_true rfl) dX5_readStation_16 ?_
    exact K_zret hX hr dX5_readStation_19 h
theorem ctX_readStation {w : WT} (hw : isX w) {σ : St} {r : Int32} {τ : St} (h : rX_readStation σ = some (r, τ)) : Ct yX5_readStation cX5_readStation 2 (some .boolean) 8 173 w [.ref (wad w 7)] σ (some (.int r)) τ 0 0 :=
  Ct_intro (fun _ => (0, 0)) (by decide) rfl ⟨rfl, Nat.le_refl _⟩ (Nat.le_of_ble_eq_true rfl) (fun X hX hR hwX hg hr => by subst hwX; exact tX_readStation hX hw hg hR hr  σ h)

def rX_readWay_103 (σ : St) : Option (Int32 × St) :=
  bnd2 (rX_wrong (3 : Int32) σ) fun r_16 σ_14 => chk (decide (r_16 = 0 ∨ r_16 = 1)) (some (r_16, σ_14))
set_option maxRecDepth 100000 in
theorem tX_readWay_103 {X : CX} (hX : gd X cX5_readWay 4 RX5 (some .boolean)) (hw : isX (xw X)) (hg : nA X) (hR : xR X = rmOf 8 173 0 0) {r : Int32} {τ : St} (hr : xr X = (some (.int r), τ)) (σ : St) (h : rX_readWay_103 σ = some (r, τ)) : Jd X 4 103 [(0, .ref (wad (xw X) 7))] [] σ := by
  unfold rX_readWay_103 at h
  refine J_aload_n (q := 0) hX dX5_readWay_103 rfl rfl ?_
  refine J_iconst (v := (3 : Int32)) hX dX5_readWay_104 (by decide) ?_
  obtain ⟨r_16, σ_14, hc_15, h⟩ := bnd2_some h
  refine K_callV [.int (3 : Int32)] hX hg hR (ctX_wrong hw hc_15) lk_X5_110_X5_wrong md_X5_wrong (xc_7 hw) cls_X5 ⟨by decide, by decide⟩ rfl rfl (Nat.le_of_ble_eq_true rfl) dX5_readWay_105 ?_
  exact K_zret hX hr dX5_readWay_108 h

def rX_readWay_136 (σ : St) : Option (Int32 × St) :=
  chk (decide ((0 : Int32) = 0 ∨ (0 : Int32) = 1)) (some ((0 : Int32), σ))
set_option maxRecDepth 100000 in
theorem tX_readWay_136 {X : CX} (hX : gd X cX5_readWay 4 RX5 (some .boolean)) (hw : isX (xw X)) (hg : nA X) (hR : xR X = rmOf 8 173 0 0) {r : Int32} {τ : St} (hr : xr X = (some (.int r), τ)) (σ : St) (h : rX_readWay_136 σ = some (r, τ)) : Jd X 4 136 [] [] σ := by
  unfold rX_readWay_136 at h
  refine J_iconst (v := (0 : Int32)) hX dX5_readWay_136 (by decide) ?_
  exact K_zret hX hr dX5_readWay_137 h

def rX_readWay_163 (σ : St) : Option (Int32 × St) :=
  chk (decide ((0 : Int32) = 0 ∨ (0 : Int32) = 1)) (some ((0 : Int32), σ))
set_option maxRecDepth 100000 in
theorem tX_readWay_163 {X : CX} (hX : gd X cX5_readWay 4 RX5 (some .boolean)) (hw : isX (xw X)) (hg : nA X) (hR : xR X = rmOf 8 173 0 0) {r : Int32} {τ : St} (hr : xr X = (some (.int r), τ)) (σ : St) (h : rX_readWay_163 σ = some (r, τ)) : Jd X 4 163 [] [] σ := by
  unfold rX_readWay_163 at h
  refine J_iconst (v := (0 : Int32)) hX dX5_readWay_163 (by decide) ?_
  exact K_zret hX hr dX5_readWay_164 h

def rX_readWay (σ : St) : Option (Int32 × St) :=
  brc ((σ.1 10 1) < (12 : Int32)) (bnd1 (rX_tstep σ) fun σ_1 => bnd2 (rX_takeToldS (σ_1.1 10 0) σ_1) fun r_5 σ_3 => brc (¬ r_5 = 0) (nm (σ_3.1 7 6) fun v1_6 => bnd2 (rX_isToldS (σ_3.1 10 0) σ_3) fun r_9 σ_7 => brc (¬ r_9 = 0) (bnd2 (rX_placeOfS (σ_7.1 10 0) σ_7) fun r_12 σ_10 => nm r_12 fun v2_13 => brc (v1_6 = v2_13) (rX_readWay_103 σ_10) (bnd2 (rX_hasWayD v1_6 v2_13 σ_10) fun r_19 σ_17 => brc (r_19 = 0) (bnd1 (rX_tstep σ_17) fun σ_20 => bnd2 (rX_take 4 σ_20) fun r_24 σ_22 => brc (r_24 = 0) (rX_readWay_136 σ_22) (bnd2 (rX_takeNumber (1 : Int32) (99 : Int32) σ_22) fun r_27 σ_25 => brc (¬ r_27 = 0) (nm (σ_25.1 7 6) fun v3_28 => bnd2 (rX_take 5 σ_25) fun r_31 σ_29 => brc (r_31 = 0) (rX_readWay_163 σ_29) (bnd2 (rX_takeNumber (0 : Int32) (9 : Int32) σ_29) fun r_34 σ_32 => brc (¬ r_34 = 0) (bnd1 (rX_tellWay v1_6 v2_13 v3_28 (σ_32.1 7 6) σ_32) fun σ_35 => chk (decide ((1 : Int32) = 0 ∨ (1 : Int32) = 1)) (some ((1 : Int32), σ_35))) (rX_readWay_163 σ_32))) (rX_readWay_136 σ_25))) (rX_readWay_103 σ_17))) (chk (decide ((0 : Int32) = 0 ∨ (0 : Int32) = 1)) (some ((0 : Int32), σ_7)))) (chk (decide ((0 : Int32) = 0 ∨ (0 : Int32) = 1)) (some ((0 : Int32), σ_3)))) (bnd2 (rX_wrong (5 : Int32) σ) fun r_39 σ_37 => chk (decide (r_39 = 0 ∨ r_39 = 1)) (some (r_39, σ_37)))
set_option maxRecDepth 100000 in
theorem tX_readWay {X : CX} (hX : gd X cX5_readWay 4 RX5 (some .boolean)) (hw : isX (xw X)) (hg : nA X) (hR : xR X = rmOf 8 173 0 0) {r : Int32} {τ : St} (hr : xr X = (some (.int r), τ)) (σ : St) (h : rX_readWay σ = some (r, τ)) : Jd X 4 0 [(0, .ref (wad (xw X) 7))] [] σ := by
  unfold rX_readWay at h
  refine J_aload_n (q := 0) hX dX5_readWay_0 rfl rfl ?_
  refine K_getc 10 hX (xc_7 hw) cls_X5 (k := 7) (by decide) uw_1_223 rfl dX5_readWay_1 ?_
  refine K_geti hX (xc_10 hw) cls_X3 (k := 1) (by decide) uw_1_93 rfl dX5_readWay_4 ?_
  refine J_bipush (v := (12 : Int32)) hX dX5_readWay_7 (by decide) ?_
  refine K_icmp_lt (tgt := 18) hX dX5_readWay_9 rfl h (fun h => ?_) (fun h => ?_)
  · refine J_aload_n (q := 0) hX dX5_readWay_18 rfl rfl ?_
    refine K_getc 5 hX (xc_7 hw) cls_X5 (k := 0) (by decide) uw_1_216 rfl dX5_readWay_19 ?_
    obtain ⟨σ_1, hc_2, h⟩ := bnd1_some h
    refine K_callV [] hX hg hR (ctX_tstep hw hc_2) lk_X5_123_X8_step md_X8_step (xc_5 hw) cls_X8 ⟨by decide, by decide⟩ rfl rfl (Nat.le_of_ble_eq_true rfl) dX5_readWay_22 ?_
    refine J_aload_n (q := 0) hX dX5_readWay_25 rfl rfl ?_
    refine J_aload_n (q := 0) hX dX5_readWay_26 rfl rfl ?_
    refine K_getc 8 hX (xc_7 hw) cls_X5 (k := 2) (by decide) uw_1_218 rfl dX5_readWay_27 ?_
    refine J_aload_n (q := 0) hX dX5_readWay_30 rfl rfl ?_
    refine K_getc 10 hX (xc_7 hw) cls_X5 (k := 7) (by decide) uw_1_223 rfl dX5_readWay_31 ?_
    refine K_geti hX (xc_10 hw) cls_X3 (k := 0) (by decide) uw_1_90 rfl dX5_readWay_34 ?_
    obtain ⟨r_5, σ_3, hc_4, h⟩ := bnd2_some h
    refine K_callV [.ref (wad (xw X) 8), .int (σ_1.1 10 0)] hX hg hR (ctX_takeToldS hw hc_4) lk_X5_156_X5_takeTold md_X5_takeTold (xc_7 hw) cls_X5 ⟨by decide, by decide⟩ rfl rfl (Nat.le_of_ble_eq_true rfl) dX5_readWay_37 ?_
    refine K_if_ne (tgt := 45) hX dX5_readWay_40 rfl h (fun h => ?_) (fun h => ?_)
    · refine J_aload_n (q := 0) hX dX5_readWay_45 rfl rfl ?_
      refine K_geti hX (xc_7 hw) cls_X5 (k := 6) (by decide) uw_1_222 rfl dX5_readWay_46 ?_
      refine K_istore_n (fun v1_6 => [(1, .int v1_6), (0, .ref (wad (xw X) 7))]) hX dX5_readWay_49 rfl (by decide) (fun _ => rfl) h (fun v1_6 h => ?_)
      refine J_aload_n (q := 1) hX dX5_readWay_50 rfl rfl ?_
      refine J_aload_n (q := 1) hX dX5_readWay_51 rfl rfl ?_
      refine K_getc 8 hX (xc_7 hw) cls_X5 (k := 2) (by decide) uw_1_218 rfl dX5_readWay_52 ?_
      refine J_aload_n (q := 1) hX dX5_readWay_55 rfl rfl ?_
      refine K_getc 10 hX (xc_7 hw) cls_X5 (k := 7) (by decide) uw_1_223 rfl dX5_readWay_56 ?_
      refine K_geti hX (xc_10 hw) cls_X3 (k := 0) (by decide) uw_1_90 rfl dX5_readWay_59 ?_
      obtain ⟨r_9, σ_7, hc_8, h⟩ := bnd2_some h
      refine K_callV [.ref (wad (xw X) 8), .int (σ_3.1 10 0)] hX hg hR (ctX_isToldS hw hc_8) lk_X5_160_X5_isTold md_X5_isTold (xc_7 hw) cls_X5 ⟨by decide, by decide⟩ rfl rfl (Nat.le_of_ble_eq_true rfl) dX5_readWay_62 ?_
      refine K_if_ne (tgt := 70) hX dX5_readWay_65 rfl h (fun h => ?_) (fun h => ?_)
      · refine J_aload_n (q := 1) hX dX5_readWay_70 rfl rfl ?_
        refine J_aload_n (q := 1) hX dX5_readWay_71 rfl rfl ?_
        refine K_getc 8 hX (xc_7 hw) cls_X5 (k := 2) (by decide) uw_1_218 rfl dX5_readWay_72 ?_
        refine J_aload_n (q := 1) hX dX5_readWay_75 rfl rfl ?_
        refine K_getc 10 hX (xc_7 hw) cls_X5 (k := 7) (by decide) uw_1_223 rfl dX5_readWay_76 ?_
        refine K_geti hX (xc_10 hw) cls_X3 (k := 0) (by decide) uw_1_90 rfl dX5_readWay_79 ?_
        obtain ⟨r_12, σ_10, hc_11, h⟩ := bnd2_some h
        refine K_callV [.ref (wad (xw X) 8), .int (σ_7.1 10 0)] hX hg hR (ctX_placeOfS hw hc_11) lk_X5_163_X5_placeOf md_X5_placeOf (xc_7 hw) cls_X5 ⟨by decide, by decide⟩ rfl rfl (Nat.le_of_ble_eq_true rfl) dX5_readWay_82 ?_
        refine K_istore_n (fun v2_13 => [(2, .int v2_13), (1, .int v1_6), (0, .ref (wad (xw X) 7))]) hX dX5_readWay_85 rfl (by decide) (fun _ => rfl) h (fun v2_13 h => ?_)
        refine J_iload_n (q := 1) hX dX5_readWay_86 rfl rfl ?_
        refine J_iload_n (q := 0) hX dX5_readWay_87 rfl rfl ?_
        refine K_icmp_eq (tgt := 103) hX dX5_readWay_88 rfl h (fun h => ?_) (fun h => ?_)
        · refine J_sub [2] rfl ?_
          exact tX_readWay_103 hX hw hg hR hr σ_10 h
        · refine J_aload_n (q := 2) hX dX5_readWay_91 rfl rfl ?_
          refine K_getc 10 hX (xc_7 hw) cls_X5 (k := 7) (by decide) uw_1_223 rfl dX5_readWay_92 ?_
          refine J_iload_n (q := 1) hX dX5_readWay_95 rfl rfl ?_
          refine J_iload_n (q := 0) hX dX5_readWay_96 rfl rfl ?_
          obtain ⟨r_19, σ_17, hc_18, h⟩ := bnd2_some h
          refine K_callV [.int v1_6, .int v2_13] hX hg hR (ctX_hasWayD hw hc_18) lk_X5_167_X3_hasWay md_X3_hasWay (xc_10 hw) cls_X3 ⟨by decide, by decide⟩ rfl rfl (Nat.le_of_ble_eq_true rfl) dX5_readWay_97 ?_
          refine K_if_eq (tgt := 109) hX dX5_readWay_100 rfl h (fun h => ?_) (fun h => ?_)
          · refine J_aload_n (q := 2) hX dX5_readWay_109 rfl rfl ?_
            refine K_getc 5 hX (xc_7 hw) cls_X5 (k := 0) (by decide) uw_1_216 rfl dX5_readWay_110 ?_
            obtain ⟨σ_20, hc_21, h⟩ := bnd1_some h
            refine K_callV [] hX hg hR (ctX_tstep hw hc_21) lk_X5_123_X8_step md_X8_step (xc_5 hw) cls_X8 ⟨by decide, by decide⟩ rfl rfl (Nat.le_of_ble_eq_true rfl) dX5_readWay_113 ?_
            refine J_aload_n (q := 2) hX dX5_readWay_116 rfl rfl ?_
            refine K_gWord 4 hX hw (by decide) uw_3_219 dX5_readWay_117 ?_
            obtain ⟨r_24, σ_22, hc_23, h⟩ := bnd2_some h
            refine K_callV [.ref (wadW (xw X) 4)] hX hg hR (ctX_take hw hc_23) lk_X5_117_X5_take md_X5_take (xc_7 hw) cls_X5 ⟨by decide, by decide⟩ rfl rfl (Nat.le_of_ble_eq_true rfl) dX5_readWay_120 ?_
            refine K_if_eq (tgt := 136) hX dX5_readWay_123 rfl h (fun h => ?_) (fun h => ?_)
            · refine J_sub [] rfl ?_
              exact tX_readWay_136 hX hw hg hR hr σ_22 h
            · refine J_aload_n (q := 2) hX dX5_readWay_126 rfl rfl ?_
              refine J_iconst (v := (1 : Int32)) hX dX5_readWay_127 (by decide) ?_
              refine J_bipush (v := (99 : Int32)) hX dX5_readWay_128 (by decide) ?_
              obtain ⟨r_27, σ_25, hc_26, h⟩ := bnd2_some h
              refine K_callV [.int (1 : Int32), .int (99 : Int32)] hX hg hR (ctX_takeNumber hw hc_26) lk_X5_136_X5_takeNumber md_X5_takeNumber (xc_7 hw) cls_X5 ⟨by decide, by decide⟩ rfl rfl (Nat.le_of_ble_eq_true rfl) dX5_readWay_130 ?_
              refine K_if_ne (tgt := 138) hX dX5_readWay_133 rfl h (fun h => ?_) (fun h => ?_)
              · refine J_aload_n (q := 2) hX dX5_readWay_138 rfl rfl ?_
                refine K_geti hX (xc_7 hw) cls_X5 (k := 6) (by decide) uw_1_222 rfl dX5_readWay_139 ?_
                refine K_istore_n (fun v3_28 => [(3, .int v3_28), (2, .int v2_13), (1, .int v1_6), (0, .ref (wad (xw X) 7))]) hX dX5_readWay_142 rfl (by decide) (fun _ => rfl) h (fun v3_28 h => ?_)
                refine J_aload_n (q := 3) hX dX5_readWay_143 rfl rfl ?_
                refine K_gWord 5 hX hw (by decide) uw_3_221 dX5_readWay_144 ?_
                obtain ⟨r_31, σ_29, hc_30, h⟩ := bnd2_some h
                refine K_callV [.ref (wadW (xw X) 5)] hX hg hR (ctX_take hw hc_30) lk_X5_117_X5_take md_X5_take (xc_7 hw) cls_X5 ⟨by decide, by decide⟩ rfl rfl (Nat.le_of_ble_eq_true rfl) dX5_readWay_147 ?_
                refine K_if_eq (tgt := 163) hX dX5_readWay_150 rfl h (fun h => ?_) (fun h => ?_)
                · refine J_sub [] rfl ?_
                  exact tX_readWay_163 hX hw hg hR hr σ_29 h
                · refine J_aload_n (q := 3) hX dX5_readWay_153 rfl rfl ?_
                  refine J_iconst (v := (0 : Int32)) hX dX5_readWay_154 (by decide) ?_
                  refine J_bipush (v := (9 : Int32)) hX dX5_readWay_155 (by decide) ?_
                  obtain ⟨r_34, σ_32, hc_33, h⟩ := bnd2_some h
                  refine K_callV [.int (0 : Int32), .int (9 : Int32)] hX hg hR (ctX_takeNumber hw hc_33) lk_X5_136_X5_takeNumber md_X5_takeNumber (xc_7 hw) cls_X5 ⟨by decide, by decide⟩ rfl rfl (Nat.le_of_ble_eq_true rfl) dX5_readWay_157 ?_
                  refine K_if_ne (tgt := 165) hX dX5_readWay_160 rfl h (fun h => ?_) (fun h => ?_)
                  · refine J_aload_n (q := 3) hX dX5_readWay_165 rfl rfl ?_
                    refine K_getc 10 hX (xc_7 hw) cls_X5 (k := 7) (by decide) uw_1_223 rfl dX5_readWay_166 ?_
                    refine J_iload_n (q := 2) hX dX5_readWay_169 rfl rfl ?_
                    refine J_iload_n (q := 1) hX dX5_readWay_170 rfl rfl ?_
                    refine J_iload_n (q := 0) hX dX5_readWay_171 rfl rfl ?_
                    refine J_aload_n (q := 3) hX dX5_readWay_172 rfl rfl ?_
                    refine K_geti hX (xc_7 hw) cls_X5 (k := 6) (by decide) uw_1_222 rfl dX5_readWay_173 ?_
                    obtain ⟨σ_35, hc_36, h⟩ := bnd1_some h
                    refine K_callV [.int v1_6, .int v2_13, .int v3_28, .int (σ_32.1 7 6)] hX hg hR (ctX_tellWay hw hc_36) lk_X5_176_X3_tellWay md_X3_tellWay (xc_10 hw) cls_X3 ⟨by decide, by decide⟩ rfl rfl (Nat.le_of_ble_eq_true rfl) dX5_readWay_176 ?_
                    refine J_iconst (v := (1 : Int32)) hX dX5_readWay_179 (by decide) ?_
                    exact K_zret hX hr dX5_readWay_180 h
                  · refine J_sub [] rfl ?_
                    exact tX_readWay_163 hX hw hg hR hr σ_32 h
              · refine J_sub [] rfl ?_
                exact tX_readWay_136 hX hw hg hR hr σ_25 h
          · refine J_sub [2] rfl ?_
            exact tX_readWay_103 hX hw hg hR hr σ_17 h
      · refine J_iconst (v := (0 : Int32)) hX dX5_readWay_68 (by decide) ?_
        exact K_zret hX hr dX5_readWay_69 h
    · refine J_iconst (v := (0 : Int32)) hX dX5_readWay_43 (by decide) ?_
      exact K_zret hX hr dX5_readWay_44 h
  · refine J_aload_n (q := 0) hX dX5_readWay_12 rfl rfl ?_
    refine J_iconst (v := (5 : Int32)) hX dX5_readWay_13 (by decide) ?_
    obtain ⟨r_39, σ_37, hc_38, h⟩ := bnd2_some h
    refine K_callV [.int (5 : Int32)] hX hg hR (ctX_wrong hw hc_38) lk_X5_110_X5_wrong md_X5_wrong (xc_7 hw) cls_X5 ⟨by decide, by decide⟩ rfl rfl (Nat.le_of_ble_eq_true rfl) dX5_readWay_14 ?_
    exact K_zret hX hr dX5_readWay_17 h
theorem ctX_readWay {w : WT} (hw : isX w) {σ : St} {r : Int32} {τ : St} (h : rX_readWay σ = some (r, τ)) : Ct yX5_readWay cX5_readWay 4 (some .boolean) 8 173 w [.ref (wad w 7)] σ (some (.int r)) τ 0 0 :=
  Ct_intro (fun _ => (0, 0)) (by decide) rfl ⟨rfl, Nat.le_refl _⟩ (Nat.le_of_ble_eq_true rfl) (fun X hX hR hwX hg hr => by subst hwX; exact tX_readWay hX hw hg hR hr  σ h)

def rX_readCarrier_122 (σ : St) : Option (Int32 × St) :=
  chk (decide ((0 : Int32) = 0 ∨ (0 : Int32) = 1)) (some ((0 : Int32), σ))
set_option maxRecDepth 100000 in
theorem tX_readCarrier_122 {X : CX} (hX : gd X cX5_readCarrier 2 RX5 (some .boolean)) (hw : isX (xw X)) (hg : nA X) (hR : xR X = rmOf 8 173 0 0) {r : Int32} {τ : St} (hr : xr X = (some (.int r), τ)) (σ : St) (h : rX_readCarrier_122 σ = some (r, τ)) : Jd X 2 122 [] [] σ := by
  unfold rX_readCarrier_122 at h
  refine J_iconst (v := (0 : Int32)) hX dX5_readCarrier_122 (by decide) ?_
  exact K_zret hX hr dX5_readCarrier_123 h

def rX_readCarrier_157 (σ : St) : Option (Int32 × St) :=
  chk (decide ((0 : Int32) = 0 ∨ (0 : Int32) = 1)) (some ((0 : Int32), σ))
set_option maxRecDepth 100000 in
theorem tX_readCarrier_157 {X : CX} (hX : gd X cX5_readCarrier 2 RX5 (some .boolean)) (hw : isX (xw X)) (hg : nA X) (hR : xR X = rmOf 8 173 0 0) {r : Int32} {τ : St} (hr : xr X = (some (.int r), τ)) (σ : St) (h : rX_readCarrier_157 σ = some (r, τ)) : Jd X 2 157 [] [] σ := by
  unfold rX_readCarrier_157 at h
  refine J_iconst (v := (0 : Int32)) hX dX5_readCarrier_157 (by decide) ?_
  exact K_zret hX hr dX5_readCarrier_158 h

def rX_readCarrier_192 (σ : St) : Option (Int32 × St) :=
  chk (decide ((0 : Int32) = 0 ∨ (0 : Int32) = 1)) (some ((0 : Int32), σ))
set_option maxRecDepth 100000 in
theorem tX_readCarrier_192 {X : CX} (hX : gd X cX5_readCarrier 2 RX5 (some .boolean)) (hw : isX (xw X)) (hg : nA X) (hR : xR X = rmOf 8 173 0 0) {r : Int32} {τ : St} (hr : xr X = (some (.int r), τ)) (σ : St) (h : rX_readCarrier_192 σ = some (r, τ)) : Jd X 2 192 [] [] σ := by
  unfold rX_readCarrier_192 at h
  refine J_iconst (v := (0 : Int32)) hX dX5_readCarrier_192 (by decide) ?_
  exact K_zret hX hr dX5_readCarrier_193 h

def rX_readCarrier (σ : St) : Option (Int32 × St) :=
  nm (σ.1 10 2) fun v1_1 => brc (v1_1 < (6 : Int32)) (bnd1 (rX_tstep σ) fun σ_2 => bnd2 (rX_isNewName σ_2) fun r_6 σ_4 => brc (¬ r_6 = 0) (chk (ib v1_1 6) (nm (setJ σ_4 9 v1_1.toNatClampNeg (σ_4.2.1 5 6)) fun σ_7 => bnd1 (rX_tstep σ_7) fun σ_8 => chk (decide (σ_8.2.2.1 5 3 < 42)) (brc ((wdS.getD (σ_8.2.2.1 5 3) 0) = (1 : Int32)) (chk (decide (σ_8.2.2.1 5 3 < 42)) (chk (ib v1_1 6) (nm (setI σ_8 15 v1_1.toNatClampNeg (wdM.getD (σ_8.2.2.1 5 3) 0)) fun σ_10 => bnd1 (rX_tstep σ_10) fun σ_11 => bnd2 (rX_take 7 σ_11) fun r_15 σ_13 => brc (r_15 = 0) (rX_readCarrier_122 σ_13) (bnd2 (rX_takeNumber (1 : Int32) (60 : Int32) σ_13) fun r_18 σ_16 => brc (¬ r_18 = 0) (chk (ib v1_1 6) (nm (setI σ_16 16 v1_1.toNatClampNeg (σ_16.1 7 6)) fun σ_19 => bnd2 (rX_take 8 σ_19) fun r_22 σ_20 => brc (r_22 = 0) (rX_readCarrier_157 σ_20) (bnd2 (rX_takeNumber (0 : Int32) (20 : Int32) σ_20) fun r_25 σ_23 => brc (¬ r_25 = 0) (chk (ib v1_1 6) (nm (setI σ_23 17 v1_1.toNatClampNeg (σ_23.1 7 6)) fun σ_26 => bnd2 (rX_take 9 σ_26) fun r_29 σ_27 => brc (r_29 = 0) (rX_readCarrier_192 σ_27) (bnd2 (rX_takeNumber (0 : Int32) (9 : Int32) σ_27) fun r_32 σ_30 => brc (¬ r_32 = 0) (chk (ib v1_1 6) (nm (setI σ_30 18 v1_1.toNatClampNeg (σ_30.1 7 6)) fun σ_33 => nm (setI σ_33 10 2 ((σ_33.1 10 2) + (1 : Int32))) fun σ_34 => chk (decide ((1 : Int32) = 0 ∨ (1 : Int32) = 1)) (some ((1 : Int32), σ_34)))) (rX_readCarrier_192 σ_30)))) (rX_readCarrier_157 σ_23)))) (rX_readCarrier_122 σ_16))))) (bnd2 (rX_wrong (1 : Int32) σ_8) fun r_37 σ_35 => chk (decide (r_37 = 0 ∨ r_37 = 1)) (some (r_37, σ_35)))))) (chk (decide ((0 : Int32) = 0 ∨ (0 : Int32) = 1)) (some ((0 : Int32), σ_4)))) (bnd2 (rX_wrong (5 : Int32) σ) fun r_40 σ_38 => chk (decide (r_40 = 0 ∨ r_40 = 1)) (some (r_40, σ_38)))
set_option maxRecDepth 100000 in
theorem tX_readCarrier {X : CX} (hX : gd X cX5_readCarrier 2 RX5 (some .boolean)) (hw : isX (xw X)) (hg : nA X) (hR : xR X = rmOf 8 173 0 0) {r : Int32} {τ : St} (hr : xr X = (some (.int r), τ)) (σ : St) (h : rX_readCarrier σ = some (r, τ)) : Jd X 2 0 [(0, .ref (wad (xw X) 7))] [] σ := by
  unfold rX_readCarrier at h
  refine J_aload_n (q := 0) hX dX5_readCarrier_0 rfl rfl ?_
  refine K_getc 10 hX (xc_7 hw) cls_X5 (k := 7) (by decide) uw_1_223 rfl dX5_readCarrier_1 ?_
  refine K_geti hX (xc_10 hw) cls_X3 (k := 2) (by decide) uw_1_99 rfl dX5_readCarrier_4 ?_
  refine K_istore_n (fun v1_1 => [(1, .int v1_1), (0, .ref (wad (xw X) 7))]) hX dX5_readCarrier_7 rfl (by decide) (fun _ => rfl) h (fun v1_1 h => ?_)
  refine J_iload_n (q := 0) hX dX5_readCarrier_8 rfl rfl ?_
  refine J_bipush (v := (6 : Int32)) hX dX5_readCarrier_9 (by decide) ?_
  refine K_icmp_lt (tgt := 20) hX dX5_readCarrier_11 rfl h (fun h => ?_) (fun h => ?_)
  · refine J_aload_n (q := 1) hX dX5_readCarrier_20 rfl rfl ?_
    refine K_getc 5 hX (xc_7 hw) cls_X5 (k := 0) (by decide) uw_1_216 rfl dX5_readCarrier_21 ?_
    obtain ⟨σ_2, hc_3, h⟩ := bnd1_some h
    refine K_callV [] hX hg hR (ctX_tstep hw hc_3) lk_X5_123_X8_step md_X8_step (xc_5 hw) cls_X8 ⟨by decide, by decide⟩ rfl rfl (Nat.le_of_ble_eq_true rfl) dX5_readCarrier_24 ?_
    refine J_aload_n (q := 1) hX dX5_readCarrier_27 rfl rfl ?_
    obtain ⟨r_6, σ_4, hc_5, h⟩ := bnd2_some h
    refine K_callV [] hX hg hR (ctX_isNewName hw hc_5) lk_X5_126_X5_isNewName md_X5_isNewName (xc_7 hw) cls_X5 ⟨by decide, by decide⟩ rfl rfl (Nat.le_of_ble_eq_true rfl) dX5_readCarrier_28 ?_
    refine K_if_ne (tgt := 36) hX dX5_readCarrier_31 rfl h (fun h => ?_) (fun h => ?_)
    · refine J_aload_n (q := 1) hX dX5_readCarrier_36 rfl rfl ?_
      refine K_getc 9 hX (xc_7 hw) cls_X5 (k := 3) (by decide) uw_1_219 rfl dX5_readCarrier_37 ?_
      refine J_iload_n (q := 0) hX dX5_readCarrier_40 rfl rfl ?_
      refine J_aload_n (q := 1) hX dX5_readCarrier_41 rfl rfl ?_
      refine K_getc 5 hX (xc_7 hw) cls_X5 (k := 0) (by decide) uw_1_216 rfl dX5_readCarrier_42 ?_
      refine K_getl hX (xc_5 hw) cls_X8 (k := 6) (by decide) uw_1_54 rfl dX5_readCarrier_45 ?_
      refine K_last hX (xc_9 hw) dX5_readCarrier_48 h (fun σ_7 h => ?_)
      refine J_aload_n (q := 1) hX dX5_readCarrier_49 rfl rfl ?_
      refine K_getc 5 hX (xc_7 hw) cls_X5 (k := 0) (by decide) uw_1_216 rfl dX5_readCarrier_50 ?_
      obtain ⟨σ_8, hc_9, h⟩ := bnd1_some h
      refine K_callV [] hX hg hR (ctX_tstep hw hc_9) lk_X5_123_X8_step md_X8_step (xc_5 hw) cls_X8 ⟨by decide, by decide⟩ rfl rfl (Nat.le_of_ble_eq_true rfl) dX5_readCarrier_53 ?_
      refine J_aload_n (q := 1) hX dX5_readCarrier_56 rfl rfl ?_
      refine K_getc 5 hX (xc_7 hw) cls_X5 (k := 0) (by decide) uw_1_216 rfl dX5_readCarrier_57 ?_
      refine K_getw hX (xc_5 hw) cls_X8 (k := 3) (by decide) uw_1_47 rfl dX5_readCarrier_60 ?_
      refine K_wsort hX hw uw_8_86 dX5_readCarrier_63 h (fun h => ?_)
      refine J_iconst (v := (1 : Int32)) hX dX5_readCarrier_66 (by decide) ?_
      refine K_icmp_eq (tgt := 76) hX dX5_readCarrier_67 rfl h (fun h => ?_) (fun h => ?_)
      · refine J_aload_n (q := 1) hX dX5_readCarrier_76 rfl rfl ?_
        refine K_getc 10 hX (xc_7 hw) cls_X5 (k := 7) (by decide) uw_1_223 rfl dX5_readCarrier_77 ?_
        refine K_getc 15 hX (xc_10 hw) cls_X3 (k := 7) (by decide) uw_1_117 rfl dX5_readCarrier_80 ?_
        refine J_iload_n (q := 0) hX dX5_readCarrier_83 rfl rfl ?_
        refine J_aload_n (q := 1) hX dX5_readCarrier_84 rfl rfl ?_
        refine K_getc 5 hX (xc_7 hw) cls_X5 (k := 0) (by decide) uw_1_216 rfl dX5_readCarrier_85 ?_
        refine K_getw hX (xc_5 hw) cls_X8 (k := 3) (by decide) uw_1_47 rfl dX5_readCarrier_88 ?_
        refine K_wnum hX hw uw_8_87 dX5_readCarrier_91 h (fun h => ?_)
        refine K_iast hX (xc_15 hw) dX5_readCarrier_94 h (fun σ_10 h => ?_)
        refine J_aload_n (q := 1) hX dX5_readCarrier_95 rfl rfl ?_
        refine K_getc 5 hX (xc_7 hw) cls_X5 (k := 0) (by decide) uw_1_216 rfl dX5_readCarrier_96 ?_
        obtain ⟨σ_11, hc_12, h⟩ := bnd1_some h
        refine K_callV [] hX hg hR (ctX_tstep hw hc_12) lk_X5_123_X8_step md_X8_step (xc_5 hw) cls_X8 ⟨by decide, by decide⟩ rfl rfl (Nat.le_of_ble_eq_true rfl) dX5_readCarrier_99 ?_
        refine J_aload_n (q := 1) hX dX5_readCarrier_102 rfl rfl ?_
        refine K_gWord 7 hX hw (by decide) uw_3_233 dX5_readCarrier_103 ?_
        obtain ⟨r_15, σ_13, hc_14, h⟩ := bnd2_some h
        refine K_callV [.ref (wadW (xw X) 7)] hX hg hR (ctX_take hw hc_14) lk_X5_117_X5_take md_X5_take (xc_7 hw) cls_X5 ⟨by decide, by decide⟩ rfl rfl (Nat.le_of_ble_eq_true rfl) dX5_readCarrier_106 ?_
        refine K_if_eq (tgt := 122) hX dX5_readCarrier_109 rfl h (fun h => ?_) (fun h => ?_)
        · refine J_sub [] rfl ?_
          exact tX_readCarrier_122 hX hw hg hR hr σ_13 h
        · refine J_aload_n (q := 1) hX dX5_readCarrier_112 rfl rfl ?_
          refine J_iconst (v := (1 : Int32)) hX dX5_readCarrier_113 (by decide) ?_
          refine J_bipush (v := (60 : Int32)) hX dX5_readCarrier_114 (by decide) ?_
          obtain ⟨r_18, σ_16, hc_17, h⟩ := bnd2_some h
          refine K_callV [.int (1 : Int32), .int (60 : Int32)] hX hg hR (ctX_takeNumber hw hc_17) lk_X5_136_X5_takeNumber md_X5_takeNumber (xc_7 hw) cls_X5 ⟨by decide, by decide⟩ rfl rfl (Nat.le_of_ble_eq_true rfl) dX5_readCarrier_116 ?_
          refine K_if_ne (tgt := 124) hX dX5_readCarrier_119 rfl h (fun h => ?_) (fun h => ?_)
          · refine J_aload_n (q := 1) hX dX5_readCarrier_124 rfl rfl ?_
            refine K_getc 10 hX (xc_7 hw) cls_X5 (k := 7) (by decide) uw_1_223 rfl dX5_readCarrier_125 ?_
            refine K_getc 16 hX (xc_10 hw) cls_X3 (k := 8) (by decide) uw_1_120 rfl dX5_readCarrier_128 ?_
            refine J_iload_n (q := 0) hX dX5_readCarrier_131 rfl rfl ?_
            refine J_aload_n (q := 1) hX dX5_readCarrier_132 rfl rfl ?_
            refine K_geti hX (xc_7 hw) cls_X5 (k := 6) (by decide) uw_1_222 rfl dX5_readCarrier_133 ?_
            refine K_iast hX (xc_16 hw) dX5_readCarrier_136 h (fun σ_19 h => ?_)
            refine J_aload_n (q := 1) hX dX5_readCarrier_137 rfl rfl ?_
            refine K_gWord 8 hX hw (by decide) uw_3_235 dX5_readCarrier_138 ?_
            obtain ⟨r_22, σ_20, hc_21, h⟩ := bnd2_some h
            refine K_callV [.ref (wadW (xw X) 8)] hX hg hR (ctX_take hw hc_21) lk_X5_117_X5_take md_X5_take (xc_7 hw) cls_X5 ⟨by decide, by decide⟩ rfl rfl (Nat.le_of_ble_eq_true rfl) dX5_readCarrier_141 ?_
            refine K_if_eq (tgt := 157) hX dX5_readCarrier_144 rfl h (fun h => ?_) (fun h => ?_)
            · refine J_sub [] rfl ?_
              exact tX_readCarrier_157 hX hw hg hR hr σ_20 h
            · refine J_aload_n (q := 1) hX dX5_readCarrier_147 rfl rfl ?_
              refine J_iconst (v := (0 : Int32)) hX dX5_readCarrier_148 (by decide) ?_
              refine J_bipush (v := (20 : Int32)) hX dX5_readCarrier_149 (by decide) ?_
              obtain ⟨r_25, σ_23, hc_24, h⟩ := bnd2_some h
              refine K_callV [.int (0 : Int32), .int (20 : Int32)] hX hg hR (ctX_takeNumber hw hc_24) lk_X5_136_X5_takeNumber md_X5_takeNumber (xc_7 hw) cls_X5 ⟨by decide, by decide⟩ rfl rfl (Nat.le_of_ble_eq_true rfl) dX5_readCarrier_151 ?_
              refine K_if_ne (tgt := 159) hX dX5_readCarrier_154 rfl h (fun h => ?_) (fun h => ?_)
              · refine J_aload_n (q := 1) hX dX5_readCarrier_159 rfl rfl ?_
                refine K_getc 10 hX (xc_7 hw) cls_X5 (k := 7) (by decide) uw_1_223 rfl dX5_readCarrier_160 ?_
                refine K_getc 17 hX (xc_10 hw) cls_X3 (k := 9) (by decide) uw_1_123 rfl dX5_readCarrier_163 ?_
                refine J_iload_n (q := 0) hX dX5_readCarrier_166 rfl rfl ?_
                refine J_aload_n (q := 1) hX dX5_readCarrier_167 rfl rfl ?_
                refine K_geti hX (xc_7 hw) cls_X5 (k := 6) (by decide) uw_1_222 rfl dX5_readCarrier_168 ?_
                refine K_iast hX (xc_17 hw) dX5_readCarrier_171 h (fun σ_26 h => ?_)
                refine J_aload_n (q := 1) hX dX5_readCarrier_172 rfl rfl ?_
                refine K_gWord 9 hX hw (by decide) uw_3_237 dX5_readCarrier_173 ?_
                obtain ⟨r_29, σ_27, hc_28, h⟩ := bnd2_some h
                refine K_callV [.ref (wadW (xw X) 9)] hX hg hR (ctX_take hw hc_28) lk_X5_117_X5_take md_X5_take (xc_7 hw) cls_X5 ⟨by decide, by decide⟩ rfl rfl (Nat.le_of_ble_eq_true rfl) dX5_readCarrier_176 ?_
                refine K_if_eq (tgt := 192) hX dX5_readCarrier_179 rfl h (fun h => ?_) (fun h => ?_)
                · refine J_sub [] rfl ?_
                  exact tX_readCarrier_192 hX hw hg hR hr σ_27 h
                · refine J_aload_n (q := 1) hX dX5_readCarrier_182 rfl rfl ?_
                  refine J_iconst (v := (0 : Int32)) hX dX5_readCarrier_183 (by decide) ?_
                  refine J_bipush (v := (9 : Int32)) hX dX5_readCarrier_184 (by decide) ?_
                  obtain ⟨r_32, σ_30, hc_31, h⟩ := bnd2_some h
                  refine K_callV [.int (0 : Int32), .int (9 : Int32)] hX hg hR (ctX_takeNumber hw hc_31) lk_X5_136_X5_takeNumber md_X5_takeNumber (xc_7 hw) cls_X5 ⟨by decide, by decide⟩ rfl rfl (Nat.le_of_ble_eq_true rfl) dX5_readCarrier_186 ?_
                  refine K_if_ne (tgt := 194) hX dX5_readCarrier_189 rfl h (fun h => ?_) (fun h => ?_)
                  · refine J_aload_n (q := 1) hX dX5_readCarrier_194 rfl rfl ?_
                    refine K_getc 10 hX (xc_7 hw) cls_X5 (k := 7) (by decide) uw_1_223 rfl dX5_readCarrier_195 ?_
                    refine K_getc 18 hX (xc_10 hw) cls_X3 (k := 10) (by decide) uw_1_128 rfl dX5_readCarrier_198 ?_
                    refine J_iload_n (q := 0) hX dX5_readCarrier_201 rfl rfl ?_
                    refine J_aload_n (q := 1) hX dX5_readCarrier_202 rfl rfl ?_
                    refine K_geti hX (xc_7 hw) cls_X5 (k := 6) (by decide) uw_1_222 rfl dX5_readCarrier_203 ?_
                    refine K_iast hX (xc_18 hw) dX5_readCarrier_206 h (fun σ_33 h => ?_)
                    refine J_aload_n (q := 1) hX dX5_readCarrier_207 rfl rfl ?_
                    refine K_getc 10 hX (xc_7 hw) cls_X5 (k := 7) (by decide) uw_1_223 rfl dX5_readCarrier_208 ?_
                    refine J_dup hX dX5_readCarrier_211 rfl ?_
                    refine K_geti hX (xc_10 hw) cls_X3 (k := 2) (by decide) uw_1_99 rfl dX5_readCarrier_212 ?_
                    refine J_iconst (v := (1 : Int32)) hX dX5_readCarrier_215 (by decide) ?_
                    refine J_iadd hX dX5_readCarrier_216 ?_
                    refine K_puti hX (xc_10 hw) cls_X3 (k := 2) (by decide) uw_1_99 rfl rfl rfl dX5_readCarrier_217 h (fun σ_34 h => ?_)
                    refine J_iconst (v := (1 : Int32)) hX dX5_readCarrier_220 (by decide) ?_
                    exact K_zret hX hr dX5_readCarrier_221 h
                  · refine J_sub [] rfl ?_
                    exact tX_readCarrier_192 hX hw hg hR hr σ_30 h
              · refine J_sub [] rfl ?_
                exact tX_readCarrier_157 hX hw hg hR hr σ_23 h
          · refine J_sub [] rfl ?_
            exact tX_readCarrier_122 hX hw hg hR hr σ_16 h
      · refine J_aload_n (q := 1) hX dX5_readCarrier_70 rfl rfl ?_
        refine J_iconst (v := (1 : Int32)) hX dX5_readCarrier_71 (by decide) ?_
        obtain ⟨r_37, σ_35, hc_36, h⟩ := bnd2_some h
        refine K_callV [.int (1 : Int32)] hX hg hR (ctX_wrong hw hc_36) lk_X5_110_X5_wrong md_X5_wrong (xc_7 hw) cls_X5 ⟨by decide, by decide⟩ rfl rfl (Nat.le_of_ble_eq_true rfl) dX5_readCarrier_72 ?_
        exact K_zret hX hr dX5_readCarrier_75 h
    · refine J_iconst (v := (0 : Int32)) hX dX5_readCarrier_34 (by decide) ?_
      exact K_zret hX hr dX5_readCarrier_35 h
  · refine J_aload_n (q := 1) hX dX5_readCarrier_14 rfl rfl ?_
    refine J_iconst (v := (5 : Int32)) hX dX5_readCarrier_15 (by decide) ?_
    obtain ⟨r_40, σ_38, hc_39, h⟩ := bnd2_some h
    refine K_callV [.int (5 : Int32)] hX hg hR (ctX_wrong hw hc_39) lk_X5_110_X5_wrong md_X5_wrong (xc_7 hw) cls_X5 ⟨by decide, by decide⟩ rfl rfl (Nat.le_of_ble_eq_true rfl) dX5_readCarrier_16 ?_
    exact K_zret hX hr dX5_readCarrier_19 h
theorem ctX_readCarrier {w : WT} (hw : isX w) {σ : St} {r : Int32} {τ : St} (h : rX_readCarrier σ = some (r, τ)) : Ct yX5_readCarrier cX5_readCarrier 2 (some .boolean) 8 173 w [.ref (wad w 7)] σ (some (.int r)) τ 0 0 :=
  Ct_intro (fun _ => (0, 0)) (by decide) rfl ⟨rfl, Nat.le_refl _⟩ (Nat.le_of_ble_eq_true rfl) (fun X hX hR hwX hg hr => by subst hwX; exact tX_readCarrier hX hw hg hR hr  σ h)

def rX_readOwes_92 (σ : St) : Option (Int32 × St) :=
  bnd2 (rX_wrong (3 : Int32) σ) fun r_17 σ_15 => chk (decide (r_17 = 0 ∨ r_17 = 1)) (some (r_17, σ_15))
set_option maxRecDepth 100000 in
theorem tX_readOwes_92 {X : CX} (hX : gd X cX5_readOwes 4 RX5 (some .boolean)) (hw : isX (xw X)) (hg : nA X) (hR : xR X = rmOf 8 173 0 0) {r : Int32} {τ : St} (hr : xr X = (some (.int r), τ)) (σ : St) (h : rX_readOwes_92 σ = some (r, τ)) : Jd X 4 92 [(0, .ref (wad (xw X) 7))] [] σ := by
  unfold rX_readOwes_92 at h
  refine J_aload_n (q := 0) hX dX5_readOwes_92 rfl rfl ?_
  refine J_iconst (v := (3 : Int32)) hX dX5_readOwes_93 (by decide) ?_
  obtain ⟨r_17, σ_15, hc_16, h⟩ := bnd2_some h
  refine K_callV [.int (3 : Int32)] hX hg hR (ctX_wrong hw hc_16) lk_X5_110_X5_wrong md_X5_wrong (xc_7 hw) cls_X5 ⟨by decide, by decide⟩ rfl rfl (Nat.le_of_ble_eq_true rfl) dX5_readOwes_94 ?_
  exact K_zret hX hr dX5_readOwes_97 h

def rX_readOwes (σ : St) : Option (Int32 × St) :=
  bnd1 (rX_tstep σ) fun σ_1 => bnd2 (rX_takeToldC (σ_1.1 10 2) σ_1) fun r_5 σ_3 => brc (¬ r_5 = 0) (nm (σ_3.1 7 6) fun v1_6 => bnd2 (rX_isToldC (σ_3.1 10 2) σ_3) fun r_9 σ_7 => brc (¬ r_9 = 0) (bnd2 (rX_placeOfC (σ_7.1 10 2) σ_7) fun r_12 σ_10 => nm r_12 fun v2_13 => nm ((v1_6 * (6 : Int32)) + v2_13) fun v3_14 => brc (v1_6 = v2_13) (rX_readOwes_92 σ_10) (chk (ib v3_14 36) (brc ((σ_10.1 19 v3_14.toNatClampNeg) ≤ 0) (bnd1 (rX_tstep σ_10) fun σ_18 => bnd2 (rX_takeNumber (1 : Int32) (99 : Int32) σ_18) fun r_22 σ_20 => brc (¬ r_22 = 0) (chk (ib v3_14 36) (nm (setI σ_20 19 v3_14.toNatClampNeg (σ_20.1 7 6)) fun σ_23 => chk (decide ((1 : Int32) = 0 ∨ (1 : Int32) = 1)) (some ((1 : Int32), σ_23)))) (chk (decide ((0 : Int32) = 0 ∨ (0 : Int32) = 1)) (some ((0 : Int32), σ_20)))) (rX_readOwes_92 σ_10)))) (chk (decide ((0 : Int32) = 0 ∨ (0 : Int32) = 1)) (some ((0 : Int32), σ_7)))) (chk (decide ((0 : Int32) = 0 ∨ (0 : Int32) = 1)) (some ((0 : Int32), σ_3)))
set_option maxRecDepth 100000 in
theorem tX_readOwes {X : CX} (hX : gd X cX5_readOwes 4 RX5 (some .boolean)) (hw : isX (xw X)) (hg : nA X) (hR : xR X = rmOf 8 173 0 0) {r : Int32} {τ : St} (hr : xr X = (some (.int r), τ)) (σ : St) (h : rX_readOwes σ = some (r, τ)) : Jd X 4 0 [(0, .ref (wad (xw X) 7))] [] σ := by
  unfold rX_readOwes at h
  refine J_aload_n (q := 0) hX dX5_readOwes_0 rfl rfl ?_
  refine K_getc 5 hX (xc_7 hw) cls_X5 (k := 0) (by decide) uw_1_216 rfl dX5_readOwes_1 ?_
  obtain ⟨σ_1, hc_2, h⟩ := bnd1_some h
  refine K_callV [] hX hg hR (ctX_tstep hw hc_2) lk_X5_123_X8_step md_X8_step (xc_5 hw) cls_X8 ⟨by decide, by decide⟩ rfl rfl (Nat.le_of_ble_eq_true rfl) dX5_readOwes_4 ?_
  refine J_aload_n (q := 0) hX dX5_readOwes_7 rfl rfl ?_
  refine J_aload_n (q := 0) hX dX5_readOwes_8 rfl rfl ?_
  refine K_getc 9 hX (xc_7 hw) cls_X5 (k := 3) (by decide) uw_1_219 rfl dX5_readOwes_9 ?_
  refine J_aload_n (q := 0) hX dX5_readOwes_12 rfl rfl ?_
  refine K_getc 10 hX (xc_7 hw) cls_X5 (k := 7) (by decide) uw_1_223 rfl dX5_readOwes_13 ?_
  refine K_geti hX (xc_10 hw) cls_X3 (k := 2) (by decide) uw_1_99 rfl dX5_readOwes_16 ?_
  obtain ⟨r_5, σ_3, hc_4, h⟩ := bnd2_some h
  refine K_callV [.ref (wad (xw X) 9), .int (σ_1.1 10 2)] hX hg hR (ctX_takeToldC hw hc_4) lk_X5_156_X5_takeTold md_X5_takeTold (xc_7 hw) cls_X5 ⟨by decide, by decide⟩ rfl rfl (Nat.le_of_ble_eq_true rfl) dX5_readOwes_19 ?_
  refine K_if_ne (tgt := 27) hX dX5_readOwes_22 rfl h (fun h => ?_) (fun h => ?_)
  · refine J_aload_n (q := 0) hX dX5_readOwes_27 rfl rfl ?_
    refine K_geti hX (xc_7 hw) cls_X5 (k := 6) (by decide) uw_1_222 rfl dX5_readOwes_28 ?_
    refine K_istore_n (fun v1_6 => [(1, .int v1_6), (0, .ref (wad (xw X) 7))]) hX dX5_readOwes_31 rfl (by decide) (fun _ => rfl) h (fun v1_6 h => ?_)
    refine J_aload_n (q := 1) hX dX5_readOwes_32 rfl rfl ?_
    refine J_aload_n (q := 1) hX dX5_readOwes_33 rfl rfl ?_
    refine K_getc 9 hX (xc_7 hw) cls_X5 (k := 3) (by decide) uw_1_219 rfl dX5_readOwes_34 ?_
    refine J_aload_n (q := 1) hX dX5_readOwes_37 rfl rfl ?_
    refine K_getc 10 hX (xc_7 hw) cls_X5 (k := 7) (by decide) uw_1_223 rfl dX5_readOwes_38 ?_
    refine K_geti hX (xc_10 hw) cls_X3 (k := 2) (by decide) uw_1_99 rfl dX5_readOwes_41 ?_
    obtain ⟨r_9, σ_7, hc_8, h⟩ := bnd2_some h
    refine K_callV [.ref (wad (xw X) 9), .int (σ_3.1 10 2)] hX hg hR (ctX_isToldC hw hc_8) lk_X5_160_X5_isTold md_X5_isTold (xc_7 hw) cls_X5 ⟨by decide, by decide⟩ rfl rfl (Nat.le_of_ble_eq_true rfl) dX5_readOwes_44 ?_
    refine K_if_ne (tgt := 52) hX dX5_readOwes_47 rfl h (fun h => ?_) (fun h => ?_)
    · refine J_aload_n (q := 1) hX dX5_readOwes_52 rfl rfl ?_
      refine J_aload_n (q := 1) hX dX5_readOwes_53 rfl rfl ?_
      refine K_getc 9 hX (xc_7 hw) cls_X5 (k := 3) (by decide) uw_1_219 rfl dX5_readOwes_54 ?_
      refine J_aload_n (q := 1) hX dX5_readOwes_57 rfl rfl ?_
      refine K_getc 10 hX (xc_7 hw) cls_X5 (k := 7) (by decide) uw_1_223 rfl dX5_readOwes_58 ?_
      refine K_geti hX (xc_10 hw) cls_X3 (k := 2) (by decide) uw_1_99 rfl dX5_readOwes_61 ?_
      obtain ⟨r_12, σ_10, hc_11, h⟩ := bnd2_some h
      refine K_callV [.ref (wad (xw X) 9), .int (σ_7.1 10 2)] hX hg hR (ctX_placeOfC hw hc_11) lk_X5_163_X5_placeOf md_X5_placeOf (xc_7 hw) cls_X5 ⟨by decide, by decide⟩ rfl rfl (Nat.le_of_ble_eq_true rfl) dX5_readOwes_64 ?_
      refine K_istore_n (fun v2_13 => [(2, .int v2_13), (1, .int v1_6), (0, .ref (wad (xw X) 7))]) hX dX5_readOwes_67 rfl (by decide) (fun _ => rfl) h (fun v2_13 h => ?_)
      refine J_iload_n (q := 1) hX dX5_readOwes_68 rfl rfl ?_
      refine J_bipush (v := (6 : Int32)) hX dX5_readOwes_69 (by decide) ?_
      refine J_imul hX dX5_readOwes_71 ?_
      refine J_iload_n (q := 0) hX dX5_readOwes_72 rfl rfl ?_
      refine J_iadd hX dX5_readOwes_73 ?_
      refine K_istore_n (fun v3_14 => [(3, .int v3_14), (2, .int v2_13), (1, .int v1_6), (0, .ref (wad (xw X) 7))]) hX dX5_readOwes_74 rfl (by decide) (fun _ => rfl) h (fun v3_14 h => ?_)
      refine J_iload_n (q := 2) hX dX5_readOwes_75 rfl rfl ?_
      refine J_iload_n (q := 1) hX dX5_readOwes_76 rfl rfl ?_
      refine K_icmp_eq (tgt := 92) hX dX5_readOwes_77 rfl h (fun h => ?_) (fun h => ?_)
      · refine J_sub [3] rfl ?_
        exact tX_readOwes_92 hX hw hg hR hr σ_10 h
      · refine J_aload_n (q := 3) hX dX5_readOwes_80 rfl rfl ?_
        refine K_getc 10 hX (xc_7 hw) cls_X5 (k := 7) (by decide) uw_1_223 rfl dX5_readOwes_81 ?_
        refine K_getc 19 hX (xc_10 hw) cls_X3 (k := 11) (by decide) uw_1_132 rfl dX5_readOwes_84 ?_
        refine J_iload_n (q := 0) hX dX5_readOwes_87 rfl rfl ?_
        refine K_iald hX (xc_19 hw) dX5_readOwes_88 h (fun h => ?_)
        refine K_if_le (tgt := 98) hX dX5_readOwes_89 rfl h (fun h => ?_) (fun h => ?_)
        · refine J_aload_n (q := 3) hX dX5_readOwes_98 rfl rfl ?_
          refine K_getc 5 hX (xc_7 hw) cls_X5 (k := 0) (by decide) uw_1_216 rfl dX5_readOwes_99 ?_
          obtain ⟨σ_18, hc_19, h⟩ := bnd1_some h
          refine K_callV [] hX hg hR (ctX_tstep hw hc_19) lk_X5_123_X8_step md_X8_step (xc_5 hw) cls_X8 ⟨by decide, by decide⟩ rfl rfl (Nat.le_of_ble_eq_true rfl) dX5_readOwes_102 ?_
          refine J_aload_n (q := 3) hX dX5_readOwes_105 rfl rfl ?_
          refine J_iconst (v := (1 : Int32)) hX dX5_readOwes_106 (by decide) ?_
          refine J_bipush (v := (99 : Int32)) hX dX5_readOwes_107 (by decide) ?_
          obtain ⟨r_22, σ_20, hc_21, h⟩ := bnd2_some h
          refine K_callV [.int (1 : Int32), .int (99 : Int32)] hX hg hR (ctX_takeNumber hw hc_21) lk_X5_136_X5_takeNumber md_X5_takeNumber (xc_7 hw) cls_X5 ⟨by decide, by decide⟩ rfl rfl (Nat.le_of_ble_eq_true rfl) dX5_readOwes_109 ?_
          refine K_if_ne (tgt := 117) hX dX5_readOwes_112 rfl h (fun h => ?_) (fun h => ?_)
          · refine J_aload_n (q := 3) hX dX5_readOwes_117 rfl rfl ?_
            refine K_getc 10 hX (xc_7 hw) cls_X5 (k := 7) (by decide) uw_1_223 rfl dX5_readOwes_118 ?_
            refine K_getc 19 hX (xc_10 hw) cls_X3 (k := 11) (by decide) uw_1_132 rfl dX5_readOwes_121 ?_
            refine J_iload_n (q := 0) hX dX5_readOwes_124 rfl rfl ?_
            refine J_aload_n (q := 3) hX dX5_readOwes_125 rfl rfl ?_
            refine K_geti hX (xc_7 hw) cls_X5 (k := 6) (by decide) uw_1_222 rfl dX5_readOwes_126 ?_
            refine K_iast hX (xc_19 hw) dX5_readOwes_129 h (fun σ_23 h => ?_)
            refine J_iconst (v := (1 : Int32)) hX dX5_readOwes_130 (by decide) ?_
            exact K_zret hX hr dX5_readOwes_131 h
          · refine J_iconst (v := (0 : Int32)) hX dX5_readOwes_115 (by decide) ?_
            exact K_zret hX hr dX5_readOwes_116 h
        · refine J_sub [3] rfl ?_
          exact tX_readOwes_92 hX hw hg hR hr σ_10 h
    · refine J_iconst (v := (0 : Int32)) hX dX5_readOwes_50 (by decide) ?_
      exact K_zret hX hr dX5_readOwes_51 h
  · refine J_iconst (v := (0 : Int32)) hX dX5_readOwes_25 (by decide) ?_
    exact K_zret hX hr dX5_readOwes_26 h
theorem ctX_readOwes {w : WT} (hw : isX w) {σ : St} {r : Int32} {τ : St} (h : rX_readOwes σ = some (r, τ)) : Ct yX5_readOwes cX5_readOwes 4 (some .boolean) 8 173 w [.ref (wad w 7)] σ (some (.int r)) τ 0 0 :=
  Ct_intro (fun _ => (0, 0)) (by decide) rfl ⟨rfl, Nat.le_refl _⟩ (Nat.le_of_ble_eq_true rfl) (fun X hX hR hwX hg hr => by subst hwX; exact tX_readOwes hX hw hg hR hr  σ h)

def rX_readSetting_147 (σ : St) : Option (Int32 × St) :=
  chk (decide ((1 : Int32) = 0 ∨ (1 : Int32) = 1)) (some ((1 : Int32), σ))
set_option maxRecDepth 100000 in
theorem tX_readSetting_147 {X : CX} (hX : gd X cX5_readSetting 4 RX5 (some .boolean)) (hw : isX (xw X)) (hg : nA X) (hR : xR X = rmOf 8 173 0 0) {r : Int32} {τ : St} (hr : xr X = (some (.int r), τ)) (σ : St) (h : rX_readSetting_147 σ = some (r, τ)) : Jd X 4 147 [] [] σ := by
  unfold rX_readSetting_147 at h
  refine J_iconst (v := (1 : Int32)) hX dX5_readSetting_147 (by decide) ?_
  exact K_zret hX hr dX5_readSetting_148 h

def rX_readSetting_82 (v1 : Nat) (v2 : Int32) (s0 : Int32) (σ : St) : Option (Int32 × St) :=
  nm s0 fun v3_7 => bnd2 (rX_takeNumber v2 v3_7 σ) fun r_10 σ_8 => brc (¬ r_10 = 0) (chk (decide (v1 < 42 ∧ 13 < 42)) (brc (¬ v1 = 13) (chk (decide (v1 < 42 ∧ 14 < 42)) (brc (¬ v1 = 14) (nm (setI σ_8 10 16 (σ_8.1 7 6)) fun σ_11 => rX_readSetting_147 σ_11) (nm (setI σ_8 10 15 (σ_8.1 7 6)) fun σ_12 => rX_readSetting_147 σ_12))) (nm (setI σ_8 10 14 (σ_8.1 7 6)) fun σ_13 => rX_readSetting_147 σ_13))) (chk (decide ((0 : Int32) = 0 ∨ (0 : Int32) = 1)) (some ((0 : Int32), σ_8)))
set_option maxRecDepth 100000 in
theorem tX_readSetting_82 {X : CX} (hX : gd X cX5_readSetting 4 RX5 (some .boolean)) (hw : isX (xw X)) (hg : nA X) (hR : xR X = rmOf 8 173 0 0) {r : Int32} {τ : St} (hr : xr X = (some (.int r), τ)) (v1 : Nat) (v2 : Int32) (s0 : Int32) (σ : St) (h : rX_readSetting_82 v1 v2 s0 σ = some (r, τ)) : Jd X 4 82 [(0, .ref (wad (xw X) 7)), (1, .ref (wadW (xw X) v1)), (2, .int v2)] [.int s0] σ := by
  unfold rX_readSetting_82 at h
  refine K_istore_n (fun v3_7 => [(3, .int v3_7), (0, .ref (wad (xw X) 7)), (1, .ref (wadW (xw X) v1)), (2, .int v2)]) hX dX5_readSetting_82 rfl (by decide) (fun _ => rfl) h (fun v3_7 h => ?_)
  refine J_aload_n (q := 1) hX dX5_readSetting_83 rfl rfl ?_
  refine J_iload_n (q := 3) hX dX5_readSetting_84 rfl rfl ?_
  refine J_iload_n (q := 0) hX dX5_readSetting_85 rfl rfl ?_
  obtain ⟨r_10, σ_8, hc_9, h⟩ := bnd2_some h
  refine K_callV [.int v2, .int v3_7] hX hg hR (ctX_takeNumber hw hc_9) lk_X5_136_X5_takeNumber md_X5_takeNumber (xc_7 hw) cls_X5 ⟨by decide, by decide⟩ rfl rfl (Nat.le_of_ble_eq_true rfl) dX5_readSetting_86 ?_
  refine K_if_ne (tgt := 94) hX dX5_readSetting_89 rfl h (fun h => ?_) (fun h => ?_)
  · refine J_aload_n (q := 2) hX dX5_readSetting_94 rfl rfl ?_
    refine K_gWord 13 hX hw (by decide) uw_4_92 dX5_readSetting_95 ?_
    refine K_acmp_ne (tgt := 115) hX hw dX5_readSetting_98 rfl h (fun h => ?_) (fun h => ?_)
    · refine J_aload_n (q := 2) hX dX5_readSetting_115 rfl rfl ?_
      refine K_gWord 14 hX hw (by decide) uw_4_94 dX5_readSetting_116 ?_
      refine K_acmp_ne (tgt := 136) hX hw dX5_readSetting_119 rfl h (fun h => ?_) (fun h => ?_)
      · refine J_aload_n (q := 1) hX dX5_readSetting_136 rfl rfl ?_
        refine K_getc 10 hX (xc_7 hw) cls_X5 (k := 7) (by decide) uw_1_223 rfl dX5_readSetting_137 ?_
        refine J_aload_n (q := 1) hX dX5_readSetting_140 rfl rfl ?_
        refine K_geti hX (xc_7 hw) cls_X5 (k := 6) (by decide) uw_1_222 rfl dX5_readSetting_141 ?_
        refine K_puti hX (xc_10 hw) cls_X3 (k := 16) (by decide) uw_1_149 rfl rfl rfl dX5_readSetting_144 h (fun σ_11 h => ?_)
        refine J_sub [] rfl ?_
        exact tX_readSetting_147 hX hw hg hR hr σ_11 h
      · refine J_aload_n (q := 1) hX dX5_readSetting_122 rfl rfl ?_
        refine K_getc 10 hX (xc_7 hw) cls_X5 (k := 7) (by decide) uw_1_223 rfl dX5_readSetting_123 ?_
        refine J_aload_n (q := 1) hX dX5_readSetting_126 rfl rfl ?_
        refine K_geti hX (xc_7 hw) cls_X5 (k := 6) (by decide) uw_1_222 rfl dX5_readSetting_127 ?_
        refine K_puti hX (xc_10 hw) cls_X3 (k := 15) (by decide) uw_1_145 rfl rfl rfl dX5_readSetting_130 h (fun σ_12 h => ?_)
        refine J_goto (tgt := 147) hX dX5_readSetting_133 rfl ?_
        refine J_sub [] rfl ?_
        exact tX_readSetting_147 hX hw hg hR hr σ_12 h
    · refine J_aload_n (q := 1) hX dX5_readSetting_101 rfl rfl ?_
      refine K_getc 10 hX (xc_7 hw) cls_X5 (k := 7) (by decide) uw_1_223 rfl dX5_readSetting_102 ?_
      refine J_aload_n (q := 1) hX dX5_readSetting_105 rfl rfl ?_
      refine K_geti hX (xc_7 hw) cls_X5 (k := 6) (by decide) uw_1_222 rfl dX5_readSetting_106 ?_
      refine K_puti hX (xc_10 hw) cls_X3 (k := 14) (by decide) uw_1_141 rfl rfl rfl dX5_readSetting_109 h (fun σ_13 h => ?_)
      refine J_goto (tgt := 147) hX dX5_readSetting_112 rfl ?_
      refine J_sub [] rfl ?_
      exact tX_readSetting_147 hX hw hg hR hr σ_13 h
  · refine J_iconst (v := (0 : Int32)) hX dX5_readSetting_92 (by decide) ?_
    exact K_zret hX hr dX5_readSetting_93 h

def rX_readSetting_53 (v1 : Nat) (s0 : Int32) (σ : St) : Option (Int32 × St) :=
  nm s0 fun v2_6 => chk (decide (v1 < 42 ∧ 13 < 42)) (brc (¬ v1 = 13) (chk (decide (v1 < 42 ∧ 14 < 42)) (brc (¬ v1 = 14) (rX_readSetting_82 v1 v2_6 (999 : Int32) σ) (rX_readSetting_82 v1 v2_6 (200 : Int32) σ))) (rX_readSetting_82 v1 v2_6 (99 : Int32) σ))
set_option maxRecDepth 100000 in
theorem tX_readSetting_53 {X : CX} (hX : gd X cX5_readSetting 4 RX5 (some .boolean)) (hw : isX (xw X)) (hg : nA X) (hR : xR X = rmOf 8 173 0 0) {r : Int32} {τ : St} (hr : xr X = (some (.int r), τ)) (v1 : Nat) (s0 : Int32) (σ : St) (h : rX_readSetting_53 v1 s0 σ = some (r, τ)) : Jd X 4 53 [(0, .ref (wad (xw X) 7)), (1, .ref (wadW (xw X) v1))] [.int s0] σ := by
  unfold rX_readSetting_53 at h
  refine K_istore_n (fun v2_6 => [(2, .int v2_6), (0, .ref (wad (xw X) 7)), (1, .ref (wadW (xw X) v1))]) hX dX5_readSetting_53 rfl (by decide) (fun _ => rfl) h (fun v2_6 h => ?_)
  refine J_aload_n (q := 2) hX dX5_readSetting_54 rfl rfl ?_
  refine K_gWord 13 hX hw (by decide) uw_4_92 dX5_readSetting_55 ?_
  refine K_acmp_ne (tgt := 66) hX hw dX5_readSetting_58 rfl h (fun h => ?_) (fun h => ?_)
  · refine J_aload_n (q := 2) hX dX5_readSetting_66 rfl rfl ?_
    refine K_gWord 14 hX hw (by decide) uw_4_94 dX5_readSetting_67 ?_
    refine K_acmp_ne (tgt := 79) hX hw dX5_readSetting_70 rfl h (fun h => ?_) (fun h => ?_)
    · refine J_sipush (v := (999 : Int32)) hX dX5_readSetting_79 (by decide) ?_
      refine J_sub [1, 2, 0] rfl ?_
      exact tX_readSetting_82 hX hw hg hR hr v1 v2_6 (999 : Int32) σ h
    · refine J_sipush (v := (200 : Int32)) hX dX5_readSetting_73 (by decide) ?_
      refine J_goto (tgt := 82) hX dX5_readSetting_76 rfl ?_
      refine J_sub [1, 2, 0] rfl ?_
      exact tX_readSetting_82 hX hw hg hR hr v1 v2_6 (200 : Int32) σ h
  · refine J_bipush (v := (99 : Int32)) hX dX5_readSetting_61 (by decide) ?_
    refine J_goto (tgt := 82) hX dX5_readSetting_63 rfl ?_
    refine J_sub [1, 2, 0] rfl ?_
    exact tX_readSetting_82 hX hw hg hR hr v1 v2_6 (99 : Int32) σ h

def rX_readSetting_26 (v1 : Nat) (s0 : Int32) (σ : St) : Option (Int32 × St) :=
  bnd2 (rX_isFirst s0 σ) fun r_3 σ_1 => brc (¬ r_3 = 0) (bnd1 (rX_tstep σ_1) fun σ_4 => chk (decide (v1 < 42 ∧ 15 < 42)) (brc (¬ v1 = 15) (rX_readSetting_53 v1 (0 : Int32) σ_4) (rX_readSetting_53 v1 (1 : Int32) σ_4))) (chk (decide ((0 : Int32) = 0 ∨ (0 : Int32) = 1)) (some ((0 : Int32), σ_1)))
set_option maxRecDepth 100000 in
theorem tX_readSetting_26 {X : CX} (hX : gd X cX5_readSetting 4 RX5 (some .boolean)) (hw : isX (xw X)) (hg : nA X) (hR : xR X = rmOf 8 173 0 0) {r : Int32} {τ : St} (hr : xr X = (some (.int r), τ)) (v1 : Nat) (s0 : Int32) (σ : St) (h : rX_readSetting_26 v1 s0 σ = some (r, τ)) : Jd X 4 26 [(0, .ref (wad (xw X) 7)), (1, .ref (wadW (xw X) v1))] [.int s0, .ref (wad (xw X) 7)] σ := by
  unfold rX_readSetting_26 at h
  obtain ⟨r_3, σ_1, hc_2, h⟩ := bnd2_some h
  refine K_callV [.int s0] hX hg hR (ctX_isFirst hw hc_2) lk_X5_213_X5_isFirst md_X5_isFirst (xc_7 hw) cls_X5 ⟨by decide, by decide⟩ rfl rfl (Nat.le_of_ble_eq_true rfl) dX5_readSetting_26 ?_
  refine K_if_ne (tgt := 34) hX dX5_readSetting_29 rfl h (fun h => ?_) (fun h => ?_)
  · refine J_aload_n (q := 0) hX dX5_readSetting_34 rfl rfl ?_
    refine K_getc 5 hX (xc_7 hw) cls_X5 (k := 0) (by decide) uw_1_216 rfl dX5_readSetting_35 ?_
    obtain ⟨σ_4, hc_5, h⟩ := bnd1_some h
    refine K_callV [] hX hg hR (ctX_tstep hw hc_5) lk_X5_123_X8_step md_X8_step (xc_5 hw) cls_X8 ⟨by decide, by decide⟩ rfl rfl (Nat.le_of_ble_eq_true rfl) dX5_readSetting_38 ?_
    refine J_aload_n (q := 1) hX dX5_readSetting_41 rfl rfl ?_
    refine K_gWord 15 hX hw (by decide) uw_4_96 dX5_readSetting_42 ?_
    refine K_acmp_ne (tgt := 52) hX hw dX5_readSetting_45 rfl h (fun h => ?_) (fun h => ?_)
    · refine J_iconst (v := (0 : Int32)) hX dX5_readSetting_52 (by decide) ?_
      refine J_sub [0, 1] rfl ?_
      exact tX_readSetting_53 hX hw hg hR hr v1 (0 : Int32) σ_4 h
    · refine J_iconst (v := (1 : Int32)) hX dX5_readSetting_48 (by decide) ?_
      refine J_goto (tgt := 53) hX dX5_readSetting_49 rfl ?_
      refine J_sub [0, 1] rfl ?_
      exact tX_readSetting_53 hX hw hg hR hr v1 (1 : Int32) σ_4 h
  · refine J_iconst (v := (0 : Int32)) hX dX5_readSetting_32 (by decide) ?_
    exact K_zret hX hr dX5_readSetting_33 h

def rX_readSetting (v1 : Nat) (σ : St) : Option (Int32 × St) :=
  chk (decide (v1 < 42 ∧ 13 < 42)) (brc (¬ v1 = 13) (chk (decide (v1 < 42 ∧ 14 < 42)) (brc (¬ v1 = 14) (rX_readSetting_26 v1 (16 : Int32) σ) (rX_readSetting_26 v1 (8 : Int32) σ))) (rX_readSetting_26 v1 (4 : Int32) σ))
set_option maxRecDepth 100000 in
theorem tX_readSetting {X : CX} (hX : gd X cX5_readSetting 4 RX5 (some .boolean)) (hw : isX (xw X)) (hg : nA X) (hR : xR X = rmOf 8 173 0 0) {r : Int32} {τ : St} (hr : xr X = (some (.int r), τ)) (v1 : Nat) (σ : St) (h : rX_readSetting v1 σ = some (r, τ)) : Jd X 4 0 [(0, .ref (wad (xw X) 7)), (1, .ref (wadW (xw X) v1))] [] σ := by
  unfold rX_readSetting at h
  refine J_aload_n (q := 0) hX dX5_readSetting_0 rfl rfl ?_
  refine J_aload_n (q := 1) hX dX5_readSetting_1 rfl rfl ?_
  refine K_gWord 13 hX hw (by decide) uw_4_92 dX5_readSetting_2 ?_
  refine K_acmp_ne (tgt := 12) hX hw dX5_readSetting_5 rfl h (fun h => ?_) (fun h => ?_)
  · refine J_aload_n (q := 1) hX dX5_readSetting_12 rfl rfl ?_
    refine K_gWord 14 hX hw (by decide) uw_4_94 dX5_readSetting_13 ?_
    refine K_acmp_ne (tgt := 24) hX hw dX5_readSetting_16 rfl h (fun h => ?_) (fun h => ?_)
    · refine J_bipush (v := (16 : Int32)) hX dX5_readSetting_24 (by decide) ?_
      refine J_sub [0, 1] rfl ?_
      exact tX_readSetting_26 hX hw hg hR hr v1 (16 : Int32) σ h
    · refine J_bipush (v := (8 : Int32)) hX dX5_readSetting_19 (by decide) ?_
      refine J_goto (tgt := 26) hX dX5_readSetting_21 rfl ?_
      refine J_sub [0, 1] rfl ?_
      exact tX_readSetting_26 hX hw hg hR hr v1 (8 : Int32) σ h
  · refine J_iconst (v := (4 : Int32)) hX dX5_readSetting_8 (by decide) ?_
    refine J_goto (tgt := 26) hX dX5_readSetting_9 rfl ?_
    refine J_sub [0, 1] rfl ?_
    exact tX_readSetting_26 hX hw hg hR hr v1 (4 : Int32) σ h
theorem ctX_readSetting {w : WT} (hw : isX w) {v1 : Nat} {σ : St} {r : Int32} {τ : St} (h : rX_readSetting v1 σ = some (r, τ)) : Ct yX5_readSetting cX5_readSetting 4 (some .boolean) 8 173 w [.ref (wad w 7), .ref (wadW w v1)] σ (some (.int r)) τ 0 0 :=
  Ct_intro (fun _ => (0, 0)) (by decide) rfl ⟨rfl, Nat.le_refl _⟩ (Nat.le_of_ble_eq_true rfl) (fun X hX hR hwX hg hr => by subst hwX; exact tX_readSetting hX hw hg hR hr v1 σ h)
