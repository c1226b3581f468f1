def rX_goOver_149 (s0 : Int32) (s1 : Int32) (σ : St) : Option (St) :=
  nm (setI σ 46 6 (s1 + s0)) fun σ_9 => some σ_9
set_option maxRecDepth 100000 in
theorem tX_goOver_149 {X : CX} (hX : gd X cX9_goOver 8 RX9 none) (hw : isX (xw X)) (hg : nA X) (hR : xR X = rmOf 1 21 0 0) {τ : St} (hr : xr X = (none, τ)) (s0 : Int32) (s1 : Int32) (σ : St) (h : rX_goOver_149 s0 s1 σ = some τ) : Jd X 8 149 [] [.int s0, .int s1, .ref (wad (xw X) 46)] σ := by
  unfold rX_goOver_149 at h
  refine J_iadd hX dX9_goOver_149 ?_
  refine K_puti hX (xc_46 hw) cls_X9 (k := 6) (by decide) uw_2_104 rfl rfl rfl dX9_goOver_150 h (fun σ_9 h => ?_)
  exact K_vret hX hr dX9_goOver_153 h

def rX_goOver_93 (v5 : Int32) (v6 : Int32) (v7 : Int32) (σ : St) : Option (St) :=
  nm (if (σ.1 46 5) < v7 then (σ.1 46 5) else v7) fun v7_6 => nm (setI σ 46 5 ((σ.1 46 5) - v7_6)) fun σ_7 => nm (setI σ_7 46 8 ((σ_7.1 46 8) + v7_6)) fun σ_8 => brc (¬ v6 = (2 : Int32)) (rX_goOver_149 v5 (σ_8.1 46 6) σ_8) (chk (decide (¬ (2 : Int32) = 0)) (rX_goOver_149 (v5 + (v5 / (2 : Int32))) (σ_8.1 46 6) σ_8))
set_option maxRecDepth 100000 in
theorem tX_goOver_93 {X : CX} (hX : gd X cX9_goOver 8 RX9 none) (hw : isX (xw X)) (hg : nA X) (hR : xR X = rmOf 1 21 0 0) {τ : St} (hr : xr X = (none, τ)) (v5 : Int32) (v6 : Int32) (v7 : Int32) (σ : St) (h : rX_goOver_93 v5 v6 v7 σ = some τ) : Jd X 8 93 [(0, .ref (wad (xw X) 46)), (5, .int v5), (6, .int v6), (7, .int v7)] [] σ := by
  unfold rX_goOver_93 at h
  refine J_iload (q := 3) hX dX9_goOver_93 rfl ?_
  refine J_aload_n (q := 0) hX dX9_goOver_95 rfl rfl ?_
  refine K_geti hX (xc_46 hw) cls_X9 (k := 5) (by decide) uw_2_100 rfl dX9_goOver_96 ?_
  refine K_min hX hR hg lmath_min_X9_87 ⟨by omega, by omega⟩ (Nat.le_of_ble_eq_true rfl) dX9_goOver_99 ?_
  refine K_istore (fun v7_6 => [(7, .int v7_6), (0, .ref (wad (xw X) 46)), (5, .int v5), (6, .int v6)]) hX dX9_goOver_102 (by decide) (fun _ => rfl) h (fun v7_6 h => ?_)
  refine J_aload_n (q := 1) hX dX9_goOver_104 rfl rfl ?_
  refine J_dup hX dX9_goOver_105 rfl ?_
  refine K_geti hX (xc_46 hw) cls_X9 (k := 5) (by decide) uw_2_100 rfl dX9_goOver_106 ?_
  refine J_iload (q := 0) hX dX9_goOver_109 rfl ?_
  refine J_isub hX dX9_goOver_111 ?_
  refine K_puti hX (xc_46 hw) cls_X9 (k := 5) (by decide) uw_2_100 rfl rfl rfl dX9_goOver_112 h (fun σ_7 h => ?_)
  refine J_aload_n (q := 1) hX dX9_goOver_115 rfl rfl ?_
  refine J_dup hX dX9_goOver_116 rfl ?_
  refine K_geti hX (xc_46 hw) cls_X9 (k := 8) (by decide) uw_2_110 rfl dX9_goOver_117 ?_
  refine J_iload (q := 0) hX dX9_goOver_120 rfl ?_
  refine J_iadd hX dX9_goOver_122 ?_
  refine K_puti hX (xc_46 hw) cls_X9 (k := 8) (by decide) uw_2_110 rfl rfl rfl dX9_goOver_123 h (fun σ_8 h => ?_)
  refine J_aload_n (q := 1) hX dX9_goOver_126 rfl rfl ?_
  refine J_dup hX dX9_goOver_127 rfl ?_
  refine K_geti hX (xc_46 hw) cls_X9 (k := 6) (by decide) uw_2_104 rfl dX9_goOver_128 ?_
  refine J_iload (q := 3) hX dX9_goOver_131 rfl ?_
  refine J_iconst (v := (2 : Int32)) hX dX9_goOver_133 (by decide) ?_
  refine K_icmp_ne (tgt := 147) hX dX9_goOver_134 rfl h (fun h => ?_) (fun h => ?_)
  · refine J_iload (q := 2) hX dX9_goOver_147 rfl ?_
    refine J_sub [] rfl ?_
    exact tX_goOver_149 hX hw hg hR hr v5 (σ_8.1 46 6) σ_8 h
  · refine J_iload (q := 2) hX dX9_goOver_137 rfl ?_
    refine J_iload (q := 2) hX dX9_goOver_139 rfl ?_
    refine J_iconst (v := (2 : Int32)) hX dX9_goOver_141 (by decide) ?_
    refine K_idiv hX dX9_goOver_142 h (fun h => ?_)
    refine J_iadd hX dX9_goOver_143 ?_
    refine J_goto (tgt := 149) hX dX9_goOver_144 rfl ?_
    refine J_sub [] rfl ?_
    exact tX_goOver_149 hX hw hg hR hr (v5 + (v5 / (2 : Int32))) (σ_8.1 46 6) σ_8 h

def rX_goOver_72 (v4 : Int32) (v5 : Int32) (v6 : Int32) (v7 : Int32) (σ : St) : Option (St) :=
  brc (v6 = (1 : Int32)) (rX_goOver_93 v5 v6 v7 σ) (chk (ib v4 49) (nm (v7 + (σ.1 27 v4.toNatClampNeg)) fun v7_10 => rX_goOver_93 v5 v6 v7_10 σ))
set_option maxRecDepth 100000 in
theorem tX_goOver_72 {X : CX} (hX : gd X cX9_goOver 8 RX9 none) (hw : isX (xw X)) (hg : nA X) (hR : xR X = rmOf 1 21 0 0) {τ : St} (hr : xr X = (none, τ)) (v4 : Int32) (v5 : Int32) (v6 : Int32) (v7 : Int32) (σ : St) (h : rX_goOver_72 v4 v5 v6 v7 σ = some τ) : Jd X 8 72 [(0, .ref (wad (xw X) 46)), (4, .int v4), (5, .int v5), (6, .int v6), (7, .int v7)] [] σ := by
  unfold rX_goOver_72 at h
  refine J_iload (q := 3) hX dX9_goOver_72 rfl ?_
  refine J_iconst (v := (1 : Int32)) hX dX9_goOver_74 (by decide) ?_
  refine K_icmp_eq (tgt := 93) hX dX9_goOver_75 rfl h (fun h => ?_) (fun h => ?_)
  · refine J_sub [0, 2, 3, 4] rfl ?_
    exact tX_goOver_93 hX hw hg hR hr v5 v6 v7 σ h
  · refine J_iload (q := 4) hX dX9_goOver_78 rfl ?_
    refine J_aload_n (q := 0) hX dX9_goOver_80 rfl rfl ?_
    refine K_getc 23 hX (xc_46 hw) cls_X9 (k := 0) (by decide) uw_2_95 rfl dX9_goOver_81 ?_
    refine K_getc 27 hX (xc_23 hw) cls_X3 (k := 6) (by decide) uw_1_113 rfl dX9_goOver_84 ?_
    refine J_iload (q := 1) hX dX9_goOver_87 rfl ?_
    refine K_iald hX (xc_27 hw) dX9_goOver_89 h (fun h => ?_)
    refine J_iadd hX dX9_goOver_90 ?_
    refine K_istore (fun v7_10 => [(7, .int v7_10), (0, .ref (wad (xw X) 46)), (4, .int v4), (5, .int v5), (6, .int v6)]) hX dX9_goOver_91 (by decide) (fun _ => rfl) h (fun v7_10 h => ?_)
    refine J_sub [1, 3, 4, 0] rfl ?_
    exact tX_goOver_93 hX hw hg hR hr v5 v6 v7_10 σ h

def rX_goOver_66 (v4 : Int32) (v5 : Int32) (v6 : Int32) (v7 : Int32) (σ : St) : Option (St) :=
  chk (decide (¬ (2 : Int32) = 0)) (nm (v7 / (2 : Int32)) fun v7_5 => rX_goOver_72 v4 v5 v6 v7_5 σ)
set_option maxRecDepth 100000 in
theorem tX_goOver_66 {X : CX} (hX : gd X cX9_goOver 8 RX9 none) (hw : isX (xw X)) (hg : nA X) (hR : xR X = rmOf 1 21 0 0) {τ : St} (hr : xr X = (none, τ)) (v4 : Int32) (v5 : Int32) (v6 : Int32) (v7 : Int32) (σ : St) (h : rX_goOver_66 v4 v5 v6 v7 σ = some τ) : Jd X 8 66 [(0, .ref (wad (xw X) 46)), (4, .int v4), (5, .int v5), (6, .int v6), (7, .int v7)] [] σ := by
  unfold rX_goOver_66 at h
  refine J_iload (q := 4) hX dX9_goOver_66 rfl ?_
  refine J_iconst (v := (2 : Int32)) hX dX9_goOver_68 (by decide) ?_
  refine K_idiv hX dX9_goOver_69 h (fun h => ?_)
  refine K_istore (fun v7_5 => [(7, .int v7_5), (0, .ref (wad (xw X) 46)), (4, .int v4), (5, .int v5), (6, .int v6)]) hX dX9_goOver_70 (by decide) (fun _ => rfl) h (fun v7_5 h => ?_)
  refine J_sub [1, 2, 3, 4, 0] rfl ?_
  exact tX_goOver_72 hX hw hg hR hr v4 v5 v6 v7_5 σ h

def rX_goOver (v1 : Int32) (v2 : Int32) (v3 : Int32) (σ : St) : Option (St) :=
  nm ((v2 * (7 : Int32)) + v3) fun v4_1 => chk (ib v4_1 49) (nm (σ.1 26 v4_1.toNatClampNeg) fun v5_2 => chk (ib v1 6) (nm (σ.1 28 v1.toNatClampNeg) fun v6_3 => chk (ib v1 6) (chk (decide (¬ (10 : Int32) = 0)) (nm (((σ.1 30 v1.toNatClampNeg) * v5_2) / (10 : Int32)) fun v7_4 => brc (v6_3 = (4 : Int32)) (rX_goOver_66 v4_1 v5_2 v6_3 v7_4 σ) (chk (ib v1 6) (brc ((σ.1 37 v1.toNatClampNeg) = 0) (rX_goOver_72 v4_1 v5_2 v6_3 v7_4 σ) (rX_goOver_66 v4_1 v5_2 v6_3 v7_4 σ)))))))
set_option maxRecDepth 100000 in
theorem tX_goOver {X : CX} (hX : gd X cX9_goOver 8 RX9 none) (hw : isX (xw X)) (hg : nA X) (hR : xR X = rmOf 1 21 0 0) {τ : St} (hr : xr X = (none, τ)) (v1 : Int32) (v2 : Int32) (v3 : Int32) (σ : St) (h : rX_goOver v1 v2 v3 σ = some τ) : Jd X 8 0 [(0, .ref (wad (xw X) 46)), (1, .int v1), (2, .int v2), (3, .int v3)] [] σ := by
  unfold rX_goOver at h
  refine J_iload_n (q := 2) hX dX9_goOver_0 rfl rfl ?_
  refine J_bipush (v := (7 : Int32)) hX dX9_goOver_1 (by decide) ?_
  refine J_imul hX dX9_goOver_3 ?_
  refine J_iload_n (q := 3) hX dX9_goOver_4 rfl rfl ?_
  refine J_iadd hX dX9_goOver_5 ?_
  refine K_istore (fun v4_1 => [(4, .int v4_1), (0, .ref (wad (xw X) 46)), (1, .int v1), (2, .int v2), (3, .int v3)]) hX dX9_goOver_6 (by decide) (fun _ => rfl) h (fun v4_1 h => ?_)
  refine J_aload_n (q := 1) hX dX9_goOver_8 rfl rfl ?_
  refine K_getc 23 hX (xc_46 hw) cls_X9 (k := 0) (by decide) uw_2_95 rfl dX9_goOver_9 ?_
  refine K_getc 26 hX (xc_23 hw) cls_X3 (k := 5) (by decide) uw_1_110 rfl dX9_goOver_12 ?_
  refine J_iload (q := 0) hX dX9_goOver_15 rfl ?_
  refine K_iald hX (xc_26 hw) dX9_goOver_17 h (fun h => ?_)
  refine K_istore (fun v5_2 => [(5, .int v5_2), (4, .int v4_1), (0, .ref (wad (xw X) 46)), (1, .int v1), (2, .int v2), (3, .int v3)]) hX dX9_goOver_18 (by decide) (fun _ => rfl) h (fun v5_2 h => ?_)
  refine J_aload_n (q := 2) hX dX9_goOver_20 rfl rfl ?_
  refine K_getc 23 hX (xc_46 hw) cls_X9 (k := 0) (by decide) uw_2_95 rfl dX9_goOver_21 ?_
  refine K_getc 28 hX (xc_23 hw) cls_X3 (k := 7) (by decide) uw_1_116 rfl dX9_goOver_24 ?_
  refine J_iload_n (q := 3) hX dX9_goOver_27 rfl rfl ?_
  refine K_iald hX (xc_28 hw) dX9_goOver_28 h (fun h => ?_)
  refine K_istore (fun v6_3 => [(6, .int v6_3), (5, .int v5_2), (4, .int v4_1), (0, .ref (wad (xw X) 46)), (1, .int v1), (2, .int v2), (3, .int v3)]) hX dX9_goOver_29 (by decide) (fun _ => rfl) h (fun v6_3 h => ?_)
  refine J_aload_n (q := 3) hX dX9_goOver_31 rfl rfl ?_
  refine K_getc 23 hX (xc_46 hw) cls_X9 (k := 0) (by decide) uw_2_95 rfl dX9_goOver_32 ?_
  refine K_getc 30 hX (xc_23 hw) cls_X3 (k := 9) (by decide) uw_1_122 rfl dX9_goOver_35 ?_
  refine J_iload_n (q := 4) hX dX9_goOver_38 rfl rfl ?_
  refine K_iald hX (xc_30 hw) dX9_goOver_39 h (fun h => ?_)
  refine J_iload (q := 1) hX dX9_goOver_40 rfl ?_
  refine J_imul hX dX9_goOver_42 ?_
  refine J_bipush (v := (10 : Int32)) hX dX9_goOver_43 (by decide) ?_
  refine K_idiv hX dX9_goOver_45 h (fun h => ?_)
  refine K_istore (fun v7_4 => [(7, .int v7_4), (6, .int v6_3), (5, .int v5_2), (4, .int v4_1), (0, .ref (wad (xw X) 46)), (1, .int v1), (2, .int v2), (3, .int v3)]) hX dX9_goOver_46 (by decide) (fun _ => rfl) h (fun v7_4 h => ?_)
  refine J_iload (q := 1) hX dX9_goOver_48 rfl ?_
  refine J_iconst (v := (4 : Int32)) hX dX9_goOver_50 (by decide) ?_
  refine K_icmp_eq (tgt := 66) hX dX9_goOver_51 rfl h (fun h => ?_) (fun h => ?_)
  · refine J_sub [4, 3, 2, 1, 0] rfl ?_
    exact tX_goOver_66 hX hw hg hR hr v4_1 v5_2 v6_3 v7_4 σ h
  · refine J_aload_n (q := 4) hX dX9_goOver_54 rfl rfl ?_
    refine K_getc 33 hX (xc_46 hw) cls_X9 (k := 1) (by decide) uw_2_96 rfl dX9_goOver_55 ?_
    refine K_getc 37 hX (xc_33 hw) cls_X0 (k := 8) (by decide) uw_2_30 rfl dX9_goOver_58 ?_
    refine J_iload_n (q := 5) hX dX9_goOver_61 rfl rfl ?_
    refine K_iald hX (xc_37 hw) dX9_goOver_62 h (fun h => ?_)
    refine K_if_eq (tgt := 72) hX dX9_goOver_63 rfl h (fun h => ?_) (fun h => ?_)
    · refine J_sub [4, 3, 2, 1, 0] rfl ?_
      exact tX_goOver_72 hX hw hg hR hr v4_1 v5_2 v6_3 v7_4 σ h
    · refine J_sub [4, 3, 2, 1, 0] rfl ?_
      exact tX_goOver_66 hX hw hg hR hr v4_1 v5_2 v6_3 v7_4 σ h
theorem ctX_goOver {w : WT} (hw : isX w) {v1 : Int32} {v2 : Int32} {v3 : Int32} {σ : St} {τ : St} (h : rX_goOver v1 v2 v3 σ = some τ) : Ct yX9_goOver cX9_goOver 8 none 1 21 w [.ref (wad w 46), .int v1, .int v2, .int v3] σ none τ 0 0 :=
  Ct_intro (fun _ => (0, 0)) (by decide) rfl ⟨rfl, Nat.le_refl _⟩ (Nat.le_of_ble_eq_true rfl) (fun X hX hR hwX hg hr => by subst hwX; exact tX_goOver hX hw hg hR hr v1 v2 v3 σ h)

def rX_gather_68 (v2 : Int32) (v3 : Int32) (σ : St) : Option (St) :=
  chk (ib v2 7) (nm (if (v3 - (σ.1 46 5)) < (σ.1 34 v2.toNatClampNeg) then (v3 - (σ.1 46 5)) else (σ.1 34 v2.toNatClampNeg)) fun v4_5 => chk (ib v2 7) (chk (ib v2 7) (nm (setI σ 34 v2.toNatClampNeg ((σ.1 34 v2.toNatClampNeg) - v4_5)) fun σ_6 => nm (setI σ_6 46 5 ((σ_6.1 46 5) + v4_5)) fun σ_7 => some σ_7)))
set_option maxRecDepth 100000 in
theorem tX_gather_68 {X : CX} (hX : gd X cX9_gather 5 RX9 none) (hw : isX (xw X)) (hg : nA X) (hR : xR X = rmOf 1 21 0 0) {τ : St} (hr : xr X = (none, τ)) (v2 : Int32) (v3 : Int32) (σ : St) (h : rX_gather_68 v2 v3 σ = some τ) : Jd X 5 68 [(0, .ref (wad (xw X) 46)), (2, .int v2), (3, .int v3)] [] σ := by
  unfold rX_gather_68 at h
  refine J_aload_n (q := 0) hX dX9_gather_68 rfl rfl ?_
  refine K_getc 33 hX (xc_46 hw) cls_X9 (k := 1) (by decide) uw_2_96 rfl dX9_gather_69 ?_
  refine K_getc 34 hX (xc_33 hw) cls_X0 (k := 5) (by decide) uw_2_24 rfl dX9_gather_72 ?_
  refine J_iload_n (q := 1) hX dX9_gather_75 rfl rfl ?_
  refine K_iald hX (xc_34 hw) dX9_gather_76 h (fun h => ?_)
  refine J_iload_n (q := 2) hX dX9_gather_77 rfl rfl ?_
  refine J_aload_n (q := 0) hX dX9_gather_78 rfl rfl ?_
  refine K_geti hX (xc_46 hw) cls_X9 (k := 5) (by decide) uw_2_100 rfl dX9_gather_79 ?_
  refine J_isub hX dX9_gather_82 ?_
  refine K_min hX hR hg lmath_min_X9_87 ⟨by omega, by omega⟩ (Nat.le_of_ble_eq_true rfl) dX9_gather_83 ?_
  refine K_istore (fun v4_5 => [(4, .int v4_5), (0, .ref (wad (xw X) 46)), (2, .int v2), (3, .int v3)]) hX dX9_gather_86 (by decide) (fun _ => rfl) h (fun v4_5 h => ?_)
  refine J_aload_n (q := 1) hX dX9_gather_88 rfl rfl ?_
  refine K_getc 33 hX (xc_46 hw) cls_X9 (k := 1) (by decide) uw_2_96 rfl dX9_gather_89 ?_
  refine K_getc 34 hX (xc_33 hw) cls_X0 (k := 5) (by decide) uw_2_24 rfl dX9_gather_92 ?_
  refine J_iload_n (q := 2) hX dX9_gather_95 rfl rfl ?_
  refine J_dup2 hX dX9_gather_96 rfl rfl ?_
  refine K_iald hX (xc_34 hw) dX9_gather_97 h (fun h => ?_)
  refine J_iload (q := 0) hX dX9_gather_98 rfl ?_
  refine J_isub hX dX9_gather_100 ?_
  refine K_iast hX (xc_34 hw) dX9_gather_101 h (fun σ_6 h => ?_)
  refine J_aload_n (q := 1) hX dX9_gather_102 rfl rfl ?_
  refine J_dup hX dX9_gather_103 rfl ?_
  refine K_geti hX (xc_46 hw) cls_X9 (k := 5) (by decide) uw_2_100 rfl dX9_gather_104 ?_
  refine J_iload (q := 0) hX dX9_gather_107 rfl ?_
  refine J_iadd hX dX9_gather_109 ?_
  refine K_puti hX (xc_46 hw) cls_X9 (k := 5) (by decide) uw_2_100 rfl rfl rfl dX9_gather_110 h (fun σ_7 h => ?_)
  exact K_vret hX hr dX9_gather_113 h

def rX_gather_53 (v2 : Int32) (v3 : Int32) (v4 : Int32) (σ : St) : Option (St) :=
  nm (setI σ 46 5 (if ((σ.1 46 5) + v4) < v3 then ((σ.1 46 5) + v4) else v3)) fun σ_12 => rX_gather_68 v2 v3 σ_12
set_option maxRecDepth 100000 in
theorem tX_gather_53 {X : CX} (hX : gd X cX9_gather 5 RX9 none) (hw : isX (xw X)) (hg : nA X) (hR : xR X = rmOf 1 21 0 0) {τ : St} (hr : xr X = (none, τ)) (v2 : Int32) (v3 : Int32) (v4 : Int32) (σ : St) (h : rX_gather_53 v2 v3 v4 σ = some τ) : Jd X 5 53 [(0, .ref (wad (xw X) 46)), (2, .int v2), (3, .int v3), (4, .int v4)] [] σ := by
  unfold rX_gather_53 at h
  refine J_aload_n (q := 0) hX dX9_gather_53 rfl rfl ?_
  refine J_iload_n (q := 2) hX dX9_gather_54 rfl rfl ?_
  refine J_aload_n (q := 0) hX dX9_gather_55 rfl rfl ?_
  refine K_geti hX (xc_46 hw) cls_X9 (k := 5) (by decide) uw_2_100 rfl dX9_gather_56 ?_
  refine J_iload (q := 3) hX dX9_gather_59 rfl ?_
  refine J_iadd hX dX9_gather_61 ?_
  refine K_min hX hR hg lmath_min_X9_87 ⟨by omega, by omega⟩ (Nat.le_of_ble_eq_true rfl) dX9_gather_62 ?_
  refine K_puti hX (xc_46 hw) cls_X9 (k := 5) (by decide) uw_2_100 rfl rfl rfl dX9_gather_65 h (fun σ_12 h => ?_)
  refine J_sub [0, 1, 2] rfl ?_
  exact tX_gather_68 hX hw hg hR hr v2 v3 σ_12 h

def rX_gather (v1 : Int32) (v2 : Int32) (σ : St) : Option (St) :=
  bnd2 (rX_holds v1 σ) fun r_3 σ_1 => nm r_3 fun v3_4 => chk (ib v2 7) (brc ((σ_1.1 24 v2.toNatClampNeg) < (σ_1.1 23 14)) (rX_gather_68 v2 v3_4 σ_1) (bnd2 (rX_drawBelowFour σ_1) fun r_10 σ_8 => nm r_10 fun v4_11 => chk (ib v1 6) (brc (¬ (σ_8.1 28 v1.toNatClampNeg) = (5 : Int32)) (rX_gather_53 v2 v3_4 v4_11 σ_8) (nm (v4_11 + Int32.ofInt 1) fun v4_13 => rX_gather_53 v2 v3_4 v4_13 σ_8))))
set_option maxRecDepth 100000 in
theorem tX_gather {X : CX} (hX : gd X cX9_gather 5 RX9 none) (hw : isX (xw X)) (hg : nA X) (hR : xR X = rmOf 1 21 0 0) {τ : St} (hr : xr X = (none, τ)) (v1 : Int32) (v2 : Int32) (σ : St) (h : rX_gather v1 v2 σ = some τ) : Jd X 5 0 [(0, .ref (wad (xw X) 46)), (1, .int v1), (2, .int v2)] [] σ := by
  unfold rX_gather at h
  refine J_aload_n (q := 0) hX dX9_gather_0 rfl rfl ?_
  refine K_getc 23 hX (xc_46 hw) cls_X9 (k := 0) (by decide) uw_2_95 rfl dX9_gather_1 ?_
  refine J_iload_n (q := 1) hX dX9_gather_4 rfl rfl ?_
  obtain ⟨r_3, σ_1, hc_2, h⟩ := bnd2_some h
  refine K_callV [.int v1] hX hg hR (ctX_holds hw hc_2) lk_X9_92_X3_holds md_X3_holds (xc_23 hw) cls_X3 ⟨by decide, by decide⟩ rfl rfl (Nat.le_of_ble_eq_true rfl) dX9_gather_5 ?_
  refine K_istore_n (fun v3_4 => [(3, .int v3_4), (0, .ref (wad (xw X) 46)), (1, .int v1), (2, .int v2)]) hX dX9_gather_8 rfl (by decide) (fun _ => rfl) h (fun v3_4 h => ?_)
  refine J_aload_n (q := 1) hX dX9_gather_9 rfl rfl ?_
  refine K_getc 23 hX (xc_46 hw) cls_X9 (k := 0) (by decide) uw_2_95 rfl dX9_gather_10 ?_
  refine K_getc 24 hX (xc_23 hw) cls_X3 (k := 3) (by decide) uw_1_103 rfl dX9_gather_13 ?_
  refine J_iload_n (q := 3) hX dX9_gather_16 rfl rfl ?_
  refine K_iald hX (xc_24 hw) dX9_gather_17 h (fun h => ?_)
  refine J_aload_n (q := 1) hX dX9_gather_18 rfl rfl ?_
  refine K_getc 23 hX (xc_46 hw) cls_X9 (k := 0) (by decide) uw_2_95 rfl dX9_gather_19 ?_
  refine K_geti hX (xc_23 hw) cls_X3 (k := 14) (by decide) uw_1_140 rfl dX9_gather_22 ?_
  refine K_icmp_lt (tgt := 68) hX dX9_gather_25 rfl h (fun h => ?_) (fun h => ?_)
  · refine J_sub [1, 3, 0] rfl ?_
    exact tX_gather_68 hX hw hg hR hr v2 v3_4 σ_1 h
  · refine J_aload_n (q := 1) hX dX9_gather_28 rfl rfl ?_
    refine K_getc 33 hX (xc_46 hw) cls_X9 (k := 1) (by decide) uw_2_96 rfl dX9_gather_29 ?_
    obtain ⟨r_10, σ_8, hc_9, h⟩ := bnd2_some h
    refine K_callV [] hX hg hR (ctX_drawBelowFour hw hc_9) lk_X9_101_X0_drawBelowFour md_X0_drawBelowFour (xc_33 hw) cls_X0 ⟨by decide, by decide⟩ rfl rfl (Nat.le_of_ble_eq_true rfl) dX9_gather_32 ?_
    refine K_istore (fun v4_11 => [(4, .int v4_11), (3, .int v3_4), (0, .ref (wad (xw X) 46)), (1, .int v1), (2, .int v2)]) hX dX9_gather_35 (by decide) (fun _ => rfl) h (fun v4_11 h => ?_)
    refine J_aload_n (q := 2) hX dX9_gather_37 rfl rfl ?_
    refine K_getc 23 hX (xc_46 hw) cls_X9 (k := 0) (by decide) uw_2_95 rfl dX9_gather_38 ?_
    refine K_getc 28 hX (xc_23 hw) cls_X3 (k := 7) (by decide) uw_1_116 rfl dX9_gather_41 ?_
    refine J_iload_n (q := 3) hX dX9_gather_44 rfl rfl ?_
    refine K_iald hX (xc_28 hw) dX9_gather_45 h (fun h => ?_)
    refine J_iconst (v := (5 : Int32)) hX dX9_gather_46 (by decide) ?_
    refine K_icmp_ne (tgt := 53) hX dX9_gather_47 rfl h (fun h => ?_) (fun h => ?_)
    · refine J_sub [2, 4, 1, 0] rfl ?_
      exact tX_gather_53 hX hw hg hR hr v2 v3_4 v4_11 σ_8 h
    · refine K_iinc (q := 0) (fun v4_13 => [(4, .int v4_13), (3, .int v3_4), (0, .ref (wad (xw X) 46)), (1, .int v1), (2, .int v2)]) hX dX9_gather_50 rfl (by decide) (fun _ => rfl) h (fun v4_13 h => ?_)
      refine J_sub [2, 4, 1, 0] rfl ?_
      exact tX_gather_53 hX hw hg hR hr v2 v3_4 v4_13 σ_8 h
theorem ctX_gather {w : WT} (hw : isX w) {v1 : Int32} {v2 : Int32} {σ : St} {τ : St} (h : rX_gather v1 v2 σ = some τ) : Ct yX9_gather cX9_gather 5 none 1 21 w [.ref (wad w 46), .int v1, .int v2] σ none τ 0 0 :=
  Ct_intro (fun _ => (0, 0)) (by decide) rfl ⟨rfl, Nat.le_refl _⟩ (Nat.le_of_ble_eq_true rfl) (fun X hX hR hwX hg hr => by subst hwX; exact tX_gather hX hw hg hR hr v1 v2 σ h)

def rX_drinkAt_124 (v5 : Int64) (σ : St) : Option (Int32 × St) :=
  nm ((if (if ((σ.1 46 5).toInt64) < v5 then ((σ.1 46 5).toInt64) else v5) < (0 : Int64) then (0 : Int64) else (if ((σ.1 46 5).toInt64) < v5 then ((σ.1 46 5).toInt64) else v5)).toInt32) fun v7_15 => nm (setI σ 46 5 ((σ.1 46 5) - v7_15)) fun σ_16 => nm (setI σ_16 46 7 ((σ_16.1 46 7) + v7_15)) fun σ_17 => some (v7_15, σ_17)
set_option maxRecDepth 100000 in
theorem tX_drinkAt_124 {X : CX} (hX : gd X cX9_drinkAt 8 RX9 (some .int)) (hw : isX (xw X)) (hg : nA X) (hR : xR X = rmOf 2 47 0 0) {r : Int32} {τ : St} (hr : xr X = (some (.int r), τ)) (v5 : Int64) (σ : St) (h : rX_drinkAt_124 v5 σ = some (r, τ)) : Jd X 8 124 [(0, .ref (wad (xw X) 46)), (5, .long v5)] [] σ := by
  unfold rX_drinkAt_124 at h
  refine J_lconst (v := 0) hX dX9_drinkAt_124 (by decide) ?_
  refine J_lload (q := 1) hX dX9_drinkAt_125 rfl ?_
  refine J_aload_n (q := 0) hX dX9_drinkAt_127 rfl rfl ?_
  refine K_geti hX (xc_46 hw) cls_X9 (k := 5) (by decide) uw_2_100 rfl dX9_drinkAt_128 ?_
  refine J_i2l hX dX9_drinkAt_131 ?_
  refine K_lmin hX hR hg lmathl_min_X9_123 ⟨by omega, by omega⟩ (Nat.le_of_ble_eq_true rfl) dX9_drinkAt_132 ?_
  refine K_lmax hX hR hg lmathl_max_X9_126 ⟨by omega, by omega⟩ (Nat.le_of_ble_eq_true rfl) dX9_drinkAt_135 ?_
  refine J_l2i hX dX9_drinkAt_138 ?_
  refine K_istore (fun v7_15 => [(7, .int v7_15), (0, .ref (wad (xw X) 46)), (5, .long v5)]) hX dX9_drinkAt_139 (by decide) (fun _ => rfl) h (fun v7_15 h => ?_)
  refine J_aload_n (q := 1) hX dX9_drinkAt_141 rfl rfl ?_
  refine J_dup hX dX9_drinkAt_142 rfl ?_
  refine K_geti hX (xc_46 hw) cls_X9 (k := 5) (by decide) uw_2_100 rfl dX9_drinkAt_143 ?_
  refine J_iload (q := 0) hX dX9_drinkAt_146 rfl ?_
  refine J_isub hX dX9_drinkAt_148 ?_
  refine K_puti hX (xc_46 hw) cls_X9 (k := 5) (by decide) uw_2_100 rfl rfl rfl dX9_drinkAt_149 h (fun σ_16 h => ?_)
  refine J_aload_n (q := 1) hX dX9_drinkAt_152 rfl rfl ?_
  refine J_dup hX dX9_drinkAt_153 rfl ?_
  refine K_geti hX (xc_46 hw) cls_X9 (k := 7) (by decide) uw_2_108 rfl dX9_drinkAt_154 ?_
  refine J_iload (q := 0) hX dX9_drinkAt_157 rfl ?_
  refine J_iadd hX dX9_drinkAt_159 ?_
  refine K_puti hX (xc_46 hw) cls_X9 (k := 7) (by decide) uw_2_108 rfl rfl rfl dX9_drinkAt_160 h (fun σ_17 h => ?_)
  refine J_iload (q := 0) hX dX9_drinkAt_163 rfl ?_
  exact K_iret hX hr dX9_drinkAt_165 h

def rX_drinkAt_32 (v1 : Int32) (v2 : Int32) (v3 : Int32) (v4 : Int32) (σ : St) : Option (Int32 × St) :=
  chk (ib v1 6) (chk (ib (0 : Int32) 7) (nm (setI σ 47 (0 : Int32).toNatClampNeg (σ.1 31 v1.toNatClampNeg)) fun σ_6 => chk (ib (1 : Int32) 7) (nm (setI σ_6 47 (1 : Int32).toNatClampNeg (σ_6.1 46 5)) fun σ_7 => chk (ib v2 7) (chk (ib (2 : Int32) 7) (nm (setI σ_7 47 (2 : Int32).toNatClampNeg (σ_7.1 24 v2.toNatClampNeg)) fun σ_8 => chk (ib (3 : Int32) 7) (nm (setI σ_8 47 (3 : Int32).toNatClampNeg (σ_8.1 46 6)) fun σ_9 => chk (ib (4 : Int32) 7) (nm (setI σ_9 47 (4 : Int32).toNatClampNeg v3) fun σ_10 => bnd2 (rX_valueOf (σ_10.2.2.1 23 12) σ_10) fun r_13 σ_11 => nm r_13.toInt64 fun v5_14 => brc (¬ v4 = (1 : Int32)) (rX_drinkAt_124 v5_14 σ_11) (nm ((2 : Int64) * v5_14) fun v5_18 => rX_drinkAt_124 v5_18 σ_11))))))))
set_option maxRecDepth 100000 in
theorem tX_drinkAt_32 {X : CX} (hX : gd X cX9_drinkAt 8 RX9 (some .int)) (hw : isX (xw X)) (hg : nA X) (hR : xR X = rmOf 2 47 0 0) {r : Int32} {τ : St} (hr : xr X = (some (.int r), τ)) (v1 : Int32) (v2 : Int32) (v3 : Int32) (v4 : Int32) (σ : St) (h : rX_drinkAt_32 v1 v2 v3 v4 σ = some (r, τ)) : Jd X 8 32 [(0, .ref (wad (xw X) 46)), (1, .int v1), (2, .int v2), (3, .int v3), (4, .int v4)] [] σ := by
  unfold rX_drinkAt_32 at h
  refine J_aload_n (q := 0) hX dX9_drinkAt_32 rfl rfl ?_
  refine K_getc 47 hX (xc_46 hw) cls_X9 (k := 3) (by decide) uw_2_98 rfl dX9_drinkAt_33 ?_
  refine J_iconst (v := (0 : Int32)) hX dX9_drinkAt_36 (by decide) ?_
  refine J_aload_n (q := 0) hX dX9_drinkAt_37 rfl rfl ?_
  refine K_getc 23 hX (xc_46 hw) cls_X9 (k := 0) (by decide) uw_2_95 rfl dX9_drinkAt_38 ?_
  refine K_getc 31 hX (xc_23 hw) cls_X3 (k := 10) (by decide) uw_1_127 rfl dX9_drinkAt_41 ?_
  refine J_iload_n (q := 1) hX dX9_drinkAt_44 rfl rfl ?_
  refine K_iald hX (xc_31 hw) dX9_drinkAt_45 h (fun h => ?_)
  refine K_iast hX (xc_47 hw) dX9_drinkAt_46 h (fun σ_6 h => ?_)
  refine J_aload_n (q := 0) hX dX9_drinkAt_47 rfl rfl ?_
  refine K_getc 47 hX (xc_46 hw) cls_X9 (k := 3) (by decide) uw_2_98 rfl dX9_drinkAt_48 ?_
  refine J_iconst (v := (1 : Int32)) hX dX9_drinkAt_51 (by decide) ?_
  refine J_aload_n (q := 0) hX dX9_drinkAt_52 rfl rfl ?_
  refine K_geti hX (xc_46 hw) cls_X9 (k := 5) (by decide) uw_2_100 rfl dX9_drinkAt_53 ?_
  refine K_iast hX (xc_47 hw) dX9_drinkAt_56 h (fun σ_7 h => ?_)
  refine J_aload_n (q := 0) hX dX9_drinkAt_57 rfl rfl ?_
  refine K_getc 47 hX (xc_46 hw) cls_X9 (k := 3) (by decide) uw_2_98 rfl dX9_drinkAt_58 ?_
  refine J_iconst (v := (2 : Int32)) hX dX9_drinkAt_61 (by decide) ?_
  refine J_aload_n (q := 0) hX dX9_drinkAt_62 rfl rfl ?_
  refine K_getc 23 hX (xc_46 hw) cls_X9 (k := 0) (by decide) uw_2_95 rfl dX9_drinkAt_63 ?_
  refine K_getc 24 hX (xc_23 hw) cls_X3 (k := 3) (by decide) uw_1_103 rfl dX9_drinkAt_66 ?_
  refine J_iload_n (q := 2) hX dX9_drinkAt_69 rfl rfl ?_
  refine K_iald hX (xc_24 hw) dX9_drinkAt_70 h (fun h => ?_)
  refine K_iast hX (xc_47 hw) dX9_drinkAt_71 h (fun σ_8 h => ?_)
  refine J_aload_n (q := 0) hX dX9_drinkAt_72 rfl rfl ?_
  refine K_getc 47 hX (xc_46 hw) cls_X9 (k := 3) (by decide) uw_2_98 rfl dX9_drinkAt_73 ?_
  refine J_iconst (v := (3 : Int32)) hX dX9_drinkAt_76 (by decide) ?_
  refine J_aload_n (q := 0) hX dX9_drinkAt_77 rfl rfl ?_
  refine K_geti hX (xc_46 hw) cls_X9 (k := 6) (by decide) uw_2_104 rfl dX9_drinkAt_78 ?_
  refine K_iast hX (xc_47 hw) dX9_drinkAt_81 h (fun σ_9 h => ?_)
  refine J_aload_n (q := 0) hX dX9_drinkAt_82 rfl rfl ?_
  refine K_getc 47 hX (xc_46 hw) cls_X9 (k := 3) (by decide) uw_2_98 rfl dX9_drinkAt_83 ?_
  refine J_iconst (v := (4 : Int32)) hX dX9_drinkAt_86 (by decide) ?_
  refine J_iload_n (q := 3) hX dX9_drinkAt_87 rfl rfl ?_
  refine K_iast hX (xc_47 hw) dX9_drinkAt_88 h (fun σ_10 h => ?_)
  refine J_aload_n (q := 0) hX dX9_drinkAt_89 rfl rfl ?_
  refine K_getc 23 hX (xc_46 hw) cls_X9 (k := 0) (by decide) uw_2_95 rfl dX9_drinkAt_90 ?_
  refine K_getp hX (xc_23 hw) cls_X3 (k := 12) (by decide) uw_1_134 rfl dX9_drinkAt_93 ?_
  refine J_aload_n (q := 0) hX dX9_drinkAt_96 rfl rfl ?_
  refine K_getc 47 hX (xc_46 hw) cls_X9 (k := 3) (by decide) uw_2_98 rfl dX9_drinkAt_97 ?_
  refine J_aload_n (q := 0) hX dX9_drinkAt_100 rfl rfl ?_
  refine K_getc 48 hX (xc_46 hw) cls_X9 (k := 4) (by decide) uw_2_99 rfl dX9_drinkAt_101 ?_
  obtain ⟨r_13, σ_11, hc_12, h⟩ := bnd2_some h
  refine K_callS [.ref (lawad (xw X) σ_10 (σ_10.2.2.1 23 12)), .ref (wad (xw X) 47), .ref (wad (xw X) 48)] hX hg hR (ctX_valueOf hw hc_12) lk_X9_117_X2_valueOf md_X2_valueOf ⟨by decide, by decide⟩ rfl rfl (Nat.le_of_ble_eq_true rfl) dX9_drinkAt_104 ?_
  refine J_i2l hX dX9_drinkAt_107 ?_
  refine K_lstore (fun v5_14 => [(5, .long v5_14), (0, .ref (wad (xw X) 46)), (1, .int v1), (2, .int v2), (3, .int v3), (4, .int v4)]) hX dX9_drinkAt_108 (by decide) (fun _ => rfl) h (fun v5_14 h => ?_)
  refine J_iload (q := 5) hX dX9_drinkAt_110 rfl ?_
  refine J_iconst (v := (1 : Int32)) hX dX9_drinkAt_112 (by decide) ?_
  refine K_icmp_ne (tgt := 124) hX dX9_drinkAt_113 rfl h (fun h => ?_) (fun h => ?_)
  · refine J_sub [1, 0] rfl ?_
    exact tX_drinkAt_124 hX hw hg hR hr v5_14 σ_11 h
  · refine K_ldc2 (v := (2 : Int64)) hX uw_4_214 dX9_drinkAt_116 ?_
    refine J_lload (q := 0) hX dX9_drinkAt_119 rfl ?_
    refine J_lmul hX dX9_drinkAt_121 ?_
    refine K_lstore (fun v5_18 => [(5, .long v5_18), (0, .ref (wad (xw X) 46)), (1, .int v1), (2, .int v2), (3, .int v3), (4, .int v4)]) hX dX9_drinkAt_122 (by decide) (fun _ => rfl) h (fun v5_18 h => ?_)
    refine J_sub [1, 0] rfl ?_
    exact tX_drinkAt_124 hX hw hg hR hr v5_18 σ_11 h

def rX_drinkAt (v1 : Int32) (v2 : Int32) (σ : St) : Option (Int32 × St) :=
  bnd2 (rX_balance v1 σ) fun r_3 σ_1 => nm r_3 fun v3_4 => chk (ib v1 6) (nm (σ_1.1 28 v1.toNatClampNeg) fun v4_5 => brc (¬ v4_5 = (3 : Int32)) (rX_drinkAt_32 v1 v2 v3_4 v4_5 σ_1) (brc (v3_4 ≤ 0) (rX_drinkAt_32 v1 v2 v3_4 v4_5 σ_1) (some ((0 : Int32), σ_1))))
set_option maxRecDepth 100000 in
theorem tX_drinkAt {X : CX} (hX : gd X cX9_drinkAt 8 RX9 (some .int)) (hw : isX (xw X)) (hg : nA X) (hR : xR X = rmOf 2 47 0 0) {r : Int32} {τ : St} (hr : xr X = (some (.int r), τ)) (v1 : Int32) (v2 : Int32) (σ : St) (h : rX_drinkAt v1 v2 σ = some (r, τ)) : Jd X 8 0 [(0, .ref (wad (xw X) 46)), (1, .int v1), (2, .int v2)] [] σ := by
  unfold rX_drinkAt at h
  refine J_aload_n (q := 0) hX dX9_drinkAt_0 rfl rfl ?_
  refine K_getc 33 hX (xc_46 hw) cls_X9 (k := 1) (by decide) uw_2_96 rfl dX9_drinkAt_1 ?_
  refine J_iload_n (q := 1) hX dX9_drinkAt_4 rfl rfl ?_
  obtain ⟨r_3, σ_1, hc_2, h⟩ := bnd2_some h
  refine K_callV [.int v1] hX hg hR (ctX_balance hw hc_2) lk_X9_108_X0_balance md_X0_balance (xc_33 hw) cls_X0 ⟨by decide, by decide⟩ rfl rfl (Nat.le_of_ble_eq_true rfl) dX9_drinkAt_5 ?_
  refine K_istore_n (fun v3_4 => [(3, .int v3_4), (0, .ref (wad (xw X) 46)), (1, .int v1), (2, .int v2)]) hX dX9_drinkAt_8 rfl (by decide) (fun _ => rfl) h (fun v3_4 h => ?_)
  refine J_aload_n (q := 1) hX dX9_drinkAt_9 rfl rfl ?_
  refine K_getc 23 hX (xc_46 hw) cls_X9 (k := 0) (by decide) uw_2_95 rfl dX9_drinkAt_10 ?_
  refine K_getc 28 hX (xc_23 hw) cls_X3 (k := 7) (by decide) uw_1_116 rfl dX9_drinkAt_13 ?_
  refine J_iload_n (q := 2) hX dX9_drinkAt_16 rfl rfl ?_
  refine K_iald hX (xc_28 hw) dX9_drinkAt_17 h (fun h => ?_)
  refine K_istore (fun v4_5 => [(4, .int v4_5), (3, .int v3_4), (0, .ref (wad (xw X) 46)), (1, .int v1), (2, .int v2)]) hX dX9_drinkAt_18 (by decide) (fun _ => rfl) h (fun v4_5 h => ?_)
  refine J_iload (q := 0) hX dX9_drinkAt_20 rfl ?_
  refine J_iconst (v := (3 : Int32)) hX dX9_drinkAt_22 (by decide) ?_
  refine K_icmp_ne (tgt := 32) hX dX9_drinkAt_23 rfl h (fun h => ?_) (fun h => ?_)
  · refine J_sub [2, 3, 4, 1, 0] rfl ?_
    exact tX_drinkAt_32 hX hw hg hR hr v1 v2 v3_4 v4_5 σ_1 h
  · refine J_iload_n (q := 1) hX dX9_drinkAt_26 rfl rfl ?_
    refine K_if_le (tgt := 32) hX dX9_drinkAt_27 rfl h (fun h => ?_) (fun h => ?_)
    · refine J_sub [2, 3, 4, 1, 0] rfl ?_
      exact tX_drinkAt_32 hX hw hg hR hr v1 v2 v3_4 v4_5 σ_1 h
    · refine J_iconst (v := (0 : Int32)) hX dX9_drinkAt_30 (by decide) ?_
      exact K_iret hX hr dX9_drinkAt_31 h
theorem ctX_drinkAt {w : WT} (hw : isX w) {v1 : Int32} {v2 : Int32} {σ : St} {r : Int32} {τ : St} (h : rX_drinkAt v1 v2 σ = some (r, τ)) : Ct yX9_drinkAt cX9_drinkAt 8 (some .int) 2 47 w [.ref (wad w 46), .int v1, .int v2] σ (some (.int r)) τ 0 0 :=
  Ct_intro (fun _ => (0, 0)) (by decide) rfl ⟨rfl, Nat.le_refl _⟩ (Nat.le_of_ble_eq_true rfl) (fun X hX hR hwX hg hr => by subst hwX; exact tX_drinkAt hX hw hg hR hr v1 v2 σ h)

def rX_priceNow (σ : St) : Option (Int32 × St) :=
  chk (ib (5 : Int32) 7) (nm (setI σ 47 (5 : Int32).toNatClampNeg (σ.1 33 0)) fun σ_1 => chk (ib (6 : Int32) 7) (nm (setI σ_1 47 (6 : Int32).toNatClampNeg (σ_1.1 33 1)) fun σ_2 => bnd2 (rX_valueOf (σ_2.2.2.1 23 13) σ_2) fun r_5 σ_3 => some (if (0 : Int32) < (if (99 : Int32) < r_5 then (99 : Int32) else r_5) then (if (99 : Int32) < r_5 then (99 : Int32) else r_5) else (0 : Int32), σ_3)))
set_option maxRecDepth 100000 in
theorem tX_priceNow {X : CX} (hX : gd X cX9_priceNow 1 RX9 (some .int)) (hw : isX (xw X)) (hg : nA X) (hR : xR X = rmOf 2 47 0 0) {r : Int32} {τ : St} (hr : xr X = (some (.int r), τ)) (σ : St) (h : rX_priceNow σ = some (r, τ)) : Jd X 1 0 [(0, .ref (wad (xw X) 46))] [] σ := by
  unfold rX_priceNow at h
  refine J_aload_n (q := 0) hX dX9_priceNow_0 rfl rfl ?_
  refine K_getc 47 hX (xc_46 hw) cls_X9 (k := 3) (by decide) uw_2_98 rfl dX9_priceNow_1 ?_
  refine J_iconst (v := (5 : Int32)) hX dX9_priceNow_4 (by decide) ?_
  refine J_aload_n (q := 0) hX dX9_priceNow_5 rfl rfl ?_
  refine K_getc 33 hX (xc_46 hw) cls_X9 (k := 1) (by decide) uw_2_96 rfl dX9_priceNow_6 ?_
  refine K_geti hX (xc_33 hw) cls_X0 (k := 0) (by decide) uw_2_11 rfl dX9_priceNow_9 ?_
  refine K_iast hX (xc_47 hw) dX9_priceNow_12 h (fun σ_1 h => ?_)
  refine J_aload_n (q := 0) hX dX9_priceNow_13 rfl rfl ?_
  refine K_getc 47 hX (xc_46 hw) cls_X9 (k := 3) (by decide) uw_2_98 rfl dX9_priceNow_14 ?_
  refine J_bipush (v := (6 : Int32)) hX dX9_priceNow_17 (by decide) ?_
  refine J_aload_n (q := 0) hX dX9_priceNow_19 rfl rfl ?_
  refine K_getc 33 hX (xc_46 hw) cls_X9 (k := 1) (by decide) uw_2_96 rfl dX9_priceNow_20 ?_
  refine K_geti hX (xc_33 hw) cls_X0 (k := 1) (by decide) uw_2_14 rfl dX9_priceNow_23 ?_
  refine K_iast hX (xc_47 hw) dX9_priceNow_26 h (fun σ_2 h => ?_)
  refine J_iconst (v := (0 : Int32)) hX dX9_priceNow_27 (by decide) ?_
  refine J_aload_n (q := 0) hX dX9_priceNow_28 rfl rfl ?_
  refine K_getc 23 hX (xc_46 hw) cls_X9 (k := 0) (by decide) uw_2_95 rfl dX9_priceNow_29 ?_
  refine K_getp hX (xc_23 hw) cls_X3 (k := 13) (by decide) uw_1_137 rfl dX9_priceNow_32 ?_
  refine J_aload_n (q := 0) hX dX9_priceNow_35 rfl rfl ?_
  refine K_getc 47 hX (xc_46 hw) cls_X9 (k := 3) (by decide) uw_2_98 rfl dX9_priceNow_36 ?_
  refine J_aload_n (q := 0) hX dX9_priceNow_39 rfl rfl ?_
  refine K_getc 48 hX (xc_46 hw) cls_X9 (k := 4) (by decide) uw_2_99 rfl dX9_priceNow_40 ?_
  obtain ⟨r_5, σ_3, hc_4, h⟩ := bnd2_some h
  refine K_callS [.ref (lawad (xw X) σ_2 (σ_2.2.2.1 23 13)), .ref (wad (xw X) 47), .ref (wad (xw X) 48)] hX hg hR (ctX_valueOf hw hc_4) lk_X9_117_X2_valueOf md_X2_valueOf ⟨by decide, by decide⟩ rfl rfl (Nat.le_of_ble_eq_true rfl) dX9_priceNow_43 ?_
  refine J_bipush (v := (99 : Int32)) hX dX9_priceNow_46 (by decide) ?_
  refine K_min hX hR hg lmath_min_X9_87 ⟨by omega, by omega⟩ (Nat.le_of_ble_eq_true rfl) dX9_priceNow_48 ?_
  refine K_max hX hR hg lmath_max_X9_138 ⟨by omega, by omega⟩ (Nat.le_of_ble_eq_true rfl) dX9_priceNow_51 ?_
  exact K_iret hX hr dX9_priceNow_54 h
theorem ctX_priceNow {w : WT} (hw : isX w) {σ : St} {r : Int32} {τ : St} (h : rX_priceNow σ = some (r, τ)) : Ct yX9_priceNow cX9_priceNow 1 (some .int) 2 47 w [.ref (wad w 46)] σ (some (.int r)) τ 0 0 :=
  Ct_intro (fun _ => (0, 0)) (by decide) rfl ⟨rfl, Nat.le_refl _⟩ (Nat.le_of_ble_eq_true rfl) (fun X hX hR hwX hg hr => by subst hwX; exact tX_priceNow hX hw hg hR hr  σ h)

def rX_goAll_116 (k33 : Int32 → Int32 → Int32 → Int32 → Int32 → St → Option (St)) (v1 : Int32) (v2 : Int32) (v4 : Int32) (v5 : Int32) (v6 : Int32) (σ : St) : Option (St) :=
  nm (v6 + Int32.ofInt 1) fun v6_19 => k33 v1 v2 v4 v5 v6_19 σ
set_option maxRecDepth 100000 in
theorem tX_goAll_116 {X : CX} (hX : gd X cX9_goAll 9 RX9 none) (hw : isX (xw X)) (hg : nA X) (hR : xR X = rmOf 3 74 0 0) {τ : St} (hr : xr X = (none, τ)) {k33 : Int32 → Int32 → Int32 → Int32 → Int32 → St → Option (St)} (hk33 : (∀ (v1 : Int32) (v2 : Int32) (v4 : Int32) (v5 : Int32) (v6 : Int32) (σ : St), k33 v1 v2 v4 v5 v6 σ = some τ → Jd X 9 33 [(0, .ref (wad (xw X) 46)), (1, .int v1), (2, .int v2), (4, .int v4), (5, .int v5), (6, .int v6)] [] σ)) (v1 : Int32) (v2 : Int32) (v4 : Int32) (v5 : Int32) (v6 : Int32) (σ : St) (h : rX_goAll_116 k33 v1 v2 v4 v5 v6 σ = some τ) : Jd X 9 116 [(0, .ref (wad (xw X) 46)), (1, .int v1), (2, .int v2), (4, .int v4), (5, .int v5), (6, .int v6)] [] σ := by
  unfold rX_goAll_116 at h
  refine K_iinc (q := 5) (fun v6_19 => [(6, .int v6_19), (0, .ref (wad (xw X) 46)), (1, .int v1), (2, .int v2), (4, .int v4), (5, .int v5)]) hX dX9_goAll_116 rfl (by decide) (fun _ => rfl) h (fun v6_19 h => ?_)
  refine J_goto (tgt := 33) hX dX9_goAll_119 rfl ?_
  refine J_sub [1, 2, 3, 4, 5, 0] rfl ?_
  exact hk33 v1 v2 v4 v5 v6_19 σ h

def rX_goAll_90 (k33 : Int32 → Int32 → Int32 → Int32 → Int32 → St → Option (St)) (v1 : Int32) (v2 : Int32) (v4 : Int32) (v5 : Int32) (v6 : Int32) (v7 : Int32) (σ : St) : Option (St) :=
  bnd2 (rX_drinkAt v1 v7 σ) fun r_22 σ_20 => nm r_22 fun v8_23 => brc (v4 = 0) (rX_goAll_116 k33 v1 v2 v4 v5 v6 σ_20) (bnd1 (rX_write v1 v7 v8_23 σ_20) fun σ_24 => rX_goAll_116 k33 v1 v2 v4 v5 v6 σ_24)
set_option maxRecDepth 100000 in
theorem tX_goAll_90 {X : CX} (hX : gd X cX9_goAll 9 RX9 none) (hw : isX (xw X)) (hg : nA X) (hR : xR X = rmOf 3 74 0 0) {τ : St} (hr : xr X = (none, τ)) {k33 : Int32 → Int32 → Int32 → Int32 → Int32 → St → Option (St)} (hk33 : (∀ (v1 : Int32) (v2 : Int32) (v4 : Int32) (v5 : Int32) (v6 : Int32) (σ : St), k33 v1 v2 v4 v5 v6 σ = some τ → Jd X 9 33 [(0, .ref (wad (xw X) 46)), (1, .int v1), (2, .int v2), (4, .int v4), (5, .int v5), (6, .int v6)] [] σ)) (v1 : Int32) (v2 : Int32) (v4 : Int32) (v5 : Int32) (v6 : Int32) (v7 : Int32) (σ : St) (h : rX_goAll_90 k33 v1 v2 v4 v5 v6 v7 σ = some τ) : Jd X 9 90 [(0, .ref (wad (xw X) 46)), (1, .int v1), (2, .int v2), (4, .int v4), (5, .int v5), (6, .int v6), (7, .int v7)] [] σ := by
  unfold rX_goAll_90 at h
  refine J_aload_n (q := 0) hX dX9_goAll_90 rfl rfl ?_
  refine J_iload_n (q := 1) hX dX9_goAll_91 rfl rfl ?_
  refine J_iload (q := 6) hX dX9_goAll_92 rfl ?_
  obtain ⟨r_22, σ_20, hc_21, h⟩ := bnd2_some h
  refine K_callV [.int v1, .int v7] hX hg hR (ctX_drinkAt hw hc_21) lk_X9_63_X9_drinkAt md_X9_drinkAt (xc_46 hw) cls_X9 ⟨by decide, by decide⟩ rfl rfl (Nat.le_of_ble_eq_true rfl) dX9_goAll_94 ?_
  refine K_istore (fun v8_23 => [(8, .int v8_23), (0, .ref (wad (xw X) 46)), (1, .int v1), (2, .int v2), (4, .int v4), (5, .int v5), (6, .int v6), (7, .int v7)]) hX dX9_goAll_97 (by decide) (fun _ => rfl) h (fun v8_23 h => ?_)
  refine J_iload (q := 4) hX dX9_goAll_99 rfl ?_
  refine K_if_eq (tgt := 116) hX dX9_goAll_101 rfl h (fun h => ?_) (fun h => ?_)
  · refine J_sub [1, 2, 3, 4, 5, 6] rfl ?_
    exact tX_goAll_116 hX hw hg hR hr hk33 v1 v2 v4 v5 v6 σ_20 h
  · refine J_aload_n (q := 1) hX dX9_goAll_104 rfl rfl ?_
    refine K_getc 33 hX (xc_46 hw) cls_X9 (k := 1) (by decide) uw_2_96 rfl dX9_goAll_105 ?_
    refine J_iload_n (q := 2) hX dX9_goAll_108 rfl rfl ?_
    refine J_iload (q := 7) hX dX9_goAll_109 rfl ?_
    refine J_iload (q := 0) hX dX9_goAll_111 rfl ?_
    obtain ⟨σ_24, hc_25, h⟩ := bnd1_some h
    refine K_callV [.int v1, .int v7, .int v8_23] hX hg hR (ctX_write hw hc_25) lk_X9_66_X0_write md_X0_write (xc_33 hw) cls_X0 ⟨by decide, by decide⟩ rfl rfl (Nat.le_of_ble_eq_true rfl) dX9_goAll_113 ?_
    refine J_sub [1, 2, 3, 4, 5, 6] rfl ?_
    exact tX_goAll_116 hX hw hg hR hr hk33 v1 v2 v4 v5 v6 σ_24 h

def rX_goAll_33 (k33 : Int32 → Int32 → Int32 → Int32 → Int32 → St → Option (St)) (v1 : Int32) (v2 : Int32) (v4 : Int32) (v5 : Int32) (v6 : Int32) (σ : St) : Option (St) :=
  brc (v5 < v6) (some σ) (bnd2 (rX_rstationAt v2 v6 σ) fun r_12 σ_10 => nm r_12 fun v7_13 => bnd2 (rX_rstationAt v2 (v6 - (1 : Int32)) σ_10) fun r_16 σ_14 => bnd1 (rX_goOver v1 r_16 v7_13 σ_14) fun σ_17 => brc (v5 ≤ v6) (rX_goAll_116 k33 v1 v2 v4 v5 v6 σ_17) (brc (v4 = 0) (rX_goAll_90 k33 v1 v2 v4 v5 v6 v7_13 σ_17) (bnd1 (rX_gather v1 v7_13 σ_17) fun σ_26 => rX_goAll_90 k33 v1 v2 v4 v5 v6 v7_13 σ_26)))
set_option maxRecDepth 100000 in
theorem tX_goAll_33b {X : CX} (hX : gd X cX9_goAll 9 RX9 none) (hw : isX (xw X)) (hg : nA X) (hR : xR X = rmOf 3 74 0 0) {τ : St} (hr : xr X = (none, τ)) {k33 : Int32 → Int32 → Int32 → Int32 → Int32 → St → Option (St)} (hk33 : (∀ (v1 : Int32) (v2 : Int32) (v4 : Int32) (v5 : Int32) (v6 : Int32) (σ : St), k33 v1 v2 v4 v5 v6 σ = some τ → Jd X 9 33 [(0, .ref (wad (xw X) 46)), (1, .int v1), (2, .int v2), (4, .int v4), (5, .int v5), (6, .int v6)] [] σ)) (v1 : Int32) (v2 : Int32) (v4 : Int32) (v5 : Int32) (v6 : Int32) (σ : St) (h : rX_goAll_33 k33 v1 v2 v4 v5 v6 σ = some τ) : Jd X 9 33 [(0, .ref (wad (xw X) 46)), (1, .int v1), (2, .int v2), (4, .int v4), (5, .int v5), (6, .int v6)] [] σ := by
  unfold rX_goAll_33 at h
  refine J_iload (q := 5) hX dX9_goAll_33 rfl ?_
  refine J_iload (q := 4) hX dX9_goAll_35 rfl ?_
  refine K_icmp_gt (tgt := 122) hX dX9_goAll_37 rfl h (fun h => ?_) (fun h => ?_)
  · exact K_vret hX hr dX9_goAll_122 h
  · refine J_aload_n (q := 0) hX dX9_goAll_40 rfl rfl ?_
    refine K_getc 42 hX (xc_46 hw) cls_X9 (k := 2) (by decide) uw_2_97 rfl dX9_goAll_41 ?_
    refine J_iload_n (q := 2) hX dX9_goAll_44 rfl rfl ?_
    refine J_iload (q := 5) hX dX9_goAll_45 rfl ?_
    obtain ⟨r_12, σ_10, hc_11, h⟩ := bnd2_some h
    refine K_callV [.int v2, .int v6] hX hg hR (ctX_rstationAt hw hc_11) lk_X9_51_X6_stationAt md_X6_stationAt (xc_42 hw) cls_X6 ⟨by decide, by decide⟩ rfl rfl (Nat.le_of_ble_eq_true rfl) dX9_goAll_47 ?_
    refine K_istore (fun v7_13 => [(7, .int v7_13), (0, .ref (wad (xw X) 46)), (1, .int v1), (2, .int v2), (4, .int v4), (5, .int v5), (6, .int v6)]) hX dX9_goAll_50 (by decide) (fun _ => rfl) h (fun v7_13 h => ?_)
    refine J_aload_n (q := 1) hX dX9_goAll_52 rfl rfl ?_
    refine J_iload_n (q := 2) hX dX9_goAll_53 rfl rfl ?_
    refine J_aload_n (q := 1) hX dX9_goAll_54 rfl rfl ?_
    refine K_getc 42 hX (xc_46 hw) cls_X9 (k := 2) (by decide) uw_2_97 rfl dX9_goAll_55 ?_
    refine J_iload_n (q := 3) hX dX9_goAll_58 rfl rfl ?_
    refine J_iload (q := 6) hX dX9_goAll_59 rfl ?_
    refine J_iconst (v := (1 : Int32)) hX dX9_goAll_61 (by decide) ?_
    refine J_isub hX dX9_goAll_62 ?_
    obtain ⟨r_16, σ_14, hc_15, h⟩ := bnd2_some h
    refine K_callV [.int v2, .int (v6 - (1 : Int32))] hX hg hR (ctX_rstationAt hw hc_15) lk_X9_51_X6_stationAt md_X6_stationAt (xc_42 hw) cls_X6 ⟨by decide, by decide⟩ rfl rfl (Nat.le_of_ble_eq_true rfl) dX9_goAll_63 ?_
    refine J_iload (q := 0) hX dX9_goAll_66 rfl ?_
    obtain ⟨σ_17, hc_18, h⟩ := bnd1_some h
    refine K_callV [.int v1, .int r_16, .int v7_13] hX hg hR (ctX_goOver hw hc_18) lk_X9_55_X9_goOver md_X9_goOver (xc_46 hw) cls_X9 ⟨by decide, by decide⟩ rfl rfl (Nat.le_of_ble_eq_true rfl) dX9_goAll_68 ?_
    refine J_iload (q := 6) hX dX9_goAll_71 rfl ?_
    refine J_iload (q := 5) hX dX9_goAll_73 rfl ?_
    refine K_icmp_ge (tgt := 116) hX dX9_goAll_75 rfl h (fun h => ?_) (fun h => ?_)
    · refine J_sub [1, 2, 3, 4, 5, 6] rfl ?_
      exact tX_goAll_116 hX hw hg hR hr hk33 v1 v2 v4 v5 v6 σ_17 h
    · refine J_iload (q := 4) hX dX9_goAll_78 rfl ?_
      refine K_if_eq (tgt := 90) hX dX9_goAll_80 rfl h (fun h => ?_) (fun h => ?_)
      · refine J_sub [1, 2, 3, 4, 5, 6, 0] rfl ?_
        exact tX_goAll_90 hX hw hg hR hr hk33 v1 v2 v4 v5 v6 v7_13 σ_17 h
      · refine J_aload_n (q := 1) hX dX9_goAll_83 rfl rfl ?_
        refine J_iload_n (q := 2) hX dX9_goAll_84 rfl rfl ?_
        refine J_iload (q := 0) hX dX9_goAll_85 rfl ?_
        obtain ⟨σ_26, hc_27, h⟩ := bnd1_some h
        refine K_callV [.int v1, .int v7_13] hX hg hR (ctX_gather hw hc_27) lk_X9_59_X9_gather md_X9_gather (xc_46 hw) cls_X9 ⟨by decide, by decide⟩ rfl rfl (Nat.le_of_ble_eq_true rfl) dX9_goAll_87 ?_
        refine J_sub [1, 2, 3, 4, 5, 6, 0] rfl ?_
        exact tX_goAll_90 hX hw hg hR hr hk33 v1 v2 v4 v5 v6 v7_13 σ_26 h
def rX_goAll_33L : ((Int32 × Int32 × Int32 × Int32 × Int32 × St) → Option (St)) → (Int32 × Int32 × Int32 × Int32 × Int32 × St) → Option (St) := fun k a => rX_goAll_33 (fun v1 v2 v4 v5 v6 σ => k (v1, v2, v4, v5, v6, σ)) a.1 a.2.1 a.2.2.1 a.2.2.2.1 a.2.2.2.2.1 a.2.2.2.2.2
theorem tX_goAll_33 {X : CX} (hX : gd X cX9_goAll 9 RX9 none) (hw : isX (xw X)) (hg : nA X) (hR : xR X = rmOf 3 74 0 0) {τ : St} (hr : xr X = (none, τ)) (n : Nat) (v1 : Int32) (v2 : Int32) (v4 : Int32) (v5 : Int32) (v6 : Int32) (σ : St) (h : lp (rX_goAll_33L) n (v1, v2, v4, v5, v6, σ) = some τ) : Jd X 9 33 [(0, .ref (wad (xw X) 46)), (1, .int v1), (2, .int v2), (4, .int v4), (5, .int v5), (6, .int v6)] [] σ :=
  lp_ind (F := rX_goAll_33L) (P := fun a => Jd X 9 33 [(0, .ref (wad (xw X) 46)), (1, .int a.1), (2, .int a.2.1), (4, .int a.2.2.1), (5, .int a.2.2.2.1), (6, .int a.2.2.2.2.1)] [] a.2.2.2.2.2) (fun k a hk h => tX_goAll_33b hX hw hg hR hr (fun v1 v2 v4 v5 v6 σ h => hk (v1, v2, v4, v5, v6, σ) h) a.1 a.2.1 a.2.2.1 a.2.2.2.1 a.2.2.2.2.1 a.2.2.2.2.2 h) n (v1, v2, v4, v5, v6, σ) h

def rX_goAll (v1 : Int32) (v2 : Int32) (v3 : Int32) (v4 : Int32) (σ : St) : Option (St) :=
  bnd2 (rX_rlastOf v2 σ) fun r_3 σ_1 => nm r_3 fun v5_4 => nm (setI σ_1 46 5 v3) fun σ_5 => nm (setI σ_5 46 6 (0 : Int32)) fun σ_6 => nm (setI σ_6 46 7 (0 : Int32)) fun σ_7 => nm (setI σ_7 46 8 (0 : Int32)) fun σ_8 => nm (1 : Int32) fun v6_9 => lp (rX_goAll_33L) fu (v1, v2, v4, v5_4, v6_9, σ_8)
set_option maxRecDepth 100000 in
theorem tX_goAll {X : CX} (hX : gd X cX9_goAll 9 RX9 none) (hw : isX (xw X)) (hg : nA X) (hR : xR X = rmOf 3 74 0 0) {τ : St} (hr : xr X = (none, τ)) (v1 : Int32) (v2 : Int32) (v3 : Int32) (v4 : Int32) (σ : St) (h : rX_goAll v1 v2 v3 v4 σ = some τ) : Jd X 9 0 [(0, .ref (wad (xw X) 46)), (1, .int v1), (2, .int v2), (3, .int v3), (4, .int v4)] [] σ := by
  unfold rX_goAll at h
  refine J_aload_n (q := 0) hX dX9_goAll_0 rfl rfl ?_
  refine K_getc 42 hX (xc_46 hw) cls_X9 (k := 2) (by decide) uw_2_97 rfl dX9_goAll_1 ?_
  refine J_iload_n (q := 2) hX dX9_goAll_4 rfl rfl ?_
  obtain ⟨r_3, σ_1, hc_2, h⟩ := bnd2_some h
  refine K_callV [.int v2] hX hg hR (ctX_rlastOf hw hc_2) lk_X9_32_X6_lastOf md_X6_lastOf (xc_42 hw) cls_X6 ⟨by decide, by decide⟩ rfl rfl (Nat.le_of_ble_eq_true rfl) dX9_goAll_5 ?_
  refine K_istore (fun v5_4 => [(5, .int v5_4), (0, .ref (wad (xw X) 46)), (1, .int v1), (2, .int v2), (3, .int v3), (4, .int v4)]) hX dX9_goAll_8 (by decide) (fun _ => rfl) h (fun v5_4 h => ?_)
  refine J_aload_n (q := 1) hX dX9_goAll_10 rfl rfl ?_
  refine J_iload_n (q := 4) hX dX9_goAll_11 rfl rfl ?_
  refine K_puti hX (xc_46 hw) cls_X9 (k := 5) (by decide) uw_2_100 rfl rfl rfl dX9_goAll_12 h (fun σ_5 h => ?_)
  refine J_aload_n (q := 1) hX dX9_goAll_15 rfl rfl ?_
  refine J_iconst (v := (0 : Int32)) hX dX9_goAll_16 (by decide) ?_
  refine K_puti hX (xc_46 hw) cls_X9 (k := 6) (by decide) uw_2_104 rfl rfl rfl dX9_goAll_17 h (fun σ_6 h => ?_)
  refine J_aload_n (q := 1) hX dX9_goAll_20 rfl rfl ?_
  refine J_iconst (v := (0 : Int32)) hX dX9_goAll_21 (by decide) ?_
  refine K_puti hX (xc_46 hw) cls_X9 (k := 7) (by decide) uw_2_108 rfl rfl rfl dX9_goAll_22 h (fun σ_7 h => ?_)
  refine J_aload_n (q := 1) hX dX9_goAll_25 rfl rfl ?_
  refine J_iconst (v := (0 : Int32)) hX dX9_goAll_26 (by decide) ?_
  refine K_puti hX (xc_46 hw) cls_X9 (k := 8) (by decide) uw_2_110 rfl rfl rfl dX9_goAll_27 h (fun σ_8 h => ?_)
  refine J_iconst (v := (1 : Int32)) hX dX9_goAll_30 (by decide) ?_
  refine K_istore (fun v6_9 => [(6, .int v6_9), (5, .int v5_4), (0, .ref (wad (xw X) 46)), (1, .int v1), (2, .int v2), (3, .int v3), (4, .int v4)]) hX dX9_goAll_31 (by decide) (fun _ => rfl) h (fun v6_9 h => ?_)
  refine J_sub [2, 3, 4, 6, 1, 0] rfl ?_
  exact tX_goAll_33 hX hw hg hR hr fu v1 v2 v4 v5_4 v6_9 σ_8 h
theorem ctX_goAll {w : WT} (hw : isX w) {v1 : Int32} {v2 : Int32} {v3 : Int32} {v4 : Int32} {σ : St} {τ : St} (h : rX_goAll v1 v2 v3 v4 σ = some τ) : Ct yX9_goAll cX9_goAll 9 none 3 74 w [.ref (wad w 46), .int v1, .int v2, .int v3, .int v4] σ none τ 0 0 :=
  Ct_intro (fun _ => (0, 0)) (by decide) rfl ⟨rfl, Nat.le_refl _⟩ (Nat.le_of_ble_eq_true rfl) (fun X hX hR hwX hg hr => by subst hwX; exact tX_goAll hX hw hg hR hr v1 v2 v3 v4 σ h)

def rX_pfindBest_81 (k12 : Int32 → Int32 → Int32 → St → Option (St)) (v1 : Int32) (v2 : Int32) (v3 : Int32) (σ : St) : Option (St) :=
  nm (v3 + Int32.ofInt 1) fun v3_6 => k12 v1 v2 v3_6 σ
set_option maxRecDepth 100000 in
theorem tX_pfindBest_81 {X : CX} (hX : gd X cX4_findBest 4 RX4 none) (hw : isX (xw X)) (hg : nA X) (hR : xR X = rmOf 4 102 0 0) {τ : St} (hr : xr X = (none, τ)) {k12 : Int32 → Int32 → Int32 → St → Option (St)} (hk12 : (∀ (v1 : Int32) (v2 : Int32) (v3 : Int32) (σ : St), k12 v1 v2 v3 σ = some τ → Jd X 4 12 [(0, .ref (wad (xw X) 49)), (1, .int v1), (2, .int v2), (3, .int v3)] [] σ)) (v1 : Int32) (v2 : Int32) (v3 : Int32) (σ : St) (h : rX_pfindBest_81 k12 v1 v2 v3 σ = some τ) : Jd X 4 81 [(0, .ref (wad (xw X) 49)), (1, .int v1), (2, .int v2), (3, .int v3)] [] σ := by
  unfold rX_pfindBest_81 at h
  refine K_iinc (q := 3) (fun v3_6 => [(3, .int v3_6), (0, .ref (wad (xw X) 49)), (1, .int v1), (2, .int v2)]) hX dX4_findBest_81 rfl (by decide) (fun _ => rfl) h (fun v3_6 h => ?_)
  refine J_goto (tgt := 12) hX dX4_findBest_84 rfl ?_
  refine J_sub [1, 2, 3, 0] rfl ?_
  exact hk12 v1 v2 v3_6 σ h

def rX_pfindBest_12 (k12 : Int32 → Int32 → Int32 → St → Option (St)) (v1 : Int32) (v2 : Int32) (v3 : Int32) (σ : St) : Option (St) :=
  brc ((σ.1 42 3) ≤ v3) (some σ) (bnd1 (rX_goAll v1 v3 v2 (0 : Int32) σ) fun σ_4 => brc ((σ_4.1 23 16) < (σ_4.1 46 6)) (rX_pfindBest_81 k12 v1 v2 v3 σ_4) (brc ((σ_4.1 46 5) ≤ (σ_4.1 49 10)) (rX_pfindBest_81 k12 v1 v2 v3 σ_4) (nm (setI σ_4 49 9 v3) fun σ_7 => nm (setI σ_7 49 10 (σ_7.1 46 5)) fun σ_8 => rX_pfindBest_81 k12 v1 v2 v3 σ_8)))
set_option maxRecDepth 100000 in
theorem tX_pfindBest_12b {X : CX} (hX : gd X cX4_findBest 4 RX4 none) (hw : isX (xw X)) (hg : nA X) (hR : xR X = rmOf 4 102 0 0) {τ : St} (hr : xr X = (none, τ)) {k12 : Int32 → Int32 → Int32 → St → Option (St)} (hk12 : (∀ (v1 : Int32) (v2 : Int32) (v3 : Int32) (σ : St), k12 v1 v2 v3 σ = some τ → Jd X 4 12 [(0, .ref (wad (xw X) 49)), (1, .int v1), (2, .int v2), (3, .int v3)] [] σ)) (v1 : Int32) (v2 : Int32) (v3 : Int32) (σ : St) (h : rX_pfindBest_12 k12 v1 v2 v3 σ = some τ) : Jd X 4 12 [(0, .ref (wad (xw X) 49)), (1, .int v1), (2, .int v2), (3, .int v3)] [] σ := by
  unfold rX_pfindBest_12 at h
  refine J_iload_n (q := 3) hX dX4_findBest_12 rfl rfl ?_
  refine J_aload_n (q := 0) hX dX4_findBest_13 rfl rfl ?_
  refine K_getc 42 hX (xc_49 hw) cls_X4 (k := 1) (by decide) uw_2_138 rfl dX4_findBest_14 ?_
  refine K_geti hX (xc_42 hw) cls_X6 (k := 3) (by decide) uw_2_77 rfl dX4_findBest_17 ?_
  refine K_icmp_ge (tgt := 87) hX dX4_findBest_20 rfl h (fun h => ?_) (fun h => ?_)
  · exact K_vret hX hr dX4_findBest_87 h
  · refine J_aload_n (q := 0) hX dX4_findBest_23 rfl rfl ?_
    refine K_getc 46 hX (xc_49 hw) cls_X4 (k := 2) (by decide) uw_2_139 rfl dX4_findBest_24 ?_
    refine J_iload_n (q := 1) hX dX4_findBest_27 rfl rfl ?_
    refine J_iload_n (q := 3) hX dX4_findBest_28 rfl rfl ?_
    refine J_iload_n (q := 2) hX dX4_findBest_29 rfl rfl ?_
    refine J_iconst (v := (0 : Int32)) hX dX4_findBest_30 (by decide) ?_
    obtain ⟨σ_4, hc_5, h⟩ := bnd1_some h
    refine K_callV [.int v1, .int v3, .int v2, .int (0 : Int32)] hX hg hR (ctX_goAll hw hc_5) lk_X4_48_X9_goAll md_X9_goAll (xc_46 hw) cls_X9 ⟨by decide, by decide⟩ rfl rfl (Nat.le_of_ble_eq_true rfl) dX4_findBest_31 ?_
    refine J_aload_n (q := 0) hX dX4_findBest_34 rfl rfl ?_
    refine K_getc 46 hX (xc_49 hw) cls_X4 (k := 2) (by decide) uw_2_139 rfl dX4_findBest_35 ?_
    refine K_geti hX (xc_46 hw) cls_X9 (k := 6) (by decide) uw_2_105 rfl dX4_findBest_38 ?_
    refine J_aload_n (q := 0) hX dX4_findBest_41 rfl rfl ?_
    refine K_getc 23 hX (xc_49 hw) cls_X4 (k := 0) (by decide) uw_2_137 rfl dX4_findBest_42 ?_
    refine K_geti hX (xc_23 hw) cls_X3 (k := 16) (by decide) uw_1_147 rfl dX4_findBest_45 ?_
    refine K_icmp_gt (tgt := 81) hX dX4_findBest_48 rfl h (fun h => ?_) (fun h => ?_)
    · refine J_sub [0, 1, 2, 3] rfl ?_
      exact tX_pfindBest_81 hX hw hg hR hr hk12 v1 v2 v3 σ_4 h
    · refine J_aload_n (q := 0) hX dX4_findBest_51 rfl rfl ?_
      refine K_getc 46 hX (xc_49 hw) cls_X4 (k := 2) (by decide) uw_2_139 rfl dX4_findBest_52 ?_
      refine K_geti hX (xc_46 hw) cls_X9 (k := 5) (by decide) uw_2_101 rfl dX4_findBest_55 ?_
      refine J_aload_n (q := 0) hX dX4_findBest_58 rfl rfl ?_
      refine K_geti hX (xc_49 hw) cls_X4 (k := 10) (by decide) uw_2_152 rfl dX4_findBest_59 ?_
      refine K_icmp_le (tgt := 81) hX dX4_findBest_62 rfl h (fun h => ?_) (fun h => ?_)
      · refine J_sub [0, 1, 2, 3] rfl ?_
        exact tX_pfindBest_81 hX hw hg hR hr hk12 v1 v2 v3 σ_4 h
      · refine J_aload_n (q := 0) hX dX4_findBest_65 rfl rfl ?_
        refine J_iload_n (q := 3) hX dX4_findBest_66 rfl rfl ?_
        refine K_puti hX (xc_49 hw) cls_X4 (k := 9) (by decide) uw_2_150 rfl rfl rfl dX4_findBest_67 h (fun σ_7 h => ?_)
        refine J_aload_n (q := 0) hX dX4_findBest_70 rfl rfl ?_
        refine J_aload_n (q := 0) hX dX4_findBest_71 rfl rfl ?_
        refine K_getc 46 hX (xc_49 hw) cls_X4 (k := 2) (by decide) uw_2_139 rfl dX4_findBest_72 ?_
        refine K_geti hX (xc_46 hw) cls_X9 (k := 5) (by decide) uw_2_101 rfl dX4_findBest_75 ?_
        refine K_puti hX (xc_49 hw) cls_X4 (k := 10) (by decide) uw_2_152 rfl rfl rfl dX4_findBest_78 h (fun σ_8 h => ?_)
        refine J_sub [0, 1, 2, 3] rfl ?_
        exact tX_pfindBest_81 hX hw hg hR hr hk12 v1 v2 v3 σ_8 h
def rX_pfindBest_12L : ((Int32 × Int32 × Int32 × St) → Option (St)) → (Int32 × Int32 × Int32 × St) → Option (St) := fun k a => rX_pfindBest_12 (fun v1 v2 v3 σ => k (v1, v2, v3, σ)) a.1 a.2.1 a.2.2.1 a.2.2.2
theorem tX_pfindBest_12 {X : CX} (hX : gd X cX4_findBest 4 RX4 none) (hw : isX (xw X)) (hg : nA X) (hR : xR X = rmOf 4 102 0 0) {τ : St} (hr : xr X = (none, τ)) (n : Nat) (v1 : Int32) (v2 : Int32) (v3 : Int32) (σ : St) (h : lp (rX_pfindBest_12L) n (v1, v2, v3, σ) = some τ) : Jd X 4 12 [(0, .ref (wad (xw X) 49)), (1, .int v1), (2, .int v2), (3, .int v3)] [] σ :=
  lp_ind (F := rX_pfindBest_12L) (P := fun a => Jd X 4 12 [(0, .ref (wad (xw X) 49)), (1, .int a.1), (2, .int a.2.1), (3, .int a.2.2.1)] [] a.2.2.2) (fun k a hk h => tX_pfindBest_12b hX hw hg hR hr (fun v1 v2 v3 σ h => hk (v1, v2, v3, σ) h) a.1 a.2.1 a.2.2.1 a.2.2.2 h) n (v1, v2, v3, σ) h

def rX_pfindBest (v1 : Int32) (v2 : Int32) (σ : St) : Option (St) :=
  nm (setI σ 49 9 (-1 : Int32)) fun σ_1 => nm (setI σ_1 49 10 (-1 : Int32)) fun σ_2 => nm (0 : Int32) fun v3_3 => lp (rX_pfindBest_12L) fu (v1, v2, v3_3, σ_2)
set_option maxRecDepth 100000 in
theorem tX_pfindBest {X : CX} (hX : gd X cX4_findBest 4 RX4 none) (hw : isX (xw X)) (hg : nA X) (hR : xR X = rmOf 4 102 0 0) {τ : St} (hr : xr X = (none, τ)) (v1 : Int32) (v2 : Int32) (σ : St) (h : rX_pfindBest v1 v2 σ = some τ) : Jd X 4 0 [(0, .ref (wad (xw X) 49)), (1, .int v1), (2, .int v2)] [] σ := by
  unfold rX_pfindBest at h
  refine J_aload_n (q := 0) hX dX4_findBest_0 rfl rfl ?_
  refine J_iconst (v := (-1 : Int32)) hX dX4_findBest_1 (by decide) ?_
  refine K_puti hX (xc_49 hw) cls_X4 (k := 9) (by decide) uw_2_150 rfl rfl rfl dX4_findBest_2 h (fun σ_1 h => ?_)
  refine J_aload_n (q := 0) hX dX4_findBest_5 rfl rfl ?_
  refine J_iconst (v := (-1 : Int32)) hX dX4_findBest_6 (by decide) ?_
  refine K_puti hX (xc_49 hw) cls_X4 (k := 10) (by decide) uw_2_152 rfl rfl rfl dX4_findBest_7 h (fun σ_2 h => ?_)
  refine J_iconst (v := (0 : Int32)) hX dX4_findBest_10 (by decide) ?_
  refine K_istore_n (fun v3_3 => [(3, .int v3_3), (0, .ref (wad (xw X) 49)), (1, .int v1), (2, .int v2)]) hX dX4_findBest_11 rfl (by decide) (fun _ => rfl) h (fun v3_3 h => ?_)
  refine J_sub [1, 2, 3, 0] rfl ?_
  exact tX_pfindBest_12 hX hw hg hR hr fu v1 v2 v3_3 σ_2 h
theorem ctX_pfindBest {w : WT} (hw : isX w) {v1 : Int32} {v2 : Int32} {σ : St} {τ : St} (h : rX_pfindBest v1 v2 σ = some τ) : Ct yX4_findBest cX4_findBest 4 none 4 102 w [.ref (wad w 49), .int v1, .int v2] σ none τ 0 0 :=
  Ct_intro (fun _ => (0, 0)) (by decide) rfl ⟨rfl, Nat.le_refl _⟩ (Nat.le_of_ble_eq_true rfl) (fun X hX hR hwX hg hr => by subst hwX; exact tX_pfindBest hX hw hg hR hr v1 v2 σ h)

def rX_pmostLoad (v1 : Int32) (v2 : Int32) (σ : St) : Option (Int32 × St) :=
  bnd2 (rX_holds v1 σ) fun r_3 σ_1 => some (if v2 < r_3 then v2 else r_3, σ_1)
set_option maxRecDepth 100000 in
theorem tX_pmostLoad {X : CX} (hX : gd X cX4_mostLoad 3 RX4 (some .int)) (hw : isX (xw X)) (hg : nA X) (hR : xR X = rmOf 1 21 0 0) {r : Int32} {τ : St} (hr : xr X = (some (.int r), τ)) (v1 : Int32) (v2 : Int32) (σ : St) (h : rX_pmostLoad v1 v2 σ = some (r, τ)) : Jd X 3 0 [(0, .ref (wad (xw X) 49)), (1, .int v1), (2, .int v2)] [] σ := by
  unfold rX_pmostLoad at h
  refine J_aload_n (q := 0) hX dX4_mostLoad_0 rfl rfl ?_
  refine K_getc 23 hX (xc_49 hw) cls_X4 (k := 0) (by decide) uw_2_137 rfl dX4_mostLoad_1 ?_
  refine J_iload_n (q := 1) hX dX4_mostLoad_4 rfl rfl ?_
  obtain ⟨r_3, σ_1, hc_2, h⟩ := bnd2_some h
  refine K_callV [.int v1] hX hg hR (ctX_holds hw hc_2) lk_X4_94_X3_holds md_X3_holds (xc_23 hw) cls_X3 ⟨by decide, by decide⟩ rfl rfl (Nat.le_of_ble_eq_true rfl) dX4_mostLoad_5 ?_
  refine J_iload_n (q := 2) hX dX4_mostLoad_8 rfl rfl ?_
  refine K_min hX hR hg lmath_min_X4_98 ⟨by omega, by omega⟩ (Nat.le_of_ble_eq_true rfl) dX4_mostLoad_9 ?_
  exact K_iret hX hr dX4_mostLoad_12 h
theorem ctX_pmostLoad {w : WT} (hw : isX w) {v1 : Int32} {v2 : Int32} {σ : St} {r : Int32} {τ : St} (h : rX_pmostLoad v1 v2 σ = some (r, τ)) : Ct yX4_mostLoad cX4_mostLoad 3 (some .int) 1 21 w [.ref (wad w 49), .int v1, .int v2] σ (some (.int r)) τ 0 0 :=
  Ct_intro (fun _ => (0, 0)) (by decide) rfl ⟨rfl, Nat.le_refl _⟩ (Nat.le_of_ble_eq_true rfl) (fun X hX hR hwX hg hr => by subst hwX; exact tX_pmostLoad hX hw hg hR hr v1 v2 σ h)

def rX_pweighLoads_12 (k12 : Int32 → Int32 → St → Option (St)) (v1 : Int32) (v2 : Int32) (σ : St) : Option (St) :=
  bnd2 (rX_pmostLoad v1 (σ.1 23 15) σ) fun r_5 σ_3 => brc (r_5 < v2) (some σ_3) (bnd1 (rX_pfindBest v1 v2 σ_3) fun σ_6 => chk (ib ((v1 * (121 : Int32)) + v2) 726) (nm (setI σ_6 50 ((v1 * (121 : Int32)) + v2).toNatClampNeg (σ_6.1 49 10)) fun σ_8 => nm (v2 + Int32.ofInt 1) fun v2_9 => k12 v1 v2_9 σ_8))
set_option maxRecDepth 100000 in
theorem tX_pweighLoads_12b {X : CX} (hX : gd X cX4_weighLoads 3 RX4 none) (hw : isX (xw X)) (hg : nA X) (hR : xR X = rmOf 5 125 0 0) {τ : St} (hr : xr X = (none, τ)) {k12 : Int32 → Int32 → St → Option (St)} (hk12 : (∀ (v1 : Int32) (v2 : Int32) (σ : St), k12 v1 v2 σ = some τ → Jd X 3 12 [(0, .ref (wad (xw X) 49)), (1, .int v1), (2, .int v2)] [] σ)) (v1 : Int32) (v2 : Int32) (σ : St) (h : rX_pweighLoads_12 k12 v1 v2 σ = some τ) : Jd X 3 12 [(0, .ref (wad (xw X) 49)), (1, .int v1), (2, .int v2)] [] σ := by
  unfold rX_pweighLoads_12 at h
  refine J_iload_n (q := 2) hX dX4_weighLoads_12 rfl rfl ?_
  refine J_aload_n (q := 0) hX dX4_weighLoads_13 rfl rfl ?_
  refine J_iload_n (q := 1) hX dX4_weighLoads_14 rfl rfl ?_
  refine J_aload_n (q := 0) hX dX4_weighLoads_15 rfl rfl ?_
  refine K_getc 23 hX (xc_49 hw) cls_X4 (k := 0) (by decide) uw_2_137 rfl dX4_weighLoads_16 ?_
  refine K_geti hX (xc_23 hw) cls_X3 (k := 15) (by decide) uw_1_144 rfl dX4_weighLoads_19 ?_
  obtain ⟨r_5, σ_3, hc_4, h⟩ := bnd2_some h
  refine K_callV [.int v1, .int (σ.1 23 15)] hX hg hR (ctX_pmostLoad hw hc_4) lk_X4_104_X4_mostLoad md_X4_mostLoad (xc_49 hw) cls_X4 ⟨by decide, by decide⟩ rfl rfl (Nat.le_of_ble_eq_true rfl) dX4_weighLoads_22 ?_
  refine K_icmp_gt (tgt := 55) hX dX4_weighLoads_25 rfl h (fun h => ?_) (fun h => ?_)
  · exact K_vret hX hr dX4_weighLoads_55 h
  · refine J_aload_n (q := 0) hX dX4_weighLoads_28 rfl rfl ?_
    refine J_iload_n (q := 1) hX dX4_weighLoads_29 rfl rfl ?_
    refine J_iload_n (q := 2) hX dX4_weighLoads_30 rfl rfl ?_
    obtain ⟨σ_6, hc_7, h⟩ := bnd1_some h
    refine K_callV [.int v1, .int v2] hX hg hR (ctX_pfindBest hw hc_7) lk_X4_107_X4_findBest md_X4_findBest (xc_49 hw) cls_X4 ⟨by decide, by decide⟩ rfl rfl (Nat.le_of_ble_eq_true rfl) dX4_weighLoads_31 ?_
    refine J_aload_n (q := 0) hX dX4_weighLoads_34 rfl rfl ?_
    refine K_getc 50 hX (xc_49 hw) cls_X4 (k := 3) (by decide) uw_2_140 rfl dX4_weighLoads_35 ?_
    refine J_iload_n (q := 1) hX dX4_weighLoads_38 rfl rfl ?_
    refine J_bipush (v := (121 : Int32)) hX dX4_weighLoads_39 (by decide) ?_
    refine J_imul hX dX4_weighLoads_41 ?_
    refine J_iload_n (q := 2) hX dX4_weighLoads_42 rfl rfl ?_
    refine J_iadd hX dX4_weighLoads_43 ?_
    refine J_aload_n (q := 0) hX dX4_weighLoads_44 rfl rfl ?_
    refine K_geti hX (xc_49 hw) cls_X4 (k := 10) (by decide) uw_2_152 rfl dX4_weighLoads_45 ?_
    refine K_iast hX (xc_50 hw) dX4_weighLoads_48 h (fun σ_8 h => ?_)
    refine K_iinc (q := 2) (fun v2_9 => [(2, .int v2_9), (0, .ref (wad (xw X) 49)), (1, .int v1)]) hX dX4_weighLoads_49 rfl (by decide) (fun _ => rfl) h (fun v2_9 h => ?_)
    refine J_goto (tgt := 12) hX dX4_weighLoads_52 rfl ?_
    refine J_sub [1, 2, 0] rfl ?_
    exact hk12 v1 v2_9 σ_8 h
def rX_pweighLoads_12L : ((Int32 × Int32 × St) → Option (St)) → (Int32 × Int32 × St) → Option (St) := fun k a => rX_pweighLoads_12 (fun v1 v2 σ => k (v1, v2, σ)) a.1 a.2.1 a.2.2
theorem tX_pweighLoads_12 {X : CX} (hX : gd X cX4_weighLoads 3 RX4 none) (hw : isX (xw X)) (hg : nA X) (hR : xR X = rmOf 5 125 0 0) {τ : St} (hr : xr X = (none, τ)) (n : Nat) (v1 : Int32) (v2 : Int32) (σ : St) (h : lp (rX_pweighLoads_12L) n (v1, v2, σ) = some τ) : Jd X 3 12 [(0, .ref (wad (xw X) 49)), (1, .int v1), (2, .int v2)] [] σ :=
  lp_ind (F := rX_pweighLoads_12L) (P := fun a => Jd X 3 12 [(0, .ref (wad (xw X) 49)), (1, .int a.1), (2, .int a.2.1)] [] a.2.2) (fun k a hk h => tX_pweighLoads_12b hX hw hg hR hr (fun v1 v2 σ h => hk (v1, v2, σ) h) a.1 a.2.1 a.2.2 h) n (v1, v2, σ) h

def rX_pweighLoads (v1 : Int32) (σ : St) : Option (St) :=
  chk (ib (v1 * (121 : Int32)) 726) (nm (setI σ 50 (v1 * (121 : Int32)).toNatClampNeg (0 : Int32)) fun σ_1 => nm (1 : Int32) fun v2_2 => lp (rX_pweighLoads_12L) fu (v1, v2_2, σ_1))
set_option maxRecDepth 100000 in
theorem tX_pweighLoads {X : CX} (hX : gd X cX4_weighLoads 3 RX4 none) (hw : isX (xw X)) (hg : nA X) (hR : xR X = rmOf 5 125 0 0) {τ : St} (hr : xr X = (none, τ)) (v1 : Int32) (σ : St) (h : rX_pweighLoads v1 σ = some τ) : Jd X 3 0 [(0, .ref (wad (xw X) 49)), (1, .int v1)] [] σ := by
  unfold rX_pweighLoads at h
  refine J_aload_n (q := 0) hX dX4_weighLoads_0 rfl rfl ?_
  refine K_getc 50 hX (xc_49 hw) cls_X4 (k := 3) (by decide) uw_2_140 rfl dX4_weighLoads_1 ?_
  refine J_iload_n (q := 1) hX dX4_weighLoads_4 rfl rfl ?_
  refine J_bipush (v := (121 : Int32)) hX dX4_weighLoads_5 (by decide) ?_
  refine J_imul hX dX4_weighLoads_7 ?_
  refine J_iconst (v := (0 : Int32)) hX dX4_weighLoads_8 (by decide) ?_
  refine K_iast hX (xc_50 hw) dX4_weighLoads_9 h (fun σ_1 h => ?_)
  refine J_iconst (v := (1 : Int32)) hX dX4_weighLoads_10 (by decide) ?_
  refine K_istore_n (fun v2_2 => [(2, .int v2_2), (0, .ref (wad (xw X) 49)), (1, .int v1)]) hX dX4_weighLoads_11 rfl (by decide) (fun _ => rfl) h (fun v2_2 h => ?_)
  refine J_sub [1, 2, 0] rfl ?_
  exact tX_pweighLoads_12 hX hw hg hR hr fu v1 v2_2 σ_1 h
theorem ctX_pweighLoads {w : WT} (hw : isX w) {v1 : Int32} {σ : St} {τ : St} (h : rX_pweighLoads v1 σ = some τ) : Ct yX4_weighLoads cX4_weighLoads 3 none 5 125 w [.ref (wad w 49), .int v1] σ none τ 0 0 :=
  Ct_intro (fun _ => (0, 0)) (by decide) rfl ⟨rfl, Nat.le_refl _⟩ (Nat.le_of_ble_eq_true rfl) (fun X hX hR hwX hg hr => by subst hwX; exact tX_pweighLoads hX hw hg hR hr v1 σ h)

def rX_pbrought_42 (s0 : Int32) (σ : St) : Option (Int32 × St) :=
  some (s0, σ)
set_option maxRecDepth 100000 in
theorem tX_pbrought_42 {X : CX} (hX : gd X cX4_brought 5 RX4 (some .int)) (hw : isX (xw X)) (hg : nA X) (hR : xR X = rmOf 0 0 0 0) {r : Int32} {τ : St} (hr : xr X = (some (.int r), τ)) (s0 : Int32) (σ : St) (h : rX_pbrought_42 s0 σ = some (r, τ)) : Jd X 5 42 [] [.int s0] σ := by
  unfold rX_pbrought_42 at h
  exact K_iret hX hr dX4_brought_42 h

def rX_pbrought (v1 : Int32) (v2 : Int32) (v3 : Int32) (σ : St) : Option (Int32 × St) :=
  chk (ib ((v1 * (121 : Int32)) + v2) 726) (nm (σ.1 50 ((v1 * (121 : Int32)) + v2).toNatClampNeg) fun v4_1 => brc (¬ v4_1 = (-1 : Int32)) (chk (ib ((((v1 + (1 : Int32)) * (201 : Int32)) + v3) - v2) 1407) (rX_pbrought_42 (v4_1 + (σ.1 51 ((((v1 + (1 : Int32)) * (201 : Int32)) + v3) - v2).toNatClampNeg)) σ)) (rX_pbrought_42 (-1 : Int32) σ))
set_option maxRecDepth 100000 in
theorem tX_pbrought {X : CX} (hX : gd X cX4_brought 5 RX4 (some .int)) (hw : isX (xw X)) (hg : nA X) (hR : xR X = rmOf 0 0 0 0) {r : Int32} {τ : St} (hr : xr X = (some (.int r), τ)) (v1 : Int32) (v2 : Int32) (v3 : Int32) (σ : St) (h : rX_pbrought v1 v2 v3 σ = some (r, τ)) : Jd X 5 0 [(0, .ref (wad (xw X) 49)), (1, .int v1), (2, .int v2), (3, .int v3)] [] σ := by
  unfold rX_pbrought at h
  refine J_aload_n (q := 0) hX dX4_brought_0 rfl rfl ?_
  refine K_getc 50 hX (xc_49 hw) cls_X4 (k := 3) (by decide) uw_2_140 rfl dX4_brought_1 ?_
  refine J_iload_n (q := 1) hX dX4_brought_4 rfl rfl ?_
  refine J_bipush (v := (121 : Int32)) hX dX4_brought_5 (by decide) ?_
  refine J_imul hX dX4_brought_7 ?_
  refine J_iload_n (q := 2) hX dX4_brought_8 rfl rfl ?_
  refine J_iadd hX dX4_brought_9 ?_
  refine K_iald hX (xc_50 hw) dX4_brought_10 h (fun h => ?_)
  refine K_istore (fun v4_1 => [(4, .int v4_1), (0, .ref (wad (xw X) 49)), (1, .int v1), (2, .int v2), (3, .int v3)]) hX dX4_brought_11 (by decide) (fun _ => rfl) h (fun v4_1 h => ?_)
  refine J_iload (q := 0) hX dX4_brought_13 rfl ?_
  refine J_iconst (v := (-1 : Int32)) hX dX4_brought_15 (by decide) ?_
  refine K_icmp_ne (tgt := 23) hX dX4_brought_16 rfl h (fun h => ?_) (fun h => ?_)
  · refine J_iload (q := 0) hX dX4_brought_23 rfl ?_
    refine J_aload_n (q := 1) hX dX4_brought_25 rfl rfl ?_
    refine K_getc 51 hX (xc_49 hw) cls_X4 (k := 4) (by decide) uw_2_141 rfl dX4_brought_26 ?_
    refine J_iload_n (q := 2) hX dX4_brought_29 rfl rfl ?_
    refine J_iconst (v := (1 : Int32)) hX dX4_brought_30 (by decide) ?_
    refine J_iadd hX dX4_brought_31 ?_
    refine J_sipush (v := (201 : Int32)) hX dX4_brought_32 (by decide) ?_
    refine J_imul hX dX4_brought_35 ?_
    refine J_iload_n (q := 4) hX dX4_brought_36 rfl rfl ?_
    refine J_iadd hX dX4_brought_37 ?_
    refine J_iload_n (q := 3) hX dX4_brought_38 rfl rfl ?_
    refine J_isub hX dX4_brought_39 ?_
    refine K_iald hX (xc_51 hw) dX4_brought_40 h (fun h => ?_)
    refine J_iadd hX dX4_brought_41 ?_
    refine J_sub [] rfl ?_
    exact tX_pbrought_42 hX hw hg hR hr (v4_1 + (σ.1 51 ((((v1 + (1 : Int32)) * (201 : Int32)) + v3) - v2).toNatClampNeg)) σ h
  · refine J_iconst (v := (-1 : Int32)) hX dX4_brought_19 (by decide) ?_
    refine J_goto (tgt := 42) hX dX4_brought_20 rfl ?_
    refine J_sub [] rfl ?_
    exact tX_pbrought_42 hX hw hg hR hr (-1 : Int32) σ h
theorem ctX_pbrought {w : WT} (hw : isX w) {v1 : Int32} {v2 : Int32} {v3 : Int32} {σ : St} {r : Int32} {τ : St} (h : rX_pbrought v1 v2 v3 σ = some (r, τ)) : Ct yX4_brought cX4_brought 5 (some .int) 0 0 w [.ref (wad w 49), .int v1, .int v2, .int v3] σ (some (.int r)) τ 0 0 :=
  Ct_intro (fun _ => (0, 0)) (by decide) rfl ⟨rfl, Nat.le_refl _⟩ (Nat.le_of_ble_eq_true rfl) (fun X hX hR hwX hg hr => by subst hwX; exact tX_pbrought hX hw hg hR hr v1 v2 v3 σ h)

def rX_pweighSprings_18 (k2 : Int32 → Int32 → St → Option (St)) (k18 : Int32 → Int32 → Int32 → Int32 → St → Option (St)) (v1 : Int32) (v2 : Int32) (v3 : Int32) (v4 : Int32) (σ : St) : Option (St) :=
  bnd2 (rX_pmostLoad v1 v2 σ) fun r_6 σ_4 => brc (r_6 < v4) (chk (ib ((v1 * (201 : Int32)) + v2) 1407) (nm (setI σ_4 51 ((v1 * (201 : Int32)) + v2).toNatClampNeg v3) fun σ_7 => nm (v2 + Int32.ofInt 1) fun v2_8 => k2 v1 v2_8 σ_7)) (bnd2 (rX_pbrought v1 v4 v2 σ_4) fun r_11 σ_9 => nm (if v3 < r_11 then r_11 else v3) fun v3_12 => nm (v4 + Int32.ofInt 1) fun v4_13 => k18 v1 v2 v3_12 v4_13 σ_9)
set_option maxRecDepth 100000 in
theorem tX_pweighSprings_18b {X : CX} (hX : gd X cX4_weighSprings 5 RX4 none) (hw : isX (xw X)) (hg : nA X) (hR : xR X = rmOf 2 43 0 0) {τ : St} (hr : xr X = (none, τ)) {k2 : Int32 → Int32 → St → Option (St)} (hk2 : (∀ (v1 : Int32) (v2 : Int32) (σ : St), k2 v1 v2 σ = some τ → Jd X 5 2 [(0, .ref (wad (xw X) 49)), (1, .int v1), (2, .int v2)] [] σ)) {k18 : Int32 → Int32 → Int32 → Int32 → St → Option (St)} (hk18 : (∀ (v1 : Int32) (v2 : Int32) (v3 : Int32) (v4 : Int32) (σ : St), k18 v1 v2 v3 v4 σ = some τ → Jd X 5 18 [(0, .ref (wad (xw X) 49)), (1, .int v1), (2, .int v2), (3, .int v3), (4, .int v4)] [] σ)) (v1 : Int32) (v2 : Int32) (v3 : Int32) (v4 : Int32) (σ : St) (h : rX_pweighSprings_18 k2 k18 v1 v2 v3 v4 σ = some τ) : Jd X 5 18 [(0, .ref (wad (xw X) 49)), (1, .int v1), (2, .int v2), (3, .int v3), (4, .int v4)] [] σ := by
  unfold rX_pweighSprings_18 at h
  refine J_iload (q := 4) hX dX4_weighSprings_18 rfl ?_
  refine J_aload_n (q := 0) hX dX4_weighSprings_20 rfl rfl ?_
  refine J_iload_n (q := 1) hX dX4_weighSprings_21 rfl rfl ?_
  refine J_iload_n (q := 2) hX dX4_weighSprings_22 rfl rfl ?_
  obtain ⟨r_6, σ_4, hc_5, h⟩ := bnd2_some h
  refine K_callV [.int v1, .int v2] hX hg hR (ctX_pmostLoad hw hc_5) lk_X4_104_X4_mostLoad md_X4_mostLoad (xc_49 hw) cls_X4 ⟨by decide, by decide⟩ rfl rfl (Nat.le_of_ble_eq_true rfl) dX4_weighSprings_23 ?_
  refine K_icmp_gt (tgt := 48) hX dX4_weighSprings_26 rfl h (fun h => ?_) (fun h => ?_)
  · refine J_aload_n (q := 0) hX dX4_weighSprings_48 rfl rfl ?_
    refine K_getc 51 hX (xc_49 hw) cls_X4 (k := 4) (by decide) uw_2_141 rfl dX4_weighSprings_49 ?_
    refine J_iload_n (q := 1) hX dX4_weighSprings_52 rfl rfl ?_
    refine J_sipush (v := (201 : Int32)) hX dX4_weighSprings_53 (by decide) ?_
    refine J_imul hX dX4_weighSprings_56 ?_
    refine J_iload_n (q := 2) hX dX4_weighSprings_57 rfl rfl ?_
    refine J_iadd hX dX4_weighSprings_58 ?_
    refine J_iload_n (q := 3) hX dX4_weighSprings_59 rfl rfl ?_
    refine K_iast hX (xc_51 hw) dX4_weighSprings_60 h (fun σ_7 h => ?_)
    refine K_iinc (q := 2) (fun v2_8 => [(2, .int v2_8), (0, .ref (wad (xw X) 49)), (1, .int v1), (3, .int v3), (4, .int v4)]) hX dX4_weighSprings_61 rfl (by decide) (fun _ => rfl) h (fun v2_8 h => ?_)
    refine J_goto (tgt := 2) hX dX4_weighSprings_64 rfl ?_
    refine J_sub [1, 2, 0] rfl ?_
    exact hk2 v1 v2_8 σ_7 h
  · refine J_iload_n (q := 3) hX dX4_weighSprings_29 rfl rfl ?_
    refine J_aload_n (q := 0) hX dX4_weighSprings_30 rfl rfl ?_
    refine J_iload_n (q := 1) hX dX4_weighSprings_31 rfl rfl ?_
    refine J_iload (q := 4) hX dX4_weighSprings_32 rfl ?_
    refine J_iload_n (q := 2) hX dX4_weighSprings_34 rfl rfl ?_
    obtain ⟨r_11, σ_9, hc_10, h⟩ := bnd2_some h
    refine K_callV [.int v1, .int v4, .int v2] hX hg hR (ctX_pbrought hw hc_10) lk_X4_111_X4_brought md_X4_brought (xc_49 hw) cls_X4 ⟨by decide, by decide⟩ rfl rfl (Nat.le_of_ble_eq_true rfl) dX4_weighSprings_35 ?_
    refine K_max hX hR hg lmath_max_X4_115 ⟨by omega, by omega⟩ (Nat.le_of_ble_eq_true rfl) dX4_weighSprings_38 ?_
    refine K_istore_n (fun v3_12 => [(3, .int v3_12), (0, .ref (wad (xw X) 49)), (1, .int v1), (2, .int v2), (4, .int v4)]) hX dX4_weighSprings_41 rfl (by decide) (fun _ => rfl) h (fun v3_12 h => ?_)
    refine K_iinc (q := 4) (fun v4_13 => [(4, .int v4_13), (3, .int v3_12), (0, .ref (wad (xw X) 49)), (1, .int v1), (2, .int v2)]) hX dX4_weighSprings_42 rfl (by decide) (fun _ => rfl) h (fun v4_13 h => ?_)
    refine J_goto (tgt := 18) hX dX4_weighSprings_45 rfl ?_
    refine J_sub [2, 3, 4, 1, 0] rfl ?_
    exact hk18 v1 v2 v3_12 v4_13 σ_9 h
def rX_pweighSprings_18L (k2 : Int32 → Int32 → St → Option (St)) : ((Int32 × Int32 × Int32 × Int32 × St) → Option (St)) → (Int32 × Int32 × Int32 × Int32 × St) → Option (St) := fun k a => rX_pweighSprings_18 k2 (fun v1 v2 v3 v4 σ => k (v1, v2, v3, v4, σ)) a.1 a.2.1 a.2.2.1 a.2.2.2.1 a.2.2.2.2
theorem tX_pweighSprings_18 {X : CX} (hX : gd X cX4_weighSprings 5 RX4 none) (hw : isX (xw X)) (hg : nA X) (hR : xR X = rmOf 2 43 0 0) {τ : St} (hr : xr X = (none, τ)) {k2 : Int32 → Int32 → St → Option (St)} (hk2 : (∀ (v1 : Int32) (v2 : Int32) (σ : St), k2 v1 v2 σ = some τ → Jd X 5 2 [(0, .ref (wad (xw X) 49)), (1, .int v1), (2, .int v2)] [] σ)) (n : Nat) (v1 : Int32) (v2 : Int32) (v3 : Int32) (v4 : Int32) (σ : St) (h : lp (rX_pweighSprings_18L k2) n (v1, v2, v3, v4, σ) = some τ) : Jd X 5 18 [(0, .ref (wad (xw X) 49)), (1, .int v1), (2, .int v2), (3, .int v3), (4, .int v4)] [] σ :=
  lp_ind (F := rX_pweighSprings_18L k2) (P := fun a => Jd X 5 18 [(0, .ref (wad (xw X) 49)), (1, .int a.1), (2, .int a.2.1), (3, .int a.2.2.1), (4, .int a.2.2.2.1)] [] a.2.2.2.2) (fun k a hk h => tX_pweighSprings_18b hX hw hg hR hr hk2 (fun v1 v2 v3 v4 σ h => hk (v1, v2, v3, v4, σ) h) a.1 a.2.1 a.2.2.1 a.2.2.2.1 a.2.2.2.2 h) n (v1, v2, v3, v4, σ) h

def rX_pweighSprings_2 (k2 : Int32 → Int32 → St → Option (St)) (v1 : Int32) (v2 : Int32) (σ : St) : Option (St) :=
  brc ((σ.1 23 15) < v2) (some σ) (nm (0 : Int32) fun v3_2 => nm (0 : Int32) fun v4_3 => lp (rX_pweighSprings_18L k2) fu (v1, v2, v3_2, v4_3, σ))
set_option maxRecDepth 100000 in
theorem tX_pweighSprings_2b {X : CX} (hX : gd X cX4_weighSprings 5 RX4 none) (hw : isX (xw X)) (hg : nA X) (hR : xR X = rmOf 2 43 0 0) {τ : St} (hr : xr X = (none, τ)) {k2 : Int32 → Int32 → St → Option (St)} (hk2 : (∀ (v1 : Int32) (v2 : Int32) (σ : St), k2 v1 v2 σ = some τ → Jd X 5 2 [(0, .ref (wad (xw X) 49)), (1, .int v1), (2, .int v2)] [] σ)) (v1 : Int32) (v2 : Int32) (σ : St) (h : rX_pweighSprings_2 k2 v1 v2 σ = some τ) : Jd X 5 2 [(0, .ref (wad (xw X) 49)), (1, .int v1), (2, .int v2)] [] σ := by
  unfold rX_pweighSprings_2 at h
  refine J_iload_n (q := 2) hX dX4_weighSprings_2 rfl rfl ?_
  refine J_aload_n (q := 0) hX dX4_weighSprings_3 rfl rfl ?_
  refine K_getc 23 hX (xc_49 hw) cls_X4 (k := 0) (by decide) uw_2_137 rfl dX4_weighSprings_4 ?_
  refine K_geti hX (xc_23 hw) cls_X3 (k := 15) (by decide) uw_1_144 rfl dX4_weighSprings_7 ?_
  refine K_icmp_gt (tgt := 67) hX dX4_weighSprings_10 rfl h (fun h => ?_) (fun h => ?_)
  · exact K_vret hX hr dX4_weighSprings_67 h
  · refine J_iconst (v := (0 : Int32)) hX dX4_weighSprings_13 (by decide) ?_
    refine K_istore_n (fun v3_2 => [(3, .int v3_2), (0, .ref (wad (xw X) 49)), (1, .int v1), (2, .int v2)]) hX dX4_weighSprings_14 rfl (by decide) (fun _ => rfl) h (fun v3_2 h => ?_)
    refine J_iconst (v := (0 : Int32)) hX dX4_weighSprings_15 (by decide) ?_
    refine K_istore (fun v4_3 => [(4, .int v4_3), (3, .int v3_2), (0, .ref (wad (xw X) 49)), (1, .int v1), (2, .int v2)]) hX dX4_weighSprings_16 (by decide) (fun _ => rfl) h (fun v4_3 h => ?_)
    refine J_sub [2, 3, 4, 1, 0] rfl ?_
    exact tX_pweighSprings_18 hX hw hg hR hr hk2 fu v1 v2 v3_2 v4_3 σ h
def rX_pweighSprings_2L : ((Int32 × Int32 × St) → Option (St)) → (Int32 × Int32 × St) → Option (St) := fun k a => rX_pweighSprings_2 (fun v1 v2 σ => k (v1, v2, σ)) a.1 a.2.1 a.2.2
theorem tX_pweighSprings_2 {X : CX} (hX : gd X cX4_weighSprings 5 RX4 none) (hw : isX (xw X)) (hg : nA X) (hR : xR X = rmOf 2 43 0 0) {τ : St} (hr : xr X = (none, τ)) (n : Nat) (v1 : Int32) (v2 : Int32) (σ : St) (h : lp (rX_pweighSprings_2L) n (v1, v2, σ) = some τ) : Jd X 5 2 [(0, .ref (wad (xw X) 49)), (1, .int v1), (2, .int v2)] [] σ :=
  lp_ind (F := rX_pweighSprings_2L) (P := fun a => Jd X 5 2 [(0, .ref (wad (xw X) 49)), (1, .int a.1), (2, .int a.2.1)] [] a.2.2) (fun k a hk h => tX_pweighSprings_2b hX hw hg hR hr (fun v1 v2 σ h => hk (v1, v2, σ) h) a.1 a.2.1 a.2.2 h) n (v1, v2, σ) h

def rX_pweighSprings (v1 : Int32) (σ : St) : Option (St) :=
  nm (0 : Int32) fun v2_1 => lp (rX_pweighSprings_2L) fu (v1, v2_1, σ)
set_option maxRecDepth 100000 in
theorem tX_pweighSprings {X : CX} (hX : gd X cX4_weighSprings 5 RX4 none) (hw : isX (xw X)) (hg : nA X) (hR : xR X = rmOf 2 43 0 0) {τ : St} (hr : xr X = (none, τ)) (v1 : Int32) (σ : St) (h : rX_pweighSprings v1 σ = some τ) : Jd X 5 0 [(0, .ref (wad (xw X) 49)), (1, .int v1)] [] σ := by
  unfold rX_pweighSprings at h
  refine J_iconst (v := (0 : Int32)) hX dX4_weighSprings_0 (by decide) ?_
  refine K_istore_n (fun v2_1 => [(2, .int v2_1), (0, .ref (wad (xw X) 49)), (1, .int v1)]) hX dX4_weighSprings_1 rfl (by decide) (fun _ => rfl) h (fun v2_1 h => ?_)
  refine J_sub [1, 2, 0] rfl ?_
  exact tX_pweighSprings_2 hX hw hg hR hr fu v1 v2_1 σ h
theorem ctX_pweighSprings {w : WT} (hw : isX w) {v1 : Int32} {σ : St} {τ : St} (h : rX_pweighSprings v1 σ = some τ) : Ct yX4_weighSprings cX4_weighSprings 5 none 2 43 w [.ref (wad w 49), .int v1] σ none τ 0 0 :=
  Ct_intro (fun _ => (0, 0)) (by decide) rfl ⟨rfl, Nat.le_refl _⟩ (Nat.le_of_ble_eq_true rfl) (fun X hX hR hwX hg hr => by subst hwX; exact tX_pweighSprings hX hw hg hR hr v1 σ h)

def rX_pleastLoad_2 (k2 : Int32 → Int32 → Int32 → St → Option (Int32 × St)) (v1 : Int32) (v2 : Int32) (v3 : Int32) (σ : St) : Option (Int32 × St) :=
  bnd2 (rX_pmostLoad v1 v2 σ) fun r_4 σ_2 => brc (r_4 < v3) (some ((0 : Int32), σ_2)) (bnd2 (rX_pbrought v1 v3 v2 σ_2) fun r_7 σ_5 => chk (ib ((v1 * (201 : Int32)) + v2) 1407) (brc (¬ r_7 = (σ_5.1 51 ((v1 * (201 : Int32)) + v2).toNatClampNeg)) (nm (v3 + Int32.ofInt 1) fun v3_8 => k2 v1 v2 v3_8 σ_5) (some (v3, σ_5))))
set_option maxRecDepth 100000 in
theorem tX_pleastLoad_2b {X : CX} (hX : gd X cX4_leastLoad 4 RX4 (some .int)) (hw : isX (xw X)) (hg : nA X) (hR : xR X = rmOf 2 43 0 0) {r : Int32} {τ : St} (hr : xr X = (some (.int r), τ)) {k2 : Int32 → Int32 → Int32 → St → Option (Int32 × St)} (hk2 : (∀ (v1 : Int32) (v2 : Int32) (v3 : Int32) (σ : St), k2 v1 v2 v3 σ = some (r, τ) → Jd X 4 2 [(0, .ref (wad (xw X) 49)), (1, .int v1), (2, .int v2), (3, .int v3)] [] σ)) (v1 : Int32) (v2 : Int32) (v3 : Int32) (σ : St) (h : rX_pleastLoad_2 k2 v1 v2 v3 σ = some (r, τ)) : Jd X 4 2 [(0, .ref (wad (xw X) 49)), (1, .int v1), (2, .int v2), (3, .int v3)] [] σ := by
  unfold rX_pleastLoad_2 at h
  refine J_iload_n (q := 3) hX dX4_leastLoad_2 rfl rfl ?_
  refine J_aload_n (q := 0) hX dX4_leastLoad_3 rfl rfl ?_
  refine J_iload_n (q := 1) hX dX4_leastLoad_4 rfl rfl ?_
  refine J_iload_n (q := 2) hX dX4_leastLoad_5 rfl rfl ?_
  obtain ⟨r_4, σ_2, hc_3, h⟩ := bnd2_some h
  refine K_callV [.int v1, .int v2] hX hg hR (ctX_pmostLoad hw hc_3) lk_X4_104_X4_mostLoad md_X4_mostLoad (xc_49 hw) cls_X4 ⟨by decide, by decide⟩ rfl rfl (Nat.le_of_ble_eq_true rfl) dX4_leastLoad_6 ?_
  refine K_icmp_gt (tgt := 42) hX dX4_leastLoad_9 rfl h (fun h => ?_) (fun h => ?_)
  · refine J_iconst (v := (0 : Int32)) hX dX4_leastLoad_42 (by decide) ?_
    exact K_iret hX hr dX4_leastLoad_43 h
  · refine J_aload_n (q := 0) hX dX4_leastLoad_12 rfl rfl ?_
    refine J_iload_n (q := 1) hX dX4_leastLoad_13 rfl rfl ?_
    refine J_iload_n (q := 3) hX dX4_leastLoad_14 rfl rfl ?_
    refine J_iload_n (q := 2) hX dX4_leastLoad_15 rfl rfl ?_
    obtain ⟨r_7, σ_5, hc_6, h⟩ := bnd2_some h
    refine K_callV [.int v1, .int v3, .int v2] hX hg hR (ctX_pbrought hw hc_6) lk_X4_111_X4_brought md_X4_brought (xc_49 hw) cls_X4 ⟨by decide, by decide⟩ rfl rfl (Nat.le_of_ble_eq_true rfl) dX4_leastLoad_16 ?_
    refine J_aload_n (q := 0) hX dX4_leastLoad_19 rfl rfl ?_
    refine K_getc 51 hX (xc_49 hw) cls_X4 (k := 4) (by decide) uw_2_141 rfl dX4_leastLoad_20 ?_
    refine J_iload_n (q := 1) hX dX4_leastLoad_23 rfl rfl ?_
    refine J_sipush (v := (201 : Int32)) hX dX4_leastLoad_24 (by decide) ?_
    refine J_imul hX dX4_leastLoad_27 ?_
    refine J_iload_n (q := 2) hX dX4_leastLoad_28 rfl rfl ?_
    refine J_iadd hX dX4_leastLoad_29 ?_
    refine K_iald hX (xc_51 hw) dX4_leastLoad_30 h (fun h => ?_)
    refine K_icmp_ne (tgt := 36) hX dX4_leastLoad_31 rfl h (fun h => ?_) (fun h => ?_)
    · refine K_iinc (q := 3) (fun v3_8 => [(3, .int v3_8), (0, .ref (wad (xw X) 49)), (1, .int v1), (2, .int v2)]) hX dX4_leastLoad_36 rfl (by decide) (fun _ => rfl) h (fun v3_8 h => ?_)
      refine J_goto (tgt := 2) hX dX4_leastLoad_39 rfl ?_
      refine J_sub [1, 2, 3, 0] rfl ?_
      exact hk2 v1 v2 v3_8 σ_5 h
    · refine J_iload_n (q := 3) hX dX4_leastLoad_34 rfl rfl ?_
      exact K_iret hX hr dX4_leastLoad_35 h
def rX_pleastLoad_2L : ((Int32 × Int32 × Int32 × St) → Option (Int32 × St)) → (Int32 × Int32 × Int32 × St) → Option (Int32 × St) := fun k a => rX_pleastLoad_2 (fun v1 v2 v3 σ => k (v1, v2, v3, σ)) a.1 a.2.1 a.2.2.1 a.2.2.2
theorem tX_pleastLoad_2 {X : CX} (hX : gd X cX4_leastLoad 4 RX4 (some .int)) (hw : isX (xw X)) (hg : nA X) (hR : xR X = rmOf 2 43 0 0) {r : Int32} {τ : St} (hr : xr X = (some (.int r), τ)) (n : Nat) (v1 : Int32) (v2 : Int32) (v3 : Int32) (σ : St) (h : lp (rX_pleastLoad_2L) n (v1, v2, v3, σ) = some (r, τ)) : Jd X 4 2 [(0, .ref (wad (xw X) 49)), (1, .int v1), (2, .int v2), (3, .int v3)] [] σ :=
  lp_ind (F := rX_pleastLoad_2L) (P := fun a => Jd X 4 2 [(0, .ref (wad (xw X) 49)), (1, .int a.1), (2, .int a.2.1), (3, .int a.2.2.1)] [] a.2.2.2) (fun k a hk h => tX_pleastLoad_2b hX hw hg hR hr (fun v1 v2 v3 σ h => hk (v1, v2, v3, σ) h) a.1 a.2.1 a.2.2.1 a.2.2.2 h) n (v1, v2, v3, σ) h

def rX_pleastLoad (v1 : Int32) (v2 : Int32) (σ : St) : Option (Int32 × St) :=
  nm (0 : Int32) fun v3_1 => lp (rX_pleastLoad_2L) fu (v1, v2, v3_1, σ)
set_option maxRecDepth 100000 in
theorem tX_pleastLoad {X : CX} (hX : gd X cX4_leastLoad 4 RX4 (some .int)) (hw : isX (xw X)) (hg : nA X) (hR : xR X = rmOf 2 43 0 0) {r : Int32} {τ : St} (hr : xr X = (some (.int r), τ)) (v1 : Int32) (v2 : Int32) (σ : St) (h : rX_pleastLoad v1 v2 σ = some (r, τ)) : Jd X 4 0 [(0, .ref (wad (xw X) 49)), (1, .int v1), (2, .int v2)] [] σ := by
  unfold rX_pleastLoad at h
  refine J_iconst (v := (0 : Int32)) hX dX4_leastLoad_0 (by decide) ?_
  refine K_istore_n (fun v3_1 => [(3, .int v3_1), (0, .ref (wad (xw X) 49)), (1, .int v1), (2, .int v2)]) hX dX4_leastLoad_1 rfl (by decide) (fun _ => rfl) h (fun v3_1 h => ?_)
  refine J_sub [1, 2, 3, 0] rfl ?_
  exact tX_pleastLoad_2 hX hw hg hR hr fu v1 v2 v3_1 σ h
theorem ctX_pleastLoad {w : WT} (hw : isX w) {v1 : Int32} {v2 : Int32} {σ : St} {r : Int32} {τ : St} (h : rX_pleastLoad v1 v2 σ = some (r, τ)) : Ct yX4_leastLoad cX4_leastLoad 4 (some .int) 2 43 w [.ref (wad w 49), .int v1, .int v2] σ (some (.int r)) τ 0 0 :=
  Ct_intro (fun _ => (0, 0)) (by decide) rfl ⟨rfl, Nat.le_refl _⟩ (Nat.le_of_ble_eq_true rfl) (fun X hX hR hwX hg hr => by subst hwX; exact tX_pleastLoad hX hw hg hR hr v1 v2 σ h)

def rX_pchoose_62 (k10 : Int32 → Int32 → St → Option (St)) (v1 : Int32) (v2 : Int32) (v3 : Int32) (σ : St) : Option (St) :=
  nm (v1 - v3) fun v1_9 => nm (v2 + Int32.ofInt 1) fun v2_10 => k10 v1_9 v2_10 σ
set_option maxRecDepth 100000 in
theorem tX_pchoose_62 {X : CX} (hX : gd X cX4_choose 4 RX4 none) (hw : isX (xw X)) (hg : nA X) (hR : xR X = rmOf 5 125 0 0) {τ : St} (hr : xr X = (none, τ)) {k10 : Int32 → Int32 → St → Option (St)} (hk10 : (∀ (v1 : Int32) (v2 : Int32) (σ : St), k10 v1 v2 σ = some τ → Jd X 4 10 [(0, .ref (wad (xw X) 49)), (1, .int v1), (2, .int v2)] [] σ)) (v1 : Int32) (v2 : Int32) (v3 : Int32) (σ : St) (h : rX_pchoose_62 k10 v1 v2 v3 σ = some τ) : Jd X 4 62 [(0, .ref (wad (xw X) 49)), (1, .int v1), (2, .int v2), (3, .int v3)] [] σ := by
  unfold rX_pchoose_62 at h
  refine J_iload_n (q := 1) hX dX4_choose_62 rfl rfl ?_
  refine J_iload_n (q := 3) hX dX4_choose_63 rfl rfl ?_
  refine J_isub hX dX4_choose_64 ?_
  refine K_istore_n (fun v1_9 => [(1, .int v1_9), (0, .ref (wad (xw X) 49)), (2, .int v2), (3, .int v3)]) hX dX4_choose_65 rfl (by decide) (fun _ => rfl) h (fun v1_9 h => ?_)
  refine K_iinc (q := 2) (fun v2_10 => [(2, .int v2_10), (1, .int v1_9), (0, .ref (wad (xw X) 49)), (3, .int v3)]) hX dX4_choose_66 rfl (by decide) (fun _ => rfl) h (fun v2_10 h => ?_)
  refine J_goto (tgt := 10) hX dX4_choose_69 rfl ?_
  refine J_sub [2, 1, 0] rfl ?_
  exact hk10 v1_9 v2_10 σ h

def rX_pchoose_10 (k10 : Int32 → Int32 → St → Option (St)) (v1 : Int32) (v2 : Int32) (σ : St) : Option (St) :=
  brc ((σ.1 23 2) ≤ v2) (some σ) (bnd2 (rX_pleastLoad v2 v1 σ) fun r_5 σ_3 => nm r_5 fun v3_6 => chk (ib v2 6) (nm (setI σ_3 52 v2.toNatClampNeg v3_6) fun σ_7 => chk (ib v2 6) (nm (setI σ_7 53 v2.toNatClampNeg (-1 : Int32)) fun σ_8 => brc (v3_6 ≤ 0) (rX_pchoose_62 k10 v1 v2 v3_6 σ_8) (bnd1 (rX_pfindBest v2 v3_6 σ_8) fun σ_11 => chk (ib v2 6) (nm (setI σ_11 53 v2.toNatClampNeg (σ_11.1 49 9)) fun σ_13 => rX_pchoose_62 k10 v1 v2 v3_6 σ_13)))))
set_option maxRecDepth 100000 in
theorem tX_pchoose_10b {X : CX} (hX : gd X cX4_choose 4 RX4 none) (hw : isX (xw X)) (hg : nA X) (hR : xR X = rmOf 5 125 0 0) {τ : St} (hr : xr X = (none, τ)) {k10 : Int32 → Int32 → St → Option (St)} (hk10 : (∀ (v1 : Int32) (v2 : Int32) (σ : St), k10 v1 v2 σ = some τ → Jd X 4 10 [(0, .ref (wad (xw X) 49)), (1, .int v1), (2, .int v2)] [] σ)) (v1 : Int32) (v2 : Int32) (σ : St) (h : rX_pchoose_10 k10 v1 v2 σ = some τ) : Jd X 4 10 [(0, .ref (wad (xw X) 49)), (1, .int v1), (2, .int v2)] [] σ := by
  unfold rX_pchoose_10 at h
  refine J_iload_n (q := 2) hX dX4_choose_10 rfl rfl ?_
  refine J_aload_n (q := 0) hX dX4_choose_11 rfl rfl ?_
  refine K_getc 23 hX (xc_49 hw) cls_X4 (k := 0) (by decide) uw_2_137 rfl dX4_choose_12 ?_
  refine K_geti hX (xc_23 hw) cls_X3 (k := 2) (by decide) uw_1_97 rfl dX4_choose_15 ?_
  refine K_icmp_ge (tgt := 72) hX dX4_choose_18 rfl h (fun h => ?_) (fun h => ?_)
  · exact K_vret hX hr dX4_choose_72 h
  · refine J_aload_n (q := 0) hX dX4_choose_21 rfl rfl ?_
    refine J_iload_n (q := 2) hX dX4_choose_22 rfl rfl ?_
    refine J_iload_n (q := 1) hX dX4_choose_23 rfl rfl ?_
    obtain ⟨r_5, σ_3, hc_4, h⟩ := bnd2_some h
    refine K_callV [.int v2, .int v1] hX hg hR (ctX_pleastLoad hw hc_4) lk_X4_118_X4_leastLoad md_X4_leastLoad (xc_49 hw) cls_X4 ⟨by decide, by decide⟩ rfl rfl (Nat.le_of_ble_eq_true rfl) dX4_choose_24 ?_
    refine K_istore_n (fun v3_6 => [(3, .int v3_6), (0, .ref (wad (xw X) 49)), (1, .int v1), (2, .int v2)]) hX dX4_choose_27 rfl (by decide) (fun _ => rfl) h (fun v3_6 h => ?_)
    refine J_aload_n (q := 1) hX dX4_choose_28 rfl rfl ?_
    refine K_getc 52 hX (xc_49 hw) cls_X4 (k := 5) (by decide) uw_2_142 rfl dX4_choose_29 ?_
    refine J_iload_n (q := 3) hX dX4_choose_32 rfl rfl ?_
    refine J_iload_n (q := 0) hX dX4_choose_33 rfl rfl ?_
    refine K_iast hX (xc_52 hw) dX4_choose_34 h (fun σ_7 h => ?_)
    refine J_aload_n (q := 1) hX dX4_choose_35 rfl rfl ?_
    refine K_getc 53 hX (xc_49 hw) cls_X4 (k := 6) (by decide) uw_2_144 rfl dX4_choose_36 ?_
    refine J_iload_n (q := 3) hX dX4_choose_39 rfl rfl ?_
    refine J_iconst (v := (-1 : Int32)) hX dX4_choose_40 (by decide) ?_
    refine K_iast hX (xc_53 hw) dX4_choose_41 h (fun σ_8 h => ?_)
    refine J_iload_n (q := 0) hX dX4_choose_42 rfl rfl ?_
    refine K_if_le (tgt := 62) hX dX4_choose_43 rfl h (fun h => ?_) (fun h => ?_)
    · refine J_sub [1, 2, 3, 0] rfl ?_
      exact tX_pchoose_62 hX hw hg hR hr hk10 v1 v2 v3_6 σ_8 h
    · refine J_aload_n (q := 1) hX dX4_choose_46 rfl rfl ?_
      refine J_iload_n (q := 3) hX dX4_choose_47 rfl rfl ?_
      refine J_iload_n (q := 0) hX dX4_choose_48 rfl rfl ?_
      obtain ⟨σ_11, hc_12, h⟩ := bnd1_some h
      refine K_callV [.int v2, .int v3_6] hX hg hR (ctX_pfindBest hw hc_12) lk_X4_107_X4_findBest md_X4_findBest (xc_49 hw) cls_X4 ⟨by decide, by decide⟩ rfl rfl (Nat.le_of_ble_eq_true rfl) dX4_choose_49 ?_
      refine J_aload_n (q := 1) hX dX4_choose_52 rfl rfl ?_
      refine K_getc 53 hX (xc_49 hw) cls_X4 (k := 6) (by decide) uw_2_144 rfl dX4_choose_53 ?_
      refine J_iload_n (q := 3) hX dX4_choose_56 rfl rfl ?_
      refine J_aload_n (q := 1) hX dX4_choose_57 rfl rfl ?_
      refine K_geti hX (xc_49 hw) cls_X4 (k := 9) (by decide) uw_2_150 rfl dX4_choose_58 ?_
      refine K_iast hX (xc_53 hw) dX4_choose_61 h (fun σ_13 h => ?_)
      refine J_sub [1, 2, 3, 0] rfl ?_
      exact tX_pchoose_62 hX hw hg hR hr hk10 v1 v2 v3_6 σ_13 h
def rX_pchoose_10L : ((Int32 × Int32 × St) → Option (St)) → (Int32 × Int32 × St) → Option (St) := fun k a => rX_pchoose_10 (fun v1 v2 σ => k (v1, v2, σ)) a.1 a.2.1 a.2.2
theorem tX_pchoose_10 {X : CX} (hX : gd X cX4_choose 4 RX4 none) (hw : isX (xw X)) (hg : nA X) (hR : xR X = rmOf 5 125 0 0) {τ : St} (hr : xr X = (none, τ)) (n : Nat) (v1 : Int32) (v2 : Int32) (σ : St) (h : lp (rX_pchoose_10L) n (v1, v2, σ) = some τ) : Jd X 4 10 [(0, .ref (wad (xw X) 49)), (1, .int v1), (2, .int v2)] [] σ :=
  lp_ind (F := rX_pchoose_10L) (P := fun a => Jd X 4 10 [(0, .ref (wad (xw X) 49)), (1, .int a.1), (2, .int a.2.1)] [] a.2.2) (fun k a hk h => tX_pchoose_10b hX hw hg hR hr (fun v1 v2 σ h => hk (v1, v2, σ) h) a.1 a.2.1 a.2.2 h) n (v1, v2, σ) h

def rX_pchoose (σ : St) : Option (St) :=
  nm (σ.1 23 15) fun v1_1 => nm (0 : Int32) fun v2_2 => lp (rX_pchoose_10L) fu (v1_1, v2_2, σ)
set_option maxRecDepth 100000 in
theorem tX_pchoose {X : CX} (hX : gd X cX4_choose 4 RX4 none) (hw : isX (xw X)) (hg : nA X) (hR : xR X = rmOf 5 125 0 0) {τ : St} (hr : xr X = (none, τ)) (σ : St) (h : rX_pchoose σ = some τ) : Jd X 4 0 [(0, .ref (wad (xw X) 49))] [] σ := by
  unfold rX_pchoose at h
  refine J_aload_n (q := 0) hX dX4_choose_0 rfl rfl ?_
  refine K_getc 23 hX (xc_49 hw) cls_X4 (k := 0) (by decide) uw_2_137 rfl dX4_choose_1 ?_
  refine K_geti hX (xc_23 hw) cls_X3 (k := 15) (by decide) uw_1_144 rfl dX4_choose_4 ?_
  refine K_istore_n (fun v1_1 => [(1, .int v1_1), (0, .ref (wad (xw X) 49))]) hX dX4_choose_7 rfl (by decide) (fun _ => rfl) h (fun v1_1 h => ?_)
  refine J_iconst (v := (0 : Int32)) hX dX4_choose_8 (by decide) ?_
  refine K_istore_n (fun v2_2 => [(2, .int v2_2), (1, .int v1_1), (0, .ref (wad (xw X) 49))]) hX dX4_choose_9 rfl (by decide) (fun _ => rfl) h (fun v2_2 h => ?_)
  refine J_sub [2, 1, 0] rfl ?_
  exact tX_pchoose_10 hX hw hg hR hr fu v1_1 v2_2 σ h
theorem ctX_pchoose {w : WT} (hw : isX w) {σ : St} {τ : St} (h : rX_pchoose σ = some τ) : Ct yX4_choose cX4_choose 4 none 5 125 w [.ref (wad w 49)] σ none τ 0 0 :=
  Ct_intro (fun _ => (0, 0)) (by decide) rfl ⟨rfl, Nat.le_refl _⟩ (Nat.le_of_ble_eq_true rfl) (fun X hX hR hwX hg hr => by subst hwX; exact tX_pchoose hX hw hg hR hr  σ h)

def rX_pmakeSure_26 (k26 : Int32 → St → Option (St)) (v1 : Int32) (σ : St) : Option (St) :=
  brc (v1 < 0) (chk (ib (σ.1 23 15) 1407) (nm (setI σ 49 7 (σ.1 51 (σ.1 23 15).toNatClampNeg)) fun σ_4 => bnd1 (rX_pchoose σ_4) fun σ_5 => chk (decide ((1 : Int32) = 0 ∨ (1 : Int32) = 1)) (nm (setI σ_5 49 8 (1 : Int32)) fun σ_7 => some σ_7))) (bnd1 (rX_pweighLoads v1 σ) fun σ_8 => bnd1 (rX_pweighSprings v1 σ_8) fun σ_10 => nm (v1 + Int32.ofInt (-1)) fun v1_12 => k26 v1_12 σ_10)
set_option maxRecDepth 100000 in
theorem tX_pmakeSure_26b {X : CX} (hX : gd X cX4_makeSure 2 RX4 none) (hw : isX (xw X)) (hg : nA X) (hR : xR X = rmOf 6 148 0 0) {τ : St} (hr : xr X = (none, τ)) {k26 : Int32 → St → Option (St)} (hk26 : (∀ (v1 : Int32) (σ : St), k26 v1 σ = some τ → Jd X 2 26 [(0, .ref (wad (xw X) 49)), (1, .int v1)] [] σ)) (v1 : Int32) (σ : St) (h : rX_pmakeSure_26 k26 v1 σ = some τ) : Jd X 2 26 [(0, .ref (wad (xw X) 49)), (1, .int v1)] [] σ := by
  unfold rX_pmakeSure_26 at h
  refine J_iload_n (q := 1) hX dX4_makeSure_26 rfl rfl ?_
  refine K_if_lt (tgt := 46) hX dX4_makeSure_27 rfl h (fun h => ?_) (fun h => ?_)
  · refine J_aload_n (q := 0) hX dX4_makeSure_46 rfl rfl ?_
    refine J_aload_n (q := 0) hX dX4_makeSure_47 rfl rfl ?_
    refine K_getc 51 hX (xc_49 hw) cls_X4 (k := 4) (by decide) uw_2_141 rfl dX4_makeSure_48 ?_
    refine J_aload_n (q := 0) hX dX4_makeSure_51 rfl rfl ?_
    refine K_getc 23 hX (xc_49 hw) cls_X4 (k := 0) (by decide) uw_2_137 rfl dX4_makeSure_52 ?_
    refine K_geti hX (xc_23 hw) cls_X3 (k := 15) (by decide) uw_1_144 rfl dX4_makeSure_55 ?_
    refine K_iald hX (xc_51 hw) dX4_makeSure_58 h (fun h => ?_)
    refine K_puti hX (xc_49 hw) cls_X4 (k := 7) (by decide) uw_2_146 rfl rfl rfl dX4_makeSure_59 h (fun σ_4 h => ?_)
    refine J_aload_n (q := 0) hX dX4_makeSure_62 rfl rfl ?_
    obtain ⟨σ_5, hc_6, h⟩ := bnd1_some h
    refine K_callV [] hX hg hR (ctX_pchoose hw hc_6) lk_X4_91_X4_choose md_X4_choose (xc_49 hw) cls_X4 ⟨by decide, by decide⟩ rfl rfl (Nat.le_of_ble_eq_true rfl) dX4_makeSure_63 ?_
    refine J_aload_n (q := 0) hX dX4_makeSure_66 rfl rfl ?_
    refine J_iconst (v := (1 : Int32)) hX dX4_makeSure_67 (by decide) ?_
    refine K_putz hX (xc_49 hw) cls_X4 (k := 8) (by decide) uw_2_148 rfl rfl rfl dX4_makeSure_68 h (fun σ_7 h => ?_)
    exact K_vret hX hr dX4_makeSure_71 h
  · refine J_aload_n (q := 0) hX dX4_makeSure_30 rfl rfl ?_
    refine J_iload_n (q := 1) hX dX4_makeSure_31 rfl rfl ?_
    obtain ⟨σ_8, hc_9, h⟩ := bnd1_some h
    refine K_callV [.int v1] hX hg hR (ctX_pweighLoads hw hc_9) lk_X4_78_X4_weighLoads md_X4_weighLoads (xc_49 hw) cls_X4 ⟨by decide, by decide⟩ rfl rfl (Nat.le_of_ble_eq_true rfl) dX4_makeSure_32 ?_
    refine J_aload_n (q := 0) hX dX4_makeSure_35 rfl rfl ?_
    refine J_iload_n (q := 1) hX dX4_makeSure_36 rfl rfl ?_
    obtain ⟨σ_10, hc_11, h⟩ := bnd1_some h
    refine K_callV [.int v1] hX hg hR (ctX_pweighSprings hw hc_11) lk_X4_82_X4_weighSprings md_X4_weighSprings (xc_49 hw) cls_X4 ⟨by decide, by decide⟩ rfl rfl (Nat.le_of_ble_eq_true rfl) dX4_makeSure_37 ?_
    refine K_iinc (q := 1) (fun v1_12 => [(1, .int v1_12), (0, .ref (wad (xw X) 49))]) hX dX4_makeSure_40 rfl (by decide) (fun _ => rfl) h (fun v1_12 h => ?_)
    refine J_goto (tgt := 26) hX dX4_makeSure_43 rfl ?_
    refine J_sub [1, 0] rfl ?_
    exact hk26 v1_12 σ_10 h
def rX_pmakeSure_26L : ((Int32 × St) → Option (St)) → (Int32 × St) → Option (St) := fun k a => rX_pmakeSure_26 (fun v1 σ => k (v1, σ)) a.1 a.2
theorem tX_pmakeSure_26 {X : CX} (hX : gd X cX4_makeSure 2 RX4 none) (hw : isX (xw X)) (hg : nA X) (hR : xR X = rmOf 6 148 0 0) {τ : St} (hr : xr X = (none, τ)) (n : Nat) (v1 : Int32) (σ : St) (h : lp (rX_pmakeSure_26L) n (v1, σ) = some τ) : Jd X 2 26 [(0, .ref (wad (xw X) 49)), (1, .int v1)] [] σ :=
  lp_ind (F := rX_pmakeSure_26L) (P := fun a => Jd X 2 26 [(0, .ref (wad (xw X) 49)), (1, .int a.1)] [] a.2) (fun k a hk h => tX_pmakeSure_26b hX hw hg hR hr (fun v1 σ h => hk (v1, σ) h) a.1 a.2 h) n (v1, σ) h

def rX_pmakeSure (σ : St) : Option (St) :=
  brc ((σ.1 49 8) = 0) (bnd1 (rX_fill_from (0 : Int32) σ) fun σ_1 => nm ((σ_1.1 23 2) - (1 : Int32)) fun v1_3 => lp (rX_pmakeSure_26L) fu (v1_3, σ_1)) (some σ)
set_option maxRecDepth 100000 in
theorem tX_pmakeSure {X : CX} (hX : gd X cX4_makeSure 2 RX4 none) (hw : isX (xw X)) (hg : nA X) (hR : xR X = rmOf 6 148 0 0) {τ : St} (hr : xr X = (none, τ)) (σ : St) (h : rX_pmakeSure σ = some τ) : Jd X 2 0 [(0, .ref (wad (xw X) 49))] [] σ := by
  unfold rX_pmakeSure at h
  refine J_aload_n (q := 0) hX dX4_makeSure_0 rfl rfl ?_
  refine K_geti hX (xc_49 hw) cls_X4 (k := 8) (by decide) uw_2_148 rfl dX4_makeSure_1 ?_
  refine K_if_eq (tgt := 8) hX dX4_makeSure_4 rfl h (fun h => ?_) (fun h => ?_)
  · refine J_aload_n (q := 0) hX dX4_makeSure_8 rfl rfl ?_
    refine K_getc 51 hX (xc_49 hw) cls_X4 (k := 4) (by decide) uw_2_141 rfl dX4_makeSure_9 ?_
    refine J_iconst (v := (0 : Int32)) hX dX4_makeSure_12 (by decide) ?_
    obtain ⟨σ_1, hc_2, h⟩ := bnd1_some h
    refine K_callS [.ref (wad (xw X) 51), .int (0 : Int32)] hX hg hR (ctX_fill_from hw hc_2) lk_X4_69_J7_fill_53178 md_J7_fill_53178 ⟨by decide, by decide⟩ rfl rfl (Nat.le_of_ble_eq_true rfl) dX4_makeSure_13 ?_
    refine J_aload_n (q := 0) hX dX4_makeSure_16 rfl rfl ?_
    refine K_getc 23 hX (xc_49 hw) cls_X4 (k := 0) (by decide) uw_2_137 rfl dX4_makeSure_17 ?_
    refine K_geti hX (xc_23 hw) cls_X3 (k := 2) (by decide) uw_1_97 rfl dX4_makeSure_20 ?_
    refine J_iconst (v := (1 : Int32)) hX dX4_makeSure_23 (by decide) ?_
    refine J_isub hX dX4_makeSure_24 ?_
    refine K_istore_n (fun v1_3 => [(1, .int v1_3), (0, .ref (wad (xw X) 49))]) hX dX4_makeSure_25 rfl (by decide) (fun _ => rfl) h (fun v1_3 h => ?_)
    refine J_sub [1, 0] rfl ?_
    exact tX_pmakeSure_26 hX hw hg hR hr fu v1_3 σ_1 h
  · exact K_vret hX hr dX4_makeSure_7 h
theorem ctX_pmakeSure {w : WT} (hw : isX w) {σ : St} {τ : St} (h : rX_pmakeSure σ = some τ) : Ct yX4_makeSure cX4_makeSure 2 none 6 148 w [.ref (wad w 49)] σ none τ 0 0 :=
  Ct_intro (fun _ => (0, 0)) (by decide) rfl ⟨rfl, Nat.le_refl _⟩ (Nat.le_of_ble_eq_true rfl) (fun X hX hR hwX hg hr => by subst hwX; exact tX_pmakeSure hX hw hg hR hr  σ h)

def rX_keepBetter_47 (σ : St) : Option (St) :=
  some σ
set_option maxRecDepth 100000 in
theorem tX_keepBetter_47 {X : CX} (hX : gd X cX1_keepBetter 2 RX1 none) (hw : isX (xw X)) (hg : nA X) (hR : xR X = rmOf 1 26 0 0) {τ : St} (hr : xr X = (none, τ)) (σ : St) (h : rX_keepBetter_47 σ = some τ) : Jd X 2 47 [] [] σ := by
  unfold rX_keepBetter_47 at h
  exact K_vret hX hr dX1_keepBetter_47 h

def rX_keepBetter (v1 : Int32) (σ : St) : Option (St) :=
  brc ((σ.1 46 5) ≤ (σ.1 54 8)) (rX_keepBetter_47 σ) (nm (setI σ 54 8 (σ.1 46 5)) fun σ_1 => nm (setI σ_1 54 7 (σ_1.1 54 6)) fun σ_2 => chk (cpb (0 : Int32) (0 : Int32) v1 7 7) (nm (setR σ_2 56 (va_cpy (σ_2.1 55) (σ_2.1 56) (0 : Int32).toNatClampNeg (0 : Int32).toNatClampNeg v1.toNatClampNeg)) fun σ_3 => rX_keepBetter_47 σ_3))
set_option maxRecDepth 100000 in
theorem tX_keepBetter {X : CX} (hX : gd X cX1_keepBetter 2 RX1 none) (hw : isX (xw X)) (hg : nA X) (hR : xR X = rmOf 1 26 0 0) {τ : St} (hr : xr X = (none, τ)) (v1 : Int32) (σ : St) (h : rX_keepBetter v1 σ = some τ) : Jd X 2 0 [(0, .ref (wad (xw X) 54)), (1, .int v1)] [] σ := by
  unfold rX_keepBetter at h
  refine J_aload_n (q := 0) hX dX1_keepBetter_0 rfl rfl ?_
  refine K_getc 46 hX (xc_54 hw) cls_X1 (k := 2) (by decide) uw_2_185 rfl dX1_keepBetter_1 ?_
  refine K_geti hX (xc_46 hw) cls_X9 (k := 5) (by decide) uw_2_102 rfl dX1_keepBetter_4 ?_
  refine J_aload_n (q := 0) hX dX1_keepBetter_7 rfl rfl ?_
  refine K_geti hX (xc_54 hw) cls_X1 (k := 8) (by decide) uw_2_192 rfl dX1_keepBetter_8 ?_
  refine K_icmp_le (tgt := 47) hX dX1_keepBetter_11 rfl h (fun h => ?_) (fun h => ?_)
  · refine J_sub [] rfl ?_
    exact tX_keepBetter_47 hX hw hg hR hr σ h
  · refine J_aload_n (q := 0) hX dX1_keepBetter_14 rfl rfl ?_
    refine J_aload_n (q := 0) hX dX1_keepBetter_15 rfl rfl ?_
    refine K_getc 46 hX (xc_54 hw) cls_X1 (k := 2) (by decide) uw_2_185 rfl dX1_keepBetter_16 ?_
    refine K_geti hX (xc_46 hw) cls_X9 (k := 5) (by decide) uw_2_102 rfl dX1_keepBetter_19 ?_
    refine K_puti hX (xc_54 hw) cls_X1 (k := 8) (by decide) uw_2_192 rfl rfl rfl dX1_keepBetter_22 h (fun σ_1 h => ?_)
    refine J_aload_n (q := 0) hX dX1_keepBetter_25 rfl rfl ?_
    refine J_aload_n (q := 0) hX dX1_keepBetter_26 rfl rfl ?_
    refine K_geti hX (xc_54 hw) cls_X1 (k := 6) (by decide) uw_2_189 rfl dX1_keepBetter_27 ?_
    refine K_puti hX (xc_54 hw) cls_X1 (k := 7) (by decide) uw_2_190 rfl rfl rfl dX1_keepBetter_30 h (fun σ_2 h => ?_)
    refine J_aload_n (q := 0) hX dX1_keepBetter_33 rfl rfl ?_
    refine K_getc 55 hX (xc_54 hw) cls_X1 (k := 3) (by decide) uw_2_186 rfl dX1_keepBetter_34 ?_
    refine J_iconst (v := (0 : Int32)) hX dX1_keepBetter_37 (by decide) ?_
    refine J_aload_n (q := 0) hX dX1_keepBetter_38 rfl rfl ?_
    refine K_getc 56 hX (xc_54 hw) cls_X1 (k := 4) (by decide) uw_2_187 rfl dX1_keepBetter_39 ?_
    refine J_iconst (v := (0 : Int32)) hX dX1_keepBetter_42 (by decide) ?_
    refine J_iload_n (q := 1) hX dX1_keepBetter_43 rfl rfl ?_
    refine K_copy hX hR (xc_55 hw) (xc_56 hw) lcpy_X1_99 ⟨by omega, by omega⟩ (Nat.le_of_ble_eq_true rfl) dX1_keepBetter_44 h (fun σ_3 h => ?_)
    refine J_sub [] rfl ?_
    exact tX_keepBetter_47 hX hw hg hR hr σ_3 h
theorem ctX_keepBetter {w : WT} (hw : isX w) {v1 : Int32} {σ : St} {τ : St} (h : rX_keepBetter v1 σ = some τ) : Ct yX1_keepBetter cX1_keepBetter 2 none 1 26 w [.ref (wad w 54), .int v1] σ none τ 0 0 :=
  Ct_intro (fun _ => (0, 0)) (by decide) rfl ⟨rfl, Nat.le_refl _⟩ (Nat.le_of_ble_eq_true rfl) (fun X hX hR hwX hg hr => by subst hwX; exact tX_keepBetter hX hw hg hR hr v1 σ h)

def rX_tryWayB_212 (self : Int32 → Int32 → Int32 → Int32 → Int32 → St → Option (St)) (k53 : Int32 → Int32 → Int32 → Int32 → Int32 → Int32 → Int32 → Int32 → Int32 → St → Option (St)) (v1 : Int32) (v2 : Int32) (v3 : Int32) (v4 : Int32) (v5 : Int32) (v6 : Int32) (v7 : Int32) (v8 : Int32) (v9 : Int32) (σ : St) : Option (St) :=
  nm (v9 + Int32.ofInt 1) fun v9_27 => k53 v1 v2 v3 v4 v5 v6 v7 v8 v9_27 σ
set_option maxRecDepth 100000 in
theorem tX_tryWayB_212 {f lo : Nat} {X : CX} (hX : gd X cX1_tryWay 10 RX1 none) (hw : isX (xw X)) (hg : nA X) (hR : xR X = rmOf (f + 3) (lo + 74) 0 0) {τ : St} (hr : xr X = (none, τ)) {self : Int32 → Int32 → Int32 → Int32 → Int32 → St → Option (St)} (hself : ∀ (v1 : Int32) (v2 : Int32) (v3 : Int32) (v4 : Int32) (v5 : Int32) (σ τ : St), self v1 v2 v3 v4 v5 σ = some τ → Ct yX1_tryWay cX1_tryWay 10 none f lo (xw X) [.ref (wad (xw X) 54), .int v1, .int v2, .int v3, .int v4, .int v5] σ none τ 0 0) {k53 : Int32 → Int32 → Int32 → Int32 → Int32 → Int32 → Int32 → Int32 → Int32 → St → Option (St)} (hk53 : (∀ (v1 : Int32) (v2 : Int32) (v3 : Int32) (v4 : Int32) (v5 : Int32) (v6 : Int32) (v7 : Int32) (v8 : Int32) (v9 : Int32) (σ : St), k53 v1 v2 v3 v4 v5 v6 v7 v8 v9 σ = some τ → Jd X 10 53 [(0, .ref (wad (xw X) 54)), (1, .int v1), (2, .int v2), (3, .int v3), (4, .int v4), (5, .int v5), (6, .int v6), (7, .int v7), (8, .int v8), (9, .int v9)] [] σ)) (v1 : Int32) (v2 : Int32) (v3 : Int32) (v4 : Int32) (v5 : Int32) (v6 : Int32) (v7 : Int32) (v8 : Int32) (v9 : Int32) (σ : St) (h : rX_tryWayB_212 self k53 v1 v2 v3 v4 v5 v6 v7 v8 v9 σ = some τ) : Jd X 10 212 [(0, .ref (wad (xw X) 54)), (1, .int v1), (2, .int v2), (3, .int v3), (4, .int v4), (5, .int v5), (6, .int v6), (7, .int v7), (8, .int v8), (9, .int v9)] [] σ := by
  unfold rX_tryWayB_212 at h
  refine K_iinc (q := 9) (fun v9_27 => [(9, .int v9_27), (0, .ref (wad (xw X) 54)), (1, .int v1), (2, .int v2), (3, .int v3), (4, .int v4), (5, .int v5), (6, .int v6), (7, .int v7), (8, .int v8)]) hX dX1_tryWay_212 rfl (by decide) (fun _ => rfl) h (fun v9_27 h => ?_)
  refine J_goto (tgt := 53) hX dX1_tryWay_215 rfl ?_
  refine J_sub [1, 2, 3, 4, 5, 6, 7, 8, 9, 0] rfl ?_
  exact hk53 v1 v2 v3 v4 v5 v6 v7 v8 v9_27 σ h

def rX_tryWayB_83 (self : Int32 → Int32 → Int32 → Int32 → Int32 → St → Option (St)) (k53 : Int32 → Int32 → Int32 → Int32 → Int32 → Int32 → Int32 → Int32 → Int32 → St → Option (St)) (v1 : Int32) (v2 : Int32) (v3 : Int32) (v4 : Int32) (v5 : Int32) (v6 : Int32) (v7 : Int32) (v8 : Int32) (v9 : Int32) (σ : St) : Option (St) :=
  bnd2 (rX_holds v9 σ) fun r_16 σ_14 => nm (setI σ_14 46 5 (if r_16 < v4 then r_16 else v4)) fun σ_17 => nm (setI σ_17 46 6 v5) fun σ_18 => bnd1 (rX_goOver v9 v7 v8 σ_18) fun σ_19 => brc ((σ_19.1 46 6) ≤ (σ_19.1 23 16)) (chk (ib v1 7) (nm (setI σ_19 55 v1.toNatClampNeg v9) fun σ_21 => brc (¬ (v1 + (1 : Int32)) = v6) (bnd2 (rX_drinkAt v9 v8 σ_21) fun r_24 σ_22 => bnd1 (self (v1 + (1 : Int32)) v9 (v3 ||| ((1 : Int32) <<< (v9 &&& 31))) (σ_22.1 46 5) (σ_22.1 46 6) σ_22) fun σ_25 => rX_tryWayB_212 self k53 v1 v2 v3 v4 v5 v6 v7 v8 v9 σ_25) (bnd1 (rX_keepBetter v6 σ_21) fun σ_28 => rX_tryWayB_212 self k53 v1 v2 v3 v4 v5 v6 v7 v8 v9 σ_28))) (rX_tryWayB_212 self k53 v1 v2 v3 v4 v5 v6 v7 v8 v9 σ_19)
set_option maxRecDepth 100000 in
theorem tX_tryWayB_83 {f lo : Nat} {X : CX} (hX : gd X cX1_tryWay 10 RX1 none) (hw : isX (xw X)) (hg : nA X) (hR : xR X = rmOf (f + 3) (lo + 74) 0 0) {τ : St} (hr : xr X = (none, τ)) {self : Int32 → Int32 → Int32 → Int32 → Int32 → St → Option (St)} (hself : ∀ (v1 : Int32) (v2 : Int32) (v3 : Int32) (v4 : Int32) (v5 : Int32) (σ τ : St), self v1 v2 v3 v4 v5 σ = some τ → Ct yX1_tryWay cX1_tryWay 10 none f lo (xw X) [.ref (wad (xw X) 54), .int v1, .int v2, .int v3, .int v4, .int v5] σ none τ 0 0) {k53 : Int32 → Int32 → Int32 → Int32 → Int32 → Int32 → Int32 → Int32 → Int32 → St → Option (St)} (hk53 : (∀ (v1 : Int32) (v2 : Int32) (v3 : Int32) (v4 : Int32) (v5 : Int32) (v6 : Int32) (v7 : Int32) (v8 : Int32) (v9 : Int32) (σ : St), k53 v1 v2 v3 v4 v5 v6 v7 v8 v9 σ = some τ → Jd X 10 53 [(0, .ref (wad (xw X) 54)), (1, .int v1), (2, .int v2), (3, .int v3), (4, .int v4), (5, .int v5), (6, .int v6), (7, .int v7), (8, .int v8), (9, .int v9)] [] σ)) (v1 : Int32) (v2 : Int32) (v3 : Int32) (v4 : Int32) (v5 : Int32) (v6 : Int32) (v7 : Int32) (v8 : Int32) (v9 : Int32) (σ : St) (h : rX_tryWayB_83 self k53 v1 v2 v3 v4 v5 v6 v7 v8 v9 σ = some τ) : Jd X 10 83 [(0, .ref (wad (xw X) 54)), (1, .int v1), (2, .int v2), (3, .int v3), (4, .int v4), (5, .int v5), (6, .int v6), (7, .int v7), (8, .int v8), (9, .int v9)] [] σ := by
  unfold rX_tryWayB_83 at h
  refine J_aload_n (q := 0) hX dX1_tryWay_83 rfl rfl ?_
  refine K_getc 46 hX (xc_54 hw) cls_X1 (k := 2) (by decide) uw_2_185 rfl dX1_tryWay_84 ?_
  refine J_iload (q := 4) hX dX1_tryWay_87 rfl ?_
  refine J_aload_n (q := 0) hX dX1_tryWay_89 rfl rfl ?_
  refine K_getc 23 hX (xc_54 hw) cls_X1 (k := 0) (by decide) uw_2_183 rfl dX1_tryWay_90 ?_
  refine J_iload (q := 9) hX dX1_tryWay_93 rfl ?_
  obtain ⟨r_16, σ_14, hc_15, h⟩ := bnd2_some h
  refine K_callV [.int v9] hX hg hR (ctX_holds hw hc_15) lk_X1_69_X3_holds md_X3_holds (xc_23 hw) cls_X3 ⟨by omega, by omega⟩ rfl rfl (Nat.le_of_ble_eq_true rfl) dX1_tryWay_95 ?_
  refine K_min hX hR hg lmath_min_X1_72 ⟨by omega, by omega⟩ (Nat.le_of_ble_eq_true rfl) dX1_tryWay_98 ?_
  refine K_puti hX (xc_46 hw) cls_X9 (k := 5) (by decide) uw_2_102 rfl rfl rfl dX1_tryWay_101 h (fun σ_17 h => ?_)
  refine J_aload_n (q := 0) hX dX1_tryWay_104 rfl rfl ?_
  refine K_getc 46 hX (xc_54 hw) cls_X1 (k := 2) (by decide) uw_2_185 rfl dX1_tryWay_105 ?_
  refine J_iload (q := 5) hX dX1_tryWay_108 rfl ?_
  refine K_puti hX (xc_46 hw) cls_X9 (k := 6) (by decide) uw_2_106 rfl rfl rfl dX1_tryWay_110 h (fun σ_18 h => ?_)
  refine J_aload_n (q := 0) hX dX1_tryWay_113 rfl rfl ?_
  refine K_getc 46 hX (xc_54 hw) cls_X1 (k := 2) (by decide) uw_2_185 rfl dX1_tryWay_114 ?_
  refine J_iload (q := 9) hX dX1_tryWay_117 rfl ?_
  refine J_iload (q := 7) hX dX1_tryWay_119 rfl ?_
  refine J_iload (q := 8) hX dX1_tryWay_121 rfl ?_
  obtain ⟨σ_19, hc_20, h⟩ := bnd1_some h
  refine K_callV [.int v9, .int v7, .int v8] hX hg hR (ctX_goOver hw hc_20) lk_X1_85_X9_goOver md_X9_goOver (xc_46 hw) cls_X9 ⟨by omega, by omega⟩ rfl rfl (Nat.le_of_ble_eq_true rfl) dX1_tryWay_123 ?_
  refine J_aload_n (q := 0) hX dX1_tryWay_126 rfl rfl ?_
  refine K_getc 46 hX (xc_54 hw) cls_X1 (k := 2) (by decide) uw_2_185 rfl dX1_tryWay_127 ?_
  refine K_geti hX (xc_46 hw) cls_X9 (k := 6) (by decide) uw_2_106 rfl dX1_tryWay_130 ?_
  refine J_aload_n (q := 0) hX dX1_tryWay_133 rfl rfl ?_
  refine K_getc 23 hX (xc_54 hw) cls_X1 (k := 0) (by decide) uw_2_183 rfl dX1_tryWay_134 ?_
  refine K_geti hX (xc_23 hw) cls_X3 (k := 16) (by decide) uw_1_148 rfl dX1_tryWay_137 ?_
  refine K_icmp_le (tgt := 146) hX dX1_tryWay_140 rfl h (fun h => ?_) (fun h => ?_)
  · refine J_aload_n (q := 0) hX dX1_tryWay_146 rfl rfl ?_
    refine K_getc 55 hX (xc_54 hw) cls_X1 (k := 3) (by decide) uw_2_186 rfl dX1_tryWay_147 ?_
    refine J_iload_n (q := 1) hX dX1_tryWay_150 rfl rfl ?_
    refine J_iload (q := 9) hX dX1_tryWay_151 rfl ?_
    refine K_iast hX (xc_55 hw) dX1_tryWay_153 h (fun σ_21 h => ?_)
    refine J_iload_n (q := 1) hX dX1_tryWay_154 rfl rfl ?_
    refine J_iconst (v := (1 : Int32)) hX dX1_tryWay_155 (by decide) ?_
    refine J_iadd hX dX1_tryWay_156 ?_
    refine J_iload (q := 6) hX dX1_tryWay_157 rfl ?_
    refine K_icmp_ne (tgt := 171) hX dX1_tryWay_159 rfl h (fun h => ?_) (fun h => ?_)
    · refine J_aload_n (q := 0) hX dX1_tryWay_171 rfl rfl ?_
      refine K_getc 46 hX (xc_54 hw) cls_X1 (k := 2) (by decide) uw_2_185 rfl dX1_tryWay_172 ?_
      refine J_iload (q := 9) hX dX1_tryWay_175 rfl ?_
      refine J_iload (q := 8) hX dX1_tryWay_177 rfl ?_
      obtain ⟨r_24, σ_22, hc_23, h⟩ := bnd2_some h
      refine K_callV [.int v9, .int v8] hX hg hR (ctX_drinkAt hw hc_23) lk_X1_96_X9_drinkAt md_X9_drinkAt (xc_46 hw) cls_X9 ⟨by omega, by omega⟩ rfl rfl (Nat.le_of_ble_eq_true rfl) dX1_tryWay_179 ?_
      refine J_pop hX dX1_tryWay_182 rfl ?_
      refine J_aload_n (q := 0) hX dX1_tryWay_183 rfl rfl ?_
      refine J_iload_n (q := 1) hX dX1_tryWay_184 rfl rfl ?_
      refine J_iconst (v := (1 : Int32)) hX dX1_tryWay_185 (by decide) ?_
      refine J_iadd hX dX1_tryWay_186 ?_
      refine J_iload (q := 9) hX dX1_tryWay_187 rfl ?_
      refine J_iload_n (q := 3) hX dX1_tryWay_189 rfl rfl ?_
      refine J_iconst (v := (1 : Int32)) hX dX1_tryWay_190 (by decide) ?_
      refine J_iload (q := 9) hX dX1_tryWay_191 rfl ?_
      refine J_ishl hX dX1_tryWay_193 ?_
      refine J_ior hX dX1_tryWay_194 ?_
      refine J_aload_n (q := 0) hX dX1_tryWay_195 rfl rfl ?_
      refine K_getc 46 hX (xc_54 hw) cls_X1 (k := 2) (by decide) uw_2_185 rfl dX1_tryWay_196 ?_
      refine K_geti hX (xc_46 hw) cls_X9 (k := 5) (by decide) uw_2_102 rfl dX1_tryWay_199 ?_
      refine J_aload_n (q := 0) hX dX1_tryWay_202 rfl rfl ?_
      refine K_getc 46 hX (xc_54 hw) cls_X1 (k := 2) (by decide) uw_2_185 rfl dX1_tryWay_203 ?_
      refine K_geti hX (xc_46 hw) cls_X9 (k := 6) (by decide) uw_2_106 rfl dX1_tryWay_206 ?_
      obtain ⟨σ_25, hc_26, h⟩ := bnd1_some h
      refine K_callV [.int (v1 + (1 : Int32)), .int v9, .int (v3 ||| ((1 : Int32) <<< (v9 &&& 31))), .int (σ_22.1 46 5), .int (σ_22.1 46 6)] hX hg hR (hself _ _ _ _ _ _ _ hc_26) lk_X1_52_X1_tryWay md_X1_tryWay (xc_54 hw) cls_X1 ⟨by omega, by omega⟩ rfl rfl (Nat.le_of_ble_eq_true rfl) dX1_tryWay_209 ?_
      refine J_sub [0, 1, 2, 3, 4, 5, 6, 7, 8, 9] rfl ?_
      exact tX_tryWayB_212 hX hw hg hR hr hself hk53 v1 v2 v3 v4 v5 v6 v7 v8 v9 σ_25 h
    · refine J_aload_n (q := 0) hX dX1_tryWay_162 rfl rfl ?_
      refine J_iload (q := 6) hX dX1_tryWay_163 rfl ?_
      obtain ⟨σ_28, hc_29, h⟩ := bnd1_some h
      refine K_callV [.int v6] hX hg hR (ctX_keepBetter hw hc_29) lk_X1_92_X1_keepBetter md_X1_keepBetter (xc_54 hw) cls_X1 ⟨by omega, by omega⟩ rfl rfl (Nat.le_of_ble_eq_true rfl) dX1_tryWay_165 ?_
      refine J_goto (tgt := 212) hX dX1_tryWay_168 rfl ?_
      refine J_sub [0, 1, 2, 3, 4, 5, 6, 7, 8, 9] rfl ?_
      exact tX_tryWayB_212 hX hw hg hR hr hself hk53 v1 v2 v3 v4 v5 v6 v7 v8 v9 σ_28 h
  · refine J_goto (tgt := 212) hX dX1_tryWay_143 rfl ?_
    refine J_sub [0, 1, 2, 3, 4, 5, 6, 7, 8, 9] rfl ?_
    exact tX_tryWayB_212 hX hw hg hR hr hself hk53 v1 v2 v3 v4 v5 v6 v7 v8 v9 σ_19 h

def rX_tryWayB_53 (self : Int32 → Int32 → Int32 → Int32 → Int32 → St → Option (St)) (k53 : Int32 → Int32 → Int32 → Int32 → Int32 → Int32 → Int32 → Int32 → Int32 → St → Option (St)) (v1 : Int32) (v2 : Int32) (v3 : Int32) (v4 : Int32) (v5 : Int32) (v6 : Int32) (v7 : Int32) (v8 : Int32) (v9 : Int32) (σ : St) : Option (St) :=
  brc ((σ.1 23 2) ≤ v9) (some σ) (brc (v9 = v2) (rX_tryWayB_83 self k53 v1 v2 v3 v4 v5 v6 v7 v8 v9 σ) (brc (((v3 >>> (v9 &&& 31)) &&& (1 : Int32)) = 0) (rX_tryWayB_83 self k53 v1 v2 v3 v4 v5 v6 v7 v8 v9 σ) (rX_tryWayB_212 self k53 v1 v2 v3 v4 v5 v6 v7 v8 v9 σ)))
set_option maxRecDepth 100000 in
theorem tX_tryWayB_53b {f lo : Nat} {X : CX} (hX : gd X cX1_tryWay 10 RX1 none) (hw : isX (xw X)) (hg : nA X) (hR : xR X = rmOf (f + 3) (lo + 74) 0 0) {τ : St} (hr : xr X = (none, τ)) {self : Int32 → Int32 → Int32 → Int32 → Int32 → St → Option (St)} (hself : ∀ (v1 : Int32) (v2 : Int32) (v3 : Int32) (v4 : Int32) (v5 : Int32) (σ τ : St), self v1 v2 v3 v4 v5 σ = some τ → Ct yX1_tryWay cX1_tryWay 10 none f lo (xw X) [.ref (wad (xw X) 54), .int v1, .int v2, .int v3, .int v4, .int v5] σ none τ 0 0) {k53 : Int32 → Int32 → Int32 → Int32 → Int32 → Int32 → Int32 → Int32 → Int32 → St → Option (St)} (hk53 : (∀ (v1 : Int32) (v2 : Int32) (v3 : Int32) (v4 : Int32) (v5 : Int32) (v6 : Int32) (v7 : Int32) (v8 : Int32) (v9 : Int32) (σ : St), k53 v1 v2 v3 v4 v5 v6 v7 v8 v9 σ = some τ → Jd X 10 53 [(0, .ref (wad (xw X) 54)), (1, .int v1), (2, .int v2), (3, .int v3), (4, .int v4), (5, .int v5), (6, .int v6), (7, .int v7), (8, .int v8), (9, .int v9)] [] σ)) (v1 : Int32) (v2 : Int32) (v3 : Int32) (v4 : Int32) (v5 : Int32) (v6 : Int32) (v7 : Int32) (v8 : Int32) (v9 : Int32) (σ : St) (h : rX_tryWayB_53 self k53 v1 v2 v3 v4 v5 v6 v7 v8 v9 σ = some τ) : Jd X 10 53 [(0, .ref (wad (xw X) 54)), (1, .int v1), (2, .int v2), (3, .int v3), (4, .int v4), (5, .int v5), (6, .int v6), (7, .int v7), (8, .int v8), (9, .int v9)] [] σ := by
  unfold rX_tryWayB_53 at h
  refine J_iload (q := 9) hX dX1_tryWay_53 rfl ?_
  refine J_aload_n (q := 0) hX dX1_tryWay_55 rfl rfl ?_
  refine K_getc 23 hX (xc_54 hw) cls_X1 (k := 0) (by decide) uw_2_183 rfl dX1_tryWay_56 ?_
  refine K_geti hX (xc_23 hw) cls_X3 (k := 2) (by decide) uw_1_98 rfl dX1_tryWay_59 ?_
  refine K_icmp_ge (tgt := 218) hX dX1_tryWay_62 rfl h (fun h => ?_) (fun h => ?_)
  · exact K_vret hX hr dX1_tryWay_218 h
  · refine J_iload (q := 9) hX dX1_tryWay_65 rfl ?_
    refine J_iload_n (q := 2) hX dX1_tryWay_67 rfl rfl ?_
    refine K_icmp_eq (tgt := 83) hX dX1_tryWay_68 rfl h (fun h => ?_) (fun h => ?_)
    · refine J_sub [0, 1, 2, 3, 4, 5, 6, 7, 8, 9] rfl ?_
      exact tX_tryWayB_83 hX hw hg hR hr hself hk53 v1 v2 v3 v4 v5 v6 v7 v8 v9 σ h
    · refine J_iload_n (q := 3) hX dX1_tryWay_71 rfl rfl ?_
      refine J_iload (q := 9) hX dX1_tryWay_72 rfl ?_
      refine J_ishr hX dX1_tryWay_74 ?_
      refine J_iconst (v := (1 : Int32)) hX dX1_tryWay_75 (by decide) ?_
      refine J_iand hX dX1_tryWay_76 ?_
      refine K_if_eq (tgt := 83) hX dX1_tryWay_77 rfl h (fun h => ?_) (fun h => ?_)
      · refine J_sub [0, 1, 2, 3, 4, 5, 6, 7, 8, 9] rfl ?_
        exact tX_tryWayB_83 hX hw hg hR hr hself hk53 v1 v2 v3 v4 v5 v6 v7 v8 v9 σ h
      · refine J_goto (tgt := 212) hX dX1_tryWay_80 rfl ?_
        refine J_sub [0, 1, 2, 3, 4, 5, 6, 7, 8, 9] rfl ?_
        exact tX_tryWayB_212 hX hw hg hR hr hself hk53 v1 v2 v3 v4 v5 v6 v7 v8 v9 σ h
def rX_tryWayB_53L (self : Int32 → Int32 → Int32 → Int32 → Int32 → St → Option (St)) : ((Int32 × Int32 × Int32 × Int32 × Int32 × Int32 × Int32 × Int32 × Int32 × St) → Option (St)) → (Int32 × Int32 × Int32 × Int32 × Int32 × Int32 × Int32 × Int32 × Int32 × St) → Option (St) := fun k a => rX_tryWayB_53 self (fun v1 v2 v3 v4 v5 v6 v7 v8 v9 σ => k (v1, v2, v3, v4, v5, v6, v7, v8, v9, σ)) a.1 a.2.1 a.2.2.1 a.2.2.2.1 a.2.2.2.2.1 a.2.2.2.2.2.1 a.2.2.2.2.2.2.1 a.2.2.2.2.2.2.2.1 a.2.2.2.2.2.2.2.2.1 a.2.2.2.2.2.2.2.2.2
theorem tX_tryWayB_53 {f lo : Nat} {X : CX} (hX : gd X cX1_tryWay 10 RX1 none) (hw : isX (xw X)) (hg : nA X) (hR : xR X = rmOf (f + 3) (lo + 74) 0 0) {τ : St} (hr : xr X = (none, τ)) {self : Int32 → Int32 → Int32 → Int32 → Int32 → St → Option (St)} (hself : ∀ (v1 : Int32) (v2 : Int32) (v3 : Int32) (v4 : Int32) (v5 : Int32) (σ τ : St), self v1 v2 v3 v4 v5 σ = some τ → Ct yX1_tryWay cX1_tryWay 10 none f lo (xw X) [.ref (wad (xw X) 54), .int v1, .int v2, .int v3, .int v4, .int v5] σ none τ 0 0) (n : Nat) (v1 : Int32) (v2 : Int32) (v3 : Int32) (v4 : Int32) (v5 : Int32) (v6 : Int32) (v7 : Int32) (v8 : Int32) (v9 : Int32) (σ : St) (h : lp (rX_tryWayB_53L self) n (v1, v2, v3, v4, v5, v6, v7, v8, v9, σ) = some τ) : Jd X 10 53 [(0, .ref (wad (xw X) 54)), (1, .int v1), (2, .int v2), (3, .int v3), (4, .int v4), (5, .int v5), (6, .int v6), (7, .int v7), (8, .int v8), (9, .int v9)] [] σ :=
  lp_ind (F := rX_tryWayB_53L self) (P := fun a => Jd X 10 53 [(0, .ref (wad (xw X) 54)), (1, .int a.1), (2, .int a.2.1), (3, .int a.2.2.1), (4, .int a.2.2.2.1), (5, .int a.2.2.2.2.1), (6, .int a.2.2.2.2.2.1), (7, .int a.2.2.2.2.2.2.1), (8, .int a.2.2.2.2.2.2.2.1), (9, .int a.2.2.2.2.2.2.2.2.1)] [] a.2.2.2.2.2.2.2.2.2) (fun k a hk h => tX_tryWayB_53b hX hw hg hR hr hself (fun v1 v2 v3 v4 v5 v6 v7 v8 v9 σ h => hk (v1, v2, v3, v4, v5, v6, v7, v8, v9, σ) h) a.1 a.2.1 a.2.2.1 a.2.2.2.1 a.2.2.2.2.1 a.2.2.2.2.2.1 a.2.2.2.2.2.2.1 a.2.2.2.2.2.2.2.1 a.2.2.2.2.2.2.2.2.1 a.2.2.2.2.2.2.2.2.2 h) n (v1, v2, v3, v4, v5, v6, v7, v8, v9, σ) h

def rX_tryWayB (self : Int32 → Int32 → Int32 → Int32 → Int32 → St → Option (St)) (v1 : Int32) (v2 : Int32) (v3 : Int32) (v4 : Int32) (v5 : Int32) (σ : St) : Option (St) :=
  bnd2 (rX_rlastOf (σ.1 54 6) σ) fun r_3 σ_1 => nm r_3 fun v6_4 => brc (v1 < v6_4) (bnd2 (rX_rstationAt (σ_1.1 54 6) v1 σ_1) fun r_7 σ_5 => nm r_7 fun v7_8 => bnd2 (rX_rstationAt (σ_5.1 54 6) (v1 + (1 : Int32)) σ_5) fun r_11 σ_9 => nm r_11 fun v8_12 => nm (0 : Int32) fun v9_13 => lp (rX_tryWayB_53L self) fu (v1, v2, v3, v4, v5, v6_4, v7_8, v8_12, v9_13, σ_9)) (some σ_1)
set_option maxRecDepth 100000 in
theorem tX_tryWayB {f lo : Nat} {X : CX} (hX : gd X cX1_tryWay 10 RX1 none) (hw : isX (xw X)) (hg : nA X) (hR : xR X = rmOf (f + 3) (lo + 74) 0 0) {τ : St} (hr : xr X = (none, τ)) {self : Int32 → Int32 → Int32 → Int32 → Int32 → St → Option (St)} (hself : ∀ (v1 : Int32) (v2 : Int32) (v3 : Int32) (v4 : Int32) (v5 : Int32) (σ τ : St), self v1 v2 v3 v4 v5 σ = some τ → Ct yX1_tryWay cX1_tryWay 10 none f lo (xw X) [.ref (wad (xw X) 54), .int v1, .int v2, .int v3, .int v4, .int v5] σ none τ 0 0) (v1 : Int32) (v2 : Int32) (v3 : Int32) (v4 : Int32) (v5 : Int32) (σ : St) (h : rX_tryWayB self v1 v2 v3 v4 v5 σ = some τ) : Jd X 10 0 [(0, .ref (wad (xw X) 54)), (1, .int v1), (2, .int v2), (3, .int v3), (4, .int v4), (5, .int v5)] [] σ := by
  unfold rX_tryWayB at h
  refine J_aload_n (q := 0) hX dX1_tryWay_0 rfl rfl ?_
  refine K_getc 42 hX (xc_54 hw) cls_X1 (k := 1) (by decide) uw_2_184 rfl dX1_tryWay_1 ?_
  refine J_aload_n (q := 0) hX dX1_tryWay_4 rfl rfl ?_
  refine K_geti hX (xc_54 hw) cls_X1 (k := 6) (by decide) uw_2_189 rfl dX1_tryWay_5 ?_
  obtain ⟨r_3, σ_1, hc_2, h⟩ := bnd2_some h
  refine K_callV [.int (σ.1 54 6)] hX hg hR (ctX_rlastOf hw hc_2) lk_X1_56_X6_lastOf md_X6_lastOf (xc_42 hw) cls_X6 ⟨by omega, by omega⟩ rfl rfl (Nat.le_of_ble_eq_true rfl) dX1_tryWay_8 ?_
  refine K_istore (fun v6_4 => [(6, .int v6_4), (0, .ref (wad (xw X) 54)), (1, .int v1), (2, .int v2), (3, .int v3), (4, .int v4), (5, .int v5)]) hX dX1_tryWay_11 (by decide) (fun _ => rfl) h (fun v6_4 h => ?_)
  refine J_iload_n (q := 2) hX dX1_tryWay_13 rfl rfl ?_
  refine J_iload (q := 0) hX dX1_tryWay_14 rfl ?_
  refine K_icmp_lt (tgt := 20) hX dX1_tryWay_16 rfl h (fun h => ?_) (fun h => ?_)
  · refine J_aload_n (q := 1) hX dX1_tryWay_20 rfl rfl ?_
    refine K_getc 42 hX (xc_54 hw) cls_X1 (k := 1) (by decide) uw_2_184 rfl dX1_tryWay_21 ?_
    refine J_aload_n (q := 1) hX dX1_tryWay_24 rfl rfl ?_
    refine K_geti hX (xc_54 hw) cls_X1 (k := 6) (by decide) uw_2_189 rfl dX1_tryWay_25 ?_
    refine J_iload_n (q := 2) hX dX1_tryWay_28 rfl rfl ?_
    obtain ⟨r_7, σ_5, hc_6, h⟩ := bnd2_some h
    refine K_callV [.int (σ_1.1 54 6), .int v1] hX hg hR (ctX_rstationAt hw hc_6) lk_X1_60_X6_stationAt md_X6_stationAt (xc_42 hw) cls_X6 ⟨by omega, by omega⟩ rfl rfl (Nat.le_of_ble_eq_true rfl) dX1_tryWay_29 ?_
    refine K_istore (fun v7_8 => [(7, .int v7_8), (6, .int v6_4), (0, .ref (wad (xw X) 54)), (1, .int v1), (2, .int v2), (3, .int v3), (4, .int v4), (5, .int v5)]) hX dX1_tryWay_32 (by decide) (fun _ => rfl) h (fun v7_8 h => ?_)
    refine J_aload_n (q := 2) hX dX1_tryWay_34 rfl rfl ?_
    refine K_getc 42 hX (xc_54 hw) cls_X1 (k := 1) (by decide) uw_2_184 rfl dX1_tryWay_35 ?_
    refine J_aload_n (q := 2) hX dX1_tryWay_38 rfl rfl ?_
    refine K_geti hX (xc_54 hw) cls_X1 (k := 6) (by decide) uw_2_189 rfl dX1_tryWay_39 ?_
    refine J_iload_n (q := 3) hX dX1_tryWay_42 rfl rfl ?_
    refine J_iconst (v := (1 : Int32)) hX dX1_tryWay_43 (by decide) ?_
    refine J_iadd hX dX1_tryWay_44 ?_
    obtain ⟨r_11, σ_9, hc_10, h⟩ := bnd2_some h
    refine K_callV [.int (σ_5.1 54 6), .int (v1 + (1 : Int32))] hX hg hR (ctX_rstationAt hw hc_10) lk_X1_60_X6_stationAt md_X6_stationAt (xc_42 hw) cls_X6 ⟨by omega, by omega⟩ rfl rfl (Nat.le_of_ble_eq_true rfl) dX1_tryWay_45 ?_
    refine K_istore (fun v8_12 => [(8, .int v8_12), (7, .int v7_8), (6, .int v6_4), (0, .ref (wad (xw X) 54)), (1, .int v1), (2, .int v2), (3, .int v3), (4, .int v4), (5, .int v5)]) hX dX1_tryWay_48 (by decide) (fun _ => rfl) h (fun v8_12 h => ?_)
    refine J_iconst (v := (0 : Int32)) hX dX1_tryWay_50 (by decide) ?_
    refine K_istore (fun v9_13 => [(9, .int v9_13), (8, .int v8_12), (7, .int v7_8), (6, .int v6_4), (0, .ref (wad (xw X) 54)), (1, .int v1), (2, .int v2), (3, .int v3), (4, .int v4), (5, .int v5)]) hX dX1_tryWay_51 (by decide) (fun _ => rfl) h (fun v9_13 h => ?_)
    refine J_sub [4, 5, 6, 7, 8, 9, 3, 2, 1, 0] rfl ?_
    exact tX_tryWayB_53 hX hw hg hR hr hself fu v1 v2 v3 v4 v5 v6_4 v7_8 v8_12 v9_13 σ_9 h
  · exact K_vret hX hr dX1_tryWay_19 h
theorem ctX_tryWayB {f lo : Nat} {w : WT} (hw : isX w) {v1 : Int32} {v2 : Int32} {v3 : Int32} {v4 : Int32} {v5 : Int32} {σ : St} {self : Int32 → Int32 → Int32 → Int32 → Int32 → St → Option (St)} (hself : ∀ (v1 : Int32) (v2 : Int32) (v3 : Int32) (v4 : Int32) (v5 : Int32) (σ τ : St), self v1 v2 v3 v4 v5 σ = some τ → Ct yX1_tryWay cX1_tryWay 10 none f lo w [.ref (wad w 54), .int v1, .int v2, .int v3, .int v4, .int v5] σ none τ 0 0) {τ : St} (h : rX_tryWayB self v1 v2 v3 v4 v5 σ = some τ) : Ct yX1_tryWay cX1_tryWay 10 none (f + 3) (lo + 74) w [.ref (wad w 54), .int v1, .int v2, .int v3, .int v4, .int v5] σ none τ 0 0 :=
  Ct_intro (fun _ => (0, 0)) (by decide) rfl ⟨rfl, Nat.le_refl _⟩ (Nat.le_of_ble_eq_true rfl) (fun X hX hR hwX hg hr => by subst hwX; exact tX_tryWayB hX hw hg hR hr hself v1 v2 v3 v4 v5 σ h)

def rX_tryWay_F : ((Int32 × Int32 × Int32 × Int32 × Int32 × St) → Option St) → (Int32 × Int32 × Int32 × Int32 × Int32 × St) → Option St := fun self a => rX_tryWayB (fun v1 v2 v3 v4 v5 σ => self (v1, v2, v3, v4, v5, σ)) a.1 a.2.1 a.2.2.1 a.2.2.2.1 a.2.2.2.2.1 a.2.2.2.2.2
def rX_tryWay (d : Nat) (v1 : Int32) (v2 : Int32) (v3 : Int32) (v4 : Int32) (v5 : Int32) (σ : St) : Option St := lp rX_tryWay_F d (v1, v2, v3, v4, v5, σ)
theorem ctX_tryWay {w : WT} (hw : isX w) (d : Nat) (v1 : Int32) (v2 : Int32) (v3 : Int32) (v4 : Int32) (v5 : Int32) (σ τ : St) (h : rX_tryWay d v1 v2 v3 v4 v5 σ = some τ) : Ct yX1_tryWay cX1_tryWay 10 none (3 * d) (74 * d) w [.ref (wad w 54), .int v1, .int v2, .int v3, .int v4, .int v5] σ none τ 0 0 :=
  lp_ind2 (F := rX_tryWay_F) (P := fun d a τ => Ct yX1_tryWay cX1_tryWay 10 none (3 * d) (74 * d) w [.ref (wad w 54), .int a.1, .int a.2.1, .int a.2.2.1, .int a.2.2.2.1, .int a.2.2.2.2.1] a.2.2.2.2.2 none τ 0 0) (fun n a r ih h => by rw [Nat.mul_succ, Nat.mul_succ]; exact ctX_tryWayB (f := 3 * n) (lo := 74 * n) hw (self := fun v1 v2 v3 v4 v5 σ => lp rX_tryWay_F n (v1, v2, v3, v4, v5, σ)) (fun v1 v2 v3 v4 v5 σ τ h => ih (v1, v2, v3, v4, v5, σ) τ h) h) d (v1, v2, v3, v4, v5, σ) τ h

def rX_hmakeSure_33 (k33 : Int32 → St → Option (St)) (v2 : Int32) (σ : St) : Option (St) :=
  brc ((σ.1 42 3) ≤ v2) (chk (decide ((1 : Int32) = 0 ∨ (1 : Int32) = 1)) (nm (setI σ 54 9 (1 : Int32)) fun σ_5 => some σ_5)) (nm (setI σ 54 6 v2) fun σ_6 => bnd1 (rX_tryWay 9 (0 : Int32) (-1 : Int32) (0 : Int32) (σ_6.1 54 5) (0 : Int32) σ_6) fun σ_7 => nm (v2 + Int32.ofInt 1) fun v2_9 => k33 v2_9 σ_7)
set_option maxRecDepth 100000 in
theorem tX_hmakeSure_33b {X : CX} (hX : gd X cX1_makeSure 3 RX1 none) (hw : isX (xw X)) (hg : nA X) (hR : xR X = rmOf 28 695 0 0) {τ : St} (hr : xr X = (none, τ)) {k33 : Int32 → St → Option (St)} (hk33 : (∀ (v2 : Int32) (σ : St), k33 v2 σ = some τ → Jd X 3 33 [(0, .ref (wad (xw X) 54)), (2, .int v2)] [] σ)) (v2 : Int32) (σ : St) (h : rX_hmakeSure_33 k33 v2 σ = some τ) : Jd X 3 33 [(0, .ref (wad (xw X) 54)), (2, .int v2)] [] σ := by
  unfold rX_hmakeSure_33 at h
  refine J_iload_n (q := 1) hX dX1_makeSure_33 rfl rfl ?_
  refine J_aload_n (q := 0) hX dX1_makeSure_34 rfl rfl ?_
  refine K_getc 42 hX (xc_54 hw) cls_X1 (k := 1) (by decide) uw_2_184 rfl dX1_makeSure_35 ?_
  refine K_geti hX (xc_42 hw) cls_X6 (k := 3) (by decide) uw_2_78 rfl dX1_makeSure_38 ?_
  refine K_icmp_ge (tgt := 67) hX dX1_makeSure_41 rfl h (fun h => ?_) (fun h => ?_)
  · refine J_aload_n (q := 0) hX dX1_makeSure_67 rfl rfl ?_
    refine J_iconst (v := (1 : Int32)) hX dX1_makeSure_68 (by decide) ?_
    refine K_putz hX (xc_54 hw) cls_X1 (k := 9) (by decide) uw_2_194 rfl rfl rfl dX1_makeSure_69 h (fun σ_5 h => ?_)
    exact K_vret hX hr dX1_makeSure_72 h
  · refine J_aload_n (q := 0) hX dX1_makeSure_44 rfl rfl ?_
    refine J_iload_n (q := 1) hX dX1_makeSure_45 rfl rfl ?_
    refine K_puti hX (xc_54 hw) cls_X1 (k := 6) (by decide) uw_2_189 rfl rfl rfl dX1_makeSure_46 h (fun σ_6 h => ?_)
    refine J_aload_n (q := 0) hX dX1_makeSure_49 rfl rfl ?_
    refine J_iconst (v := (0 : Int32)) hX dX1_makeSure_50 (by decide) ?_
    refine J_iconst (v := (-1 : Int32)) hX dX1_makeSure_51 (by decide) ?_
    refine J_iconst (v := (0 : Int32)) hX dX1_makeSure_52 (by decide) ?_
    refine J_aload_n (q := 0) hX dX1_makeSure_53 rfl rfl ?_
    refine K_geti hX (xc_54 hw) cls_X1 (k := 5) (by decide) uw_2_188 rfl dX1_makeSure_54 ?_
    refine J_iconst (v := (0 : Int32)) hX dX1_makeSure_57 (by decide) ?_
    obtain ⟨σ_7, hc_8, h⟩ := bnd1_some h
    refine K_callV [.int (0 : Int32), .int (-1 : Int32), .int (0 : Int32), .int (σ_6.1 54 5), .int (0 : Int32)] hX hg hR (ctX_tryWay hw 9 _ _ _ _ _ _ _ hc_8) lk_X1_52_X1_tryWay md_X1_tryWay (xc_54 hw) cls_X1 ⟨by decide, by decide⟩ rfl rfl (Nat.le_of_ble_eq_true rfl) dX1_makeSure_58 ?_
    refine K_iinc (q := 1) (fun v2_9 => [(2, .int v2_9), (0, .ref (wad (xw X) 54))]) hX dX1_makeSure_61 rfl (by decide) (fun _ => rfl) h (fun v2_9 h => ?_)
    refine J_goto (tgt := 33) hX dX1_makeSure_64 rfl ?_
    refine J_sub [1, 0] rfl ?_
    exact hk33 v2_9 σ_7 h
def rX_hmakeSure_33L : ((Int32 × St) → Option (St)) → (Int32 × St) → Option (St) := fun k a => rX_hmakeSure_33 (fun v2 σ => k (v2, σ)) a.1 a.2
theorem tX_hmakeSure_33 {X : CX} (hX : gd X cX1_makeSure 3 RX1 none) (hw : isX (xw X)) (hg : nA X) (hR : xR X = rmOf 28 695 0 0) {τ : St} (hr : xr X = (none, τ)) (n : Nat) (v2 : Int32) (σ : St) (h : lp (rX_hmakeSure_33L) n (v2, σ) = some τ) : Jd X 3 33 [(0, .ref (wad (xw X) 54)), (2, .int v2)] [] σ :=
  lp_ind (F := rX_hmakeSure_33L) (P := fun a => Jd X 3 33 [(0, .ref (wad (xw X) 54)), (2, .int a.1)] [] a.2) (fun k a hk h => tX_hmakeSure_33b hX hw hg hR hr (fun v2 σ h => hk (v2, σ) h) a.1 a.2 h) n (v2, σ) h

def rX_hmakeSure_16 (v1 : Int32) (σ : St) : Option (St) :=
  nm (setI σ 54 5 v1) fun σ_1 => nm (setI σ_1 54 7 (-1 : Int32)) fun σ_2 => nm (setI σ_2 54 8 (-1 : Int32)) fun σ_3 => nm (0 : Int32) fun v2_4 => lp (rX_hmakeSure_33L) fu (v2_4, σ_3)
set_option maxRecDepth 100000 in
theorem tX_hmakeSure_16 {X : CX} (hX : gd X cX1_makeSure 3 RX1 none) (hw : isX (xw X)) (hg : nA X) (hR : xR X = rmOf 28 695 0 0) {τ : St} (hr : xr X = (none, τ)) (v1 : Int32) (σ : St) (h : rX_hmakeSure_16 v1 σ = some τ) : Jd X 3 16 [(0, .ref (wad (xw X) 54)), (1, .int v1)] [] σ := by
  unfold rX_hmakeSure_16 at h
  refine J_aload_n (q := 0) hX dX1_makeSure_16 rfl rfl ?_
  refine J_iload_n (q := 1) hX dX1_makeSure_17 rfl rfl ?_
  refine K_puti hX (xc_54 hw) cls_X1 (k := 5) (by decide) uw_2_188 rfl rfl rfl dX1_makeSure_18 h (fun σ_1 h => ?_)
  refine J_aload_n (q := 0) hX dX1_makeSure_21 rfl rfl ?_
  refine J_iconst (v := (-1 : Int32)) hX dX1_makeSure_22 (by decide) ?_
  refine K_puti hX (xc_54 hw) cls_X1 (k := 7) (by decide) uw_2_190 rfl rfl rfl dX1_makeSure_23 h (fun σ_2 h => ?_)
  refine J_aload_n (q := 0) hX dX1_makeSure_26 rfl rfl ?_
  refine J_iconst (v := (-1 : Int32)) hX dX1_makeSure_27 (by decide) ?_
  refine K_puti hX (xc_54 hw) cls_X1 (k := 8) (by decide) uw_2_192 rfl rfl rfl dX1_makeSure_28 h (fun σ_3 h => ?_)
  refine J_iconst (v := (0 : Int32)) hX dX1_makeSure_31 (by decide) ?_
  refine K_istore_n (fun v2_4 => [(2, .int v2_4), (0, .ref (wad (xw X) 54)), (1, .int v1)]) hX dX1_makeSure_32 rfl (by decide) (fun _ => rfl) h (fun v2_4 h => ?_)
  refine J_sub [1, 0] rfl ?_
  exact tX_hmakeSure_33 hX hw hg hR hr fu v2_4 σ_3 h

def rX_hmakeSure (v1 : Int32) (σ : St) : Option (St) :=
  brc ((σ.1 54 9) = 0) (rX_hmakeSure_16 v1 σ) (brc (¬ (σ.1 54 5) = v1) (rX_hmakeSure_16 v1 σ) (some σ))
set_option maxRecDepth 100000 in
theorem tX_hmakeSure {X : CX} (hX : gd X cX1_makeSure 3 RX1 none) (hw : isX (xw X)) (hg : nA X) (hR : xR X = rmOf 28 695 0 0) {τ : St} (hr : xr X = (none, τ)) (v1 : Int32) (σ : St) (h : rX_hmakeSure v1 σ = some τ) : Jd X 3 0 [(0, .ref (wad (xw X) 54)), (1, .int v1)] [] σ := by
  unfold rX_hmakeSure at h
  refine J_aload_n (q := 0) hX dX1_makeSure_0 rfl rfl ?_
  refine K_geti hX (xc_54 hw) cls_X1 (k := 9) (by decide) uw_2_194 rfl dX1_makeSure_1 ?_
  refine K_if_eq (tgt := 16) hX dX1_makeSure_4 rfl h (fun h => ?_) (fun h => ?_)
  · refine J_sub [0, 1] rfl ?_
    exact tX_hmakeSure_16 hX hw hg hR hr v1 σ h
  · refine J_aload_n (q := 0) hX dX1_makeSure_7 rfl rfl ?_
    refine K_geti hX (xc_54 hw) cls_X1 (k := 5) (by decide) uw_2_188 rfl dX1_makeSure_8 ?_
    refine J_iload_n (q := 1) hX dX1_makeSure_11 rfl rfl ?_
    refine K_icmp_ne (tgt := 16) hX dX1_makeSure_12 rfl h (fun h => ?_) (fun h => ?_)
    · refine J_sub [0, 1] rfl ?_
      exact tX_hmakeSure_16 hX hw hg hR hr v1 σ h
    · exact K_vret hX hr dX1_makeSure_15 h
theorem ctX_hmakeSure {w : WT} (hw : isX w) {v1 : Int32} {σ : St} {τ : St} (h : rX_hmakeSure v1 σ = some τ) : Ct yX1_makeSure cX1_makeSure 3 none 28 695 w [.ref (wad w 54), .int v1] σ none τ 0 0 :=
  Ct_intro (fun _ => (0, 0)) (by decide) rfl ⟨rfl, Nat.le_refl _⟩ (Nat.le_of_ble_eq_true rfl) (fun X hX hR hwX hg hr => by subst hwX; exact tX_hmakeSure hX hw hg hR hr v1 σ h)

def rX_holderOn_27 (σ : St) : Option (Int32 × St) :=
  some ((-1 : Int32), σ)
set_option maxRecDepth 100000 in
theorem tX_holderOn_27 {X : CX} (hX : gd X cX1_holderOn 2 RX1 (some .int)) (hw : isX (xw X)) (hg : nA X) (hR : xR X = rmOf 1 21 0 0) {r : Int32} {τ : St} (hr : xr X = (some (.int r), τ)) (σ : St) (h : rX_holderOn_27 σ = some (r, τ)) : Jd X 2 27 [] [] σ := by
  unfold rX_holderOn_27 at h
  refine J_iconst (v := (-1 : Int32)) hX dX1_holderOn_27 (by decide) ?_
  exact K_iret hX hr dX1_holderOn_28 h

def rX_holderOn (v1 : Int32) (σ : St) : Option (Int32 × St) :=
  brc ((σ.1 54 7) = (-1 : Int32)) (rX_holderOn_27 σ) (brc (v1 < 0) (rX_holderOn_27 σ) (bnd2 (rX_rlastOf (σ.1 54 7) σ) fun r_3 σ_1 => brc (v1 < r_3) (chk (ib v1 7) (some (σ_1.1 56 v1.toNatClampNeg, σ_1))) (rX_holderOn_27 σ_1)))
set_option maxRecDepth 100000 in
theorem tX_holderOn {X : CX} (hX : gd X cX1_holderOn 2 RX1 (some .int)) (hw : isX (xw X)) (hg : nA X) (hR : xR X = rmOf 1 21 0 0) {r : Int32} {τ : St} (hr : xr X = (some (.int r), τ)) (v1 : Int32) (σ : St) (h : rX_holderOn v1 σ = some (r, τ)) : Jd X 2 0 [(0, .ref (wad (xw X) 54)), (1, .int v1)] [] σ := by
  unfold rX_holderOn at h
  refine J_aload_n (q := 0) hX dX1_holderOn_0 rfl rfl ?_
  refine K_geti hX (xc_54 hw) cls_X1 (k := 7) (by decide) uw_2_190 rfl dX1_holderOn_1 ?_
  refine J_iconst (v := (-1 : Int32)) hX dX1_holderOn_4 (by decide) ?_
  refine K_icmp_eq (tgt := 27) hX dX1_holderOn_5 rfl h (fun h => ?_) (fun h => ?_)
  · refine J_sub [] rfl ?_
    exact tX_holderOn_27 hX hw hg hR hr σ h
  · refine J_iload_n (q := 1) hX dX1_holderOn_8 rfl rfl ?_
    refine K_if_lt (tgt := 27) hX dX1_holderOn_9 rfl h (fun h => ?_) (fun h => ?_)
    · refine J_sub [] rfl ?_
      exact tX_holderOn_27 hX hw hg hR hr σ h
    · refine J_iload_n (q := 1) hX dX1_holderOn_12 rfl rfl ?_
      refine J_aload_n (q := 0) hX dX1_holderOn_13 rfl rfl ?_
      refine K_getc 42 hX (xc_54 hw) cls_X1 (k := 1) (by decide) uw_2_184 rfl dX1_holderOn_14 ?_
      refine J_aload_n (q := 0) hX dX1_holderOn_17 rfl rfl ?_
      refine K_geti hX (xc_54 hw) cls_X1 (k := 7) (by decide) uw_2_190 rfl dX1_holderOn_18 ?_
      obtain ⟨r_3, σ_1, hc_2, h⟩ := bnd2_some h
      refine K_callV [.int (σ.1 54 7)] hX hg hR (ctX_rlastOf hw hc_2) lk_X1_56_X6_lastOf md_X6_lastOf (xc_42 hw) cls_X6 ⟨by decide, by decide⟩ rfl rfl (Nat.le_of_ble_eq_true rfl) dX1_holderOn_21 ?_
      refine K_icmp_lt (tgt := 29) hX dX1_holderOn_24 rfl h (fun h => ?_) (fun h => ?_)
      · refine J_aload_n (q := 0) hX dX1_holderOn_29 rfl rfl ?_
        refine K_getc 56 hX (xc_54 hw) cls_X1 (k := 4) (by decide) uw_2_187 rfl dX1_holderOn_30 ?_
        refine J_iload_n (q := 1) hX dX1_holderOn_33 rfl rfl ?_
        refine K_iald hX (xc_56 hw) dX1_holderOn_34 h (fun h => ?_)
        exact K_iret hX hr dX1_holderOn_35 h
      · refine J_sub [] rfl ?_
        exact tX_holderOn_27 hX hw hg hR hr σ_1 h
theorem ctX_holderOn {w : WT} (hw : isX w) {v1 : Int32} {σ : St} {r : Int32} {τ : St} (h : rX_holderOn v1 σ = some (r, τ)) : Ct yX1_holderOn cX1_holderOn 2 (some .int) 1 21 w [.ref (wad w 54), .int v1] σ (some (.int r)) τ 0 0 :=
  Ct_intro (fun _ => (0, 0)) (by decide) rfl ⟨rfl, Nat.le_refl _⟩ (Nat.le_of_ble_eq_true rfl) (fun X hX hR hwX hg hr => by subst hwX; exact tX_holderOn hX hw hg hR hr v1 σ h)
