def rX_canCarry_32 (s0 : Int32) (σ : St) : Option (Int32 × St) :=
  chk (decide (s0 = 0 ∨ s0 = 1)) (some (s0, σ))
set_option maxRecDepth 100000 in
theorem tX_canCarry_32 {X : CX} (hX : gd X cX11_canCarry 3 RX11 (some .boolean)) (hw : isX (xw X)) (hg : nA X) (hR : xR X = rmOf 1 21 0 0) {r : Int32} {τ : St} (hr : xr X = (some (.int r), τ)) (s0 : Int32) (σ : St) (h : rX_canCarry_32 s0 σ = some (r, τ)) : Jd X 3 32 [] [.int s0] σ := by
  unfold rX_canCarry_32 at h
  exact K_zret hX hr dX11_canCarry_32 h

def rX_canCarry_31 (σ : St) : Option (Int32 × St) :=
  rX_canCarry_32 (0 : Int32) σ
set_option maxRecDepth 100000 in
theorem tX_canCarry_31 {X : CX} (hX : gd X cX11_canCarry 3 RX11 (some .boolean)) (hw : isX (xw X)) (hg : nA X) (hR : xR X = rmOf 1 21 0 0) {r : Int32} {τ : St} (hr : xr X = (some (.int r), τ)) (σ : St) (h : rX_canCarry_31 σ = some (r, τ)) : Jd X 3 31 [] [] σ := by
  unfold rX_canCarry_31 at h
  refine J_iconst (v := (0 : Int32)) hX dX11_canCarry_31 (by decide) ?_
  refine J_sub [] rfl ?_
  exact tX_canCarry_32 hX hw hg hR hr (0 : Int32) σ h

def rX_canCarry (v1 : Int32) (v2 : Int32) (σ : St) : Option (Int32 × St) :=
  bnd2 (rX_hasCarrier v1 σ) fun r_3 σ_1 => brc (r_3 = 0) (rX_canCarry_31 σ_1) (brc (v2 < 0) (rX_canCarry_31 σ_1) (bnd2 (rX_holds v1 σ_1) fun r_6 σ_4 => brc (r_6 < v2) (rX_canCarry_31 σ_4) (rX_canCarry_32 (1 : Int32) σ_4)))
set_option maxRecDepth 100000 in
theorem tX_canCarry {X : CX} (hX : gd X cX11_canCarry 3 RX11 (some .boolean)) (hw : isX (xw X)) (hg : nA X) (hR : xR X = rmOf 1 21 0 0) {r : Int32} {τ : St} (hr : xr X = (some (.int r), τ)) (v1 : Int32) (v2 : Int32) (σ : St) (h : rX_canCarry v1 v2 σ = some (r, τ)) : Jd X 3 0 [(0, .ref (wad (xw X) 0)), (1, .int v1), (2, .int v2)] [] σ := by
  unfold rX_canCarry at h
  refine J_aload_n (q := 0) hX dX11_canCarry_0 rfl rfl ?_
  refine K_getc 23 hX (xc_0 hw) cls_X11 (k := 2) (by decide) uw_3_18 rfl dX11_canCarry_1 ?_
  refine J_iload_n (q := 1) hX dX11_canCarry_4 rfl rfl ?_
  obtain ⟨r_3, σ_1, hc_2, h⟩ := bnd2_some h
  refine K_callV [.int v1] hX hg hR (ctX_hasCarrier hw hc_2) lk_X11_147_X3_hasCarrier md_X3_hasCarrier (xc_23 hw) cls_X3 ⟨by decide, by decide⟩ rfl rfl (Nat.le_of_ble_eq_true rfl) dX11_canCarry_5 ?_
  refine K_if_eq (tgt := 31) hX dX11_canCarry_8 rfl h (fun h => ?_) (fun h => ?_)
  · refine J_sub [] rfl ?_
    exact tX_canCarry_31 hX hw hg hR hr σ_1 h
  · refine J_iload_n (q := 2) hX dX11_canCarry_11 rfl rfl ?_
    refine K_if_lt (tgt := 31) hX dX11_canCarry_12 rfl h (fun h => ?_) (fun h => ?_)
    · refine J_sub [] rfl ?_
      exact tX_canCarry_31 hX hw hg hR hr σ_1 h
    · refine J_iload_n (q := 2) hX dX11_canCarry_15 rfl rfl ?_
      refine J_aload_n (q := 0) hX dX11_canCarry_16 rfl rfl ?_
      refine K_getc 23 hX (xc_0 hw) cls_X11 (k := 2) (by decide) uw_3_18 rfl dX11_canCarry_17 ?_
      refine J_iload_n (q := 1) hX dX11_canCarry_20 rfl rfl ?_
      obtain ⟨r_6, σ_4, hc_5, h⟩ := bnd2_some h
      refine K_callV [.int v1] hX hg hR (ctX_holds hw hc_5) lk_X11_160_X3_holds md_X3_holds (xc_23 hw) cls_X3 ⟨by decide, by decide⟩ rfl rfl (Nat.le_of_ble_eq_true rfl) dX11_canCarry_21 ?_
      refine K_icmp_gt (tgt := 31) hX dX11_canCarry_24 rfl h (fun h => ?_) (fun h => ?_)
      · refine J_sub [] rfl ?_
        exact tX_canCarry_31 hX hw hg hR hr σ_4 h
      · refine J_iconst (v := (1 : Int32)) hX dX11_canCarry_27 (by decide) ?_
        refine J_goto (tgt := 32) hX dX11_canCarry_28 rfl ?_
        refine J_sub [] rfl ?_
        exact tX_canCarry_32 hX hw hg hR hr (1 : Int32) σ_4 h
theorem ctX_canCarry {w : WT} (hw : isX w) {v1 : Int32} {v2 : Int32} {σ : St} {r : Int32} {τ : St} (h : rX_canCarry v1 v2 σ = some (r, τ)) : Ct yX11_canCarry cX11_canCarry 3 (some .boolean) 1 21 w [.ref (wad w 0), .int v1, .int v2] σ (some (.int r)) τ 0 0 :=
  Ct_intro (fun _ => (0, 0)) (by decide) rfl ⟨rfl, Nat.le_refl _⟩ (Nat.le_of_ble_eq_true rfl) (fun X hX hR hwX hg hr => by subst hwX; exact tX_canCarry hX hw hg hR hr v1 v2 σ h)

def rX_isPair_32 (s0 : Int32) (σ : St) : Option (Int32 × St) :=
  chk (decide (s0 = 0 ∨ s0 = 1)) (some (s0, σ))
set_option maxRecDepth 100000 in
theorem tX_isPair_32 {X : CX} (hX : gd X cX11_isPair 3 RX11 (some .boolean)) (hw : isX (xw X)) (hg : nA X) (hR : xR X = rmOf 1 21 0 0) {r : Int32} {τ : St} (hr : xr X = (some (.int r), τ)) (s0 : Int32) (σ : St) (h : rX_isPair_32 s0 σ = some (r, τ)) : Jd X 3 32 [] [.int s0] σ := by
  unfold rX_isPair_32 at h
  exact K_zret hX hr dX11_isPair_32 h

def rX_isPair_31 (σ : St) : Option (Int32 × St) :=
  rX_isPair_32 (0 : Int32) σ
set_option maxRecDepth 100000 in
theorem tX_isPair_31 {X : CX} (hX : gd X cX11_isPair 3 RX11 (some .boolean)) (hw : isX (xw X)) (hg : nA X) (hR : xR X = rmOf 1 21 0 0) {r : Int32} {τ : St} (hr : xr X = (some (.int r), τ)) (σ : St) (h : rX_isPair_31 σ = some (r, τ)) : Jd X 3 31 [] [] σ := by
  unfold rX_isPair_31 at h
  refine J_iconst (v := (0 : Int32)) hX dX11_isPair_31 (by decide) ?_
  refine J_sub [] rfl ?_
  exact tX_isPair_32 hX hw hg hR hr (0 : Int32) σ h

def rX_isPair (v1 : Int32) (v2 : Int32) (σ : St) : Option (Int32 × St) :=
  bnd2 (rX_hasCarrier v1 σ) fun r_3 σ_1 => brc (r_3 = 0) (rX_isPair_31 σ_1) (bnd2 (rX_hasCarrier v2 σ_1) fun r_6 σ_4 => brc (r_6 = 0) (rX_isPair_31 σ_4) (brc (v1 = v2) (rX_isPair_31 σ_4) (rX_isPair_32 (1 : Int32) σ_4)))
set_option maxRecDepth 100000 in
theorem tX_isPair {X : CX} (hX : gd X cX11_isPair 3 RX11 (some .boolean)) (hw : isX (xw X)) (hg : nA X) (hR : xR X = rmOf 1 21 0 0) {r : Int32} {τ : St} (hr : xr X = (some (.int r), τ)) (v1 : Int32) (v2 : Int32) (σ : St) (h : rX_isPair v1 v2 σ = some (r, τ)) : Jd X 3 0 [(0, .ref (wad (xw X) 0)), (1, .int v1), (2, .int v2)] [] σ := by
  unfold rX_isPair at h
  refine J_aload_n (q := 0) hX dX11_isPair_0 rfl rfl ?_
  refine K_getc 23 hX (xc_0 hw) cls_X11 (k := 2) (by decide) uw_3_18 rfl dX11_isPair_1 ?_
  refine J_iload_n (q := 1) hX dX11_isPair_4 rfl rfl ?_
  obtain ⟨r_3, σ_1, hc_2, h⟩ := bnd2_some h
  refine K_callV [.int v1] hX hg hR (ctX_hasCarrier hw hc_2) lk_X11_147_X3_hasCarrier md_X3_hasCarrier (xc_23 hw) cls_X3 ⟨by decide, by decide⟩ rfl rfl (Nat.le_of_ble_eq_true rfl) dX11_isPair_5 ?_
  refine K_if_eq (tgt := 31) hX dX11_isPair_8 rfl h (fun h => ?_) (fun h => ?_)
  · refine J_sub [] rfl ?_
    exact tX_isPair_31 hX hw hg hR hr σ_1 h
  · refine J_aload_n (q := 0) hX dX11_isPair_11 rfl rfl ?_
    refine K_getc 23 hX (xc_0 hw) cls_X11 (k := 2) (by decide) uw_3_18 rfl dX11_isPair_12 ?_
    refine J_iload_n (q := 2) hX dX11_isPair_15 rfl rfl ?_
    obtain ⟨r_6, σ_4, hc_5, h⟩ := bnd2_some h
    refine K_callV [.int v2] hX hg hR (ctX_hasCarrier hw hc_5) lk_X11_147_X3_hasCarrier md_X3_hasCarrier (xc_23 hw) cls_X3 ⟨by decide, by decide⟩ rfl rfl (Nat.le_of_ble_eq_true rfl) dX11_isPair_16 ?_
    refine K_if_eq (tgt := 31) hX dX11_isPair_19 rfl h (fun h => ?_) (fun h => ?_)
    · refine J_sub [] rfl ?_
      exact tX_isPair_31 hX hw hg hR hr σ_4 h
    · refine J_iload_n (q := 1) hX dX11_isPair_22 rfl rfl ?_
      refine J_iload_n (q := 2) hX dX11_isPair_23 rfl rfl ?_
      refine K_icmp_eq (tgt := 31) hX dX11_isPair_24 rfl h (fun h => ?_) (fun h => ?_)
      · refine J_sub [] rfl ?_
        exact tX_isPair_31 hX hw hg hR hr σ_4 h
      · refine J_iconst (v := (1 : Int32)) hX dX11_isPair_27 (by decide) ?_
        refine J_goto (tgt := 32) hX dX11_isPair_28 rfl ?_
        refine J_sub [] rfl ?_
        exact tX_isPair_32 hX hw hg hR hr (1 : Int32) σ_4 h
theorem ctX_isPair {w : WT} (hw : isX w) {v1 : Int32} {v2 : Int32} {σ : St} {r : Int32} {τ : St} (h : rX_isPair v1 v2 σ = some (r, τ)) : Ct yX11_isPair cX11_isPair 3 (some .boolean) 1 21 w [.ref (wad w 0), .int v1, .int v2] σ (some (.int r)) τ 0 0 :=
  Ct_intro (fun _ => (0, 0)) (by decide) rfl ⟨rfl, Nat.le_refl _⟩ (Nat.le_of_ble_eq_true rfl) (fun X hX hR hwX hg hr => by subst hwX; exact tX_isPair hX hw hg hR hr v1 v2 σ h)

def rX_keepForUndo_53 (v1 : Int32) (v2 : Int32) (σ : St) : Option (St) :=
  chk (ib (σ.1 0 11) 20) (nm (setI σ 1 (σ.1 0 11).toNatClampNeg v1) fun σ_1 => chk (ib (σ_1.1 0 11) 20) (nm (setI σ_1 2 (σ_1.1 0 11).toNatClampNeg v2) fun σ_2 => nm (setI σ_2 0 11 ((σ_2.1 0 11) + (1 : Int32))) fun σ_3 => some σ_3))
set_option maxRecDepth 100000 in
theorem tX_keepForUndo_53 {X : CX} (hX : gd X cX11_keepForUndo 3 RX11 none) (hw : isX (xw X)) (hg : nA X) (hR : xR X = rmOf 1 26 0 0) {τ : St} (hr : xr X = (none, τ)) (v1 : Int32) (v2 : Int32) (σ : St) (h : rX_keepForUndo_53 v1 v2 σ = some τ) : Jd X 3 53 [(0, .ref (wad (xw X) 0)), (1, .int v1), (2, .int v2)] [] σ := by
  unfold rX_keepForUndo_53 at h
  refine J_aload_n (q := 0) hX dX11_keepForUndo_53 rfl rfl ?_
  refine K_getc 1 hX (xc_0 hw) cls_X11 (k := 9) (by decide) uw_3_25 rfl dX11_keepForUndo_54 ?_
  refine J_aload_n (q := 0) hX dX11_keepForUndo_57 rfl rfl ?_
  refine K_geti hX (xc_0 hw) cls_X11 (k := 11) (by decide) uw_3_27 rfl dX11_keepForUndo_58 ?_
  refine J_iload_n (q := 1) hX dX11_keepForUndo_61 rfl rfl ?_
  refine K_iast hX (xc_1 hw) dX11_keepForUndo_62 h (fun σ_1 h => ?_)
  refine J_aload_n (q := 0) hX dX11_keepForUndo_63 rfl rfl ?_
  refine K_getc 2 hX (xc_0 hw) cls_X11 (k := 10) (by decide) uw_3_26 rfl dX11_keepForUndo_64 ?_
  refine J_aload_n (q := 0) hX dX11_keepForUndo_67 rfl rfl ?_
  refine K_geti hX (xc_0 hw) cls_X11 (k := 11) (by decide) uw_3_27 rfl dX11_keepForUndo_68 ?_
  refine J_iload_n (q := 2) hX dX11_keepForUndo_71 rfl rfl ?_
  refine K_iast hX (xc_2 hw) dX11_keepForUndo_72 h (fun σ_2 h => ?_)
  refine J_aload_n (q := 0) hX dX11_keepForUndo_73 rfl rfl ?_
  refine J_dup hX dX11_keepForUndo_74 rfl ?_
  refine K_geti hX (xc_0 hw) cls_X11 (k := 11) (by decide) uw_3_27 rfl dX11_keepForUndo_75 ?_
  refine J_iconst (v := (1 : Int32)) hX dX11_keepForUndo_78 (by decide) ?_
  refine J_iadd hX dX11_keepForUndo_79 ?_
  refine K_puti hX (xc_0 hw) cls_X11 (k := 11) (by decide) uw_3_27 rfl rfl rfl dX11_keepForUndo_80 h (fun σ_3 h => ?_)
  exact K_vret hX hr dX11_keepForUndo_83 h

def rX_keepForUndo (v1 : Int32) (v2 : Int32) (σ : St) : Option (St) :=
  brc (¬ (σ.1 0 11) = (20 : Int32)) (rX_keepForUndo_53 v1 v2 σ) (nm (setI σ 0 11 ((σ.1 0 11) - (1 : Int32))) fun σ_4 => chk (cpb (1 : Int32) (0 : Int32) (σ_4.1 0 11) 20 20) (nm (setR σ_4 1 (va_cpy (σ_4.1 1) (σ_4.1 1) (1 : Int32).toNatClampNeg (0 : Int32).toNatClampNeg (σ_4.1 0 11).toNatClampNeg)) fun σ_5 => chk (cpb (1 : Int32) (0 : Int32) (σ_5.1 0 11) 20 20) (nm (setR σ_5 2 (va_cpy (σ_5.1 2) (σ_5.1 2) (1 : Int32).toNatClampNeg (0 : Int32).toNatClampNeg (σ_5.1 0 11).toNatClampNeg)) fun σ_6 => rX_keepForUndo_53 v1 v2 σ_6)))
set_option maxRecDepth 100000 in
theorem tX_keepForUndo {X : CX} (hX : gd X cX11_keepForUndo 3 RX11 none) (hw : isX (xw X)) (hg : nA X) (hR : xR X = rmOf 1 26 0 0) {τ : St} (hr : xr X = (none, τ)) (v1 : Int32) (v2 : Int32) (σ : St) (h : rX_keepForUndo v1 v2 σ = some τ) : Jd X 3 0 [(0, .ref (wad (xw X) 0)), (1, .int v1), (2, .int v2)] [] σ := by
  unfold rX_keepForUndo at h
  refine J_aload_n (q := 0) hX dX11_keepForUndo_0 rfl rfl ?_
  refine K_geti hX (xc_0 hw) cls_X11 (k := 11) (by decide) uw_3_27 rfl dX11_keepForUndo_1 ?_
  refine J_bipush (v := (20 : Int32)) hX dX11_keepForUndo_4 (by decide) ?_
  refine K_icmp_ne (tgt := 53) hX dX11_keepForUndo_6 rfl h (fun h => ?_) (fun h => ?_)
  · refine J_sub [0, 1, 2] rfl ?_
    exact tX_keepForUndo_53 hX hw hg hR hr v1 v2 σ h
  · refine J_aload_n (q := 0) hX dX11_keepForUndo_9 rfl rfl ?_
    refine J_dup hX dX11_keepForUndo_10 rfl ?_
    refine K_geti hX (xc_0 hw) cls_X11 (k := 11) (by decide) uw_3_27 rfl dX11_keepForUndo_11 ?_
    refine J_iconst (v := (1 : Int32)) hX dX11_keepForUndo_14 (by decide) ?_
    refine J_isub hX dX11_keepForUndo_15 ?_
    refine K_puti hX (xc_0 hw) cls_X11 (k := 11) (by decide) uw_3_27 rfl rfl rfl dX11_keepForUndo_16 h (fun σ_4 h => ?_)
    refine J_aload_n (q := 0) hX dX11_keepForUndo_19 rfl rfl ?_
    refine K_getc 1 hX (xc_0 hw) cls_X11 (k := 9) (by decide) uw_3_25 rfl dX11_keepForUndo_20 ?_
    refine J_iconst (v := (1 : Int32)) hX dX11_keepForUndo_23 (by decide) ?_
    refine J_aload_n (q := 0) hX dX11_keepForUndo_24 rfl rfl ?_
    refine K_getc 1 hX (xc_0 hw) cls_X11 (k := 9) (by decide) uw_3_25 rfl dX11_keepForUndo_25 ?_
    refine J_iconst (v := (0 : Int32)) hX dX11_keepForUndo_28 (by decide) ?_
    refine J_aload_n (q := 0) hX dX11_keepForUndo_29 rfl rfl ?_
    refine K_geti hX (xc_0 hw) cls_X11 (k := 11) (by decide) uw_3_27 rfl dX11_keepForUndo_30 ?_
    refine K_copy hX hR (xc_1 hw) (xc_1 hw) lcpy_X11_318 ⟨by omega, by omega⟩ (Nat.le_of_ble_eq_true rfl) dX11_keepForUndo_33 h (fun σ_5 h => ?_)
    refine J_aload_n (q := 0) hX dX11_keepForUndo_36 rfl rfl ?_
    refine K_getc 2 hX (xc_0 hw) cls_X11 (k := 10) (by decide) uw_3_26 rfl dX11_keepForUndo_37 ?_
    refine J_iconst (v := (1 : Int32)) hX dX11_keepForUndo_40 (by decide) ?_
    refine J_aload_n (q := 0) hX dX11_keepForUndo_41 rfl rfl ?_
    refine K_getc 2 hX (xc_0 hw) cls_X11 (k := 10) (by decide) uw_3_26 rfl dX11_keepForUndo_42 ?_
    refine J_iconst (v := (0 : Int32)) hX dX11_keepForUndo_45 (by decide) ?_
    refine J_aload_n (q := 0) hX dX11_keepForUndo_46 rfl rfl ?_
    refine K_geti hX (xc_0 hw) cls_X11 (k := 11) (by decide) uw_3_27 rfl dX11_keepForUndo_47 ?_
    refine K_copy hX hR (xc_2 hw) (xc_2 hw) lcpy_X11_318 ⟨by omega, by omega⟩ (Nat.le_of_ble_eq_true rfl) dX11_keepForUndo_50 h (fun σ_6 h => ?_)
    refine J_sub [0, 1, 2] rfl ?_
    exact tX_keepForUndo_53 hX hw hg hR hr v1 v2 σ_6 h
theorem ctX_keepForUndo {w : WT} (hw : isX w) {v1 : Int32} {v2 : Int32} {σ : St} {τ : St} (h : rX_keepForUndo v1 v2 σ = some τ) : Ct yX11_keepForUndo cX11_keepForUndo 3 none 1 26 w [.ref (wad w 0), .int v1, .int v2] σ none τ 0 0 :=
  Ct_intro (fun _ => (0, 0)) (by decide) rfl ⟨rfl, Nat.le_refl _⟩ (Nat.le_of_ble_eq_true rfl) (fun X hX hR hwX hg hr => by subst hwX; exact tX_keepForUndo hX hw hg hR hr v1 v2 σ h)

def rX_forgetAnswers (σ : St) : Option (St) :=
  chk (decide ((0 : Int32) = 0 ∨ (0 : Int32) = 1)) (nm (setI σ 49 8 (0 : Int32)) fun σ_1 => chk (decide ((0 : Int32) = 0 ∨ (0 : Int32) = 1)) (nm (setI σ_1 54 9 (0 : Int32)) fun σ_2 => some σ_2))
set_option maxRecDepth 100000 in
theorem tX_forgetAnswers {X : CX} (hX : gd X cX11_forgetAnswers 1 RX11 none) (hw : isX (xw X)) (hg : nA X) (hR : xR X = rmOf 0 0 0 0) {τ : St} (hr : xr X = (none, τ)) (σ : St) (h : rX_forgetAnswers σ = some τ) : Jd X 1 0 [(0, .ref (wad (xw X) 0))] [] σ := by
  unfold rX_forgetAnswers at h
  refine J_aload_n (q := 0) hX dX11_forgetAnswers_0 rfl rfl ?_
  refine K_getc 49 hX (xc_0 hw) cls_X11 (k := 6) (by decide) uw_3_22 rfl dX11_forgetAnswers_1 ?_
  refine J_iconst (v := (0 : Int32)) hX dX11_forgetAnswers_4 (by decide) ?_
  refine K_putz hX (xc_49 hw) cls_X4 (k := 8) (by decide) uw_2_149 rfl rfl rfl dX11_forgetAnswers_5 h (fun σ_1 h => ?_)
  refine J_aload_n (q := 0) hX dX11_forgetAnswers_8 rfl rfl ?_
  refine K_getc 54 hX (xc_0 hw) cls_X11 (k := 7) (by decide) uw_3_23 rfl dX11_forgetAnswers_9 ?_
  refine J_iconst (v := (0 : Int32)) hX dX11_forgetAnswers_12 (by decide) ?_
  refine K_putz hX (xc_54 hw) cls_X1 (k := 9) (by decide) uw_2_195 rfl rfl rfl dX11_forgetAnswers_13 h (fun σ_2 h => ?_)
  exact K_vret hX hr dX11_forgetAnswers_16 h
theorem ctX_forgetAnswers {w : WT} (hw : isX w) {σ : St} {τ : St} (h : rX_forgetAnswers σ = some τ) : Ct yX11_forgetAnswers cX11_forgetAnswers 1 none 0 0 w [.ref (wad w 0)] σ none τ 0 0 :=
  Ct_intro (fun _ => (0, 0)) (by decide) rfl ⟨rfl, Nat.le_refl _⟩ (Nat.le_of_ble_eq_true rfl) (fun X hX hR hwX hg hr => by subst hwX; exact tX_forgetAnswers hX hw hg hR hr  σ h)

def rX_feed (v1 : Int64) (v3 : Int64) (v5 : Int64) (σ : St) : Option (Int32 × St) :=
  bnd1 (rX_taddEight v1 σ) fun σ_1 => bnd1 (rX_taddEight v3 σ_1) fun σ_3 => bnd1 (rX_taddEight v5 σ_3) fun σ_5 => some (σ_5.1 5 2, σ_5)
set_option maxRecDepth 100000 in
theorem tX_feed {X : CX} (hX : gd X cX11_feed 7 RX11 (some .int)) (hw : isX (xw X)) (hg : nA X) (hR : xR X = rmOf 1 25 0 0) {r : Int32} {τ : St} (hr : xr X = (some (.int r), τ)) (v1 : Int64) (v3 : Int64) (v5 : Int64) (σ : St) (h : rX_feed v1 v3 v5 σ = some (r, τ)) : Jd X 7 0 [(0, .ref (wad (xw X) 0)), (1, .long v1), (3, .long v3), (5, .long v5)] [] σ := by
  unfold rX_feed at h
  refine J_aload_n (q := 0) hX dX11_feed_0 rfl rfl ?_
  refine K_getc 5 hX (xc_0 hw) cls_X11 (k := 0) (by decide) uw_3_16 rfl dX11_feed_1 ?_
  refine J_lload_n (q := 1) hX dX11_feed_4 rfl rfl ?_
  obtain ⟨σ_1, hc_2, h⟩ := bnd1_some h
  refine K_callV [.long v1] hX hg hR (ctX_taddEight hw hc_2) lk_X11_97_X8_addEight md_X8_addEight (xc_5 hw) cls_X8 ⟨by decide, by decide⟩ rfl rfl (Nat.le_of_ble_eq_true rfl) dX11_feed_5 ?_
  refine J_aload_n (q := 0) hX dX11_feed_8 rfl rfl ?_
  refine K_getc 5 hX (xc_0 hw) cls_X11 (k := 0) (by decide) uw_3_16 rfl dX11_feed_9 ?_
  refine J_lload_n (q := 2) hX dX11_feed_12 rfl rfl ?_
  obtain ⟨σ_3, hc_4, h⟩ := bnd1_some h
  refine K_callV [.long v3] hX hg hR (ctX_taddEight hw hc_4) lk_X11_97_X8_addEight md_X8_addEight (xc_5 hw) cls_X8 ⟨by decide, by decide⟩ rfl rfl (Nat.le_of_ble_eq_true rfl) dX11_feed_13 ?_
  refine J_aload_n (q := 0) hX dX11_feed_16 rfl rfl ?_
  refine K_getc 5 hX (xc_0 hw) cls_X11 (k := 0) (by decide) uw_3_16 rfl dX11_feed_17 ?_
  refine J_lload (q := 3) hX dX11_feed_20 rfl ?_
  obtain ⟨σ_5, hc_6, h⟩ := bnd1_some h
  refine K_callV [.long v5] hX hg hR (ctX_taddEight hw hc_6) lk_X11_97_X8_addEight md_X8_addEight (xc_5 hw) cls_X8 ⟨by decide, by decide⟩ rfl rfl (Nat.le_of_ble_eq_true rfl) dX11_feed_22 ?_
  refine J_aload_n (q := 0) hX dX11_feed_25 rfl rfl ?_
  refine K_getc 5 hX (xc_0 hw) cls_X11 (k := 0) (by decide) uw_3_16 rfl dX11_feed_26 ?_
  refine K_geti hX (xc_5 hw) cls_X8 (k := 2) (by decide) uw_1_44 rfl dX11_feed_29 ?_
  exact K_iret hX hr dX11_feed_32 h
theorem ctX_feed {w : WT} (hw : isX w) {v1 : Int64} {v3 : Int64} {v5 : Int64} {σ : St} {r : Int32} {τ : St} (h : rX_feed v1 v3 v5 σ = some (r, τ)) : Ct yX11_feed cX11_feed 7 (some .int) 1 25 w [.ref (wad w 0), .long v1, .long v3, .long v5] σ (some (.int r)) τ 0 0 :=
  Ct_intro (fun _ => (0, 0)) (by decide) rfl ⟨rfl, Nat.le_refl _⟩ (Nat.le_of_ble_eq_true rfl) (fun X hX hR hwX hg hr => by subst hwX; exact tX_feed hX hw hg hR hr v1 v3 v5 σ h)

def rX_station (v1 : Int32) (v2 : Int32) (σ : St) : Option (Int32 × St) :=
  bnd2 (rX_hasStation v1 σ) fun r_3 σ_1 => brc (¬ r_3 = 0) (brc ((v2).toInt = 0) (chk (ib v1 7) (some (σ_1.1 24 v1.toNatClampNeg, σ_1))) (brc ((v2).toInt = 1) (chk (ib v1 7) (some (σ_1.1 25 v1.toNatClampNeg, σ_1))) (brc ((v2).toInt = 2) (chk (ib v1 7) (some (σ_1.1 34 v1.toNatClampNeg, σ_1))) (some ((-1 : Int32), σ_1))))) (some ((-1 : Int32), σ_1))
set_option maxRecDepth 100000 in
theorem tX_station {X : CX} (hX : gd X cX11_station 3 RX11 (some .int)) (hw : isX (xw X)) (hg : nA X) (hR : xR X = rmOf 1 21 0 0) {r : Int32} {τ : St} (hr : xr X = (some (.int r), τ)) (v1 : Int32) (v2 : Int32) (σ : St) (h : rX_station v1 v2 σ = some (r, τ)) : Jd X 3 0 [(0, .ref (wad (xw X) 0)), (1, .int v1), (2, .int v2)] [] σ := by
  unfold rX_station at h
  refine J_aload_n (q := 0) hX dX11_station_0 rfl rfl ?_
  refine K_getc 23 hX (xc_0 hw) cls_X11 (k := 2) (by decide) uw_3_18 rfl dX11_station_1 ?_
  refine J_iload_n (q := 1) hX dX11_station_4 rfl rfl ?_
  obtain ⟨r_3, σ_1, hc_2, h⟩ := bnd2_some h
  refine K_callV [.int v1] hX hg hR (ctX_hasStation hw hc_2) lk_X11_124_X3_hasStation md_X3_hasStation (xc_23 hw) cls_X3 ⟨by decide, by decide⟩ rfl rfl (Nat.le_of_ble_eq_true rfl) dX11_station_5 ?_
  refine K_if_ne (tgt := 13) hX dX11_station_8 rfl h (fun h => ?_) (fun h => ?_)
  · refine J_iload_n (q := 2) hX dX11_station_13 rfl rfl ?_
    rcases brc_some h with ⟨hc, h⟩ | ⟨hn_4, h⟩
    · refine K_tabIn (v := 0) (tgt := 40) hX dX11_station_14 hc (by decide) (by decide) rfl rfl ?_
      refine J_aload_n (q := 0) hX dX11_station_40 rfl rfl ?_
      refine K_getc 23 hX (xc_0 hw) cls_X11 (k := 2) (by decide) uw_3_18 rfl dX11_station_41 ?_
      refine K_getc 24 hX (xc_23 hw) cls_X3 (k := 3) (by decide) uw_1_104 rfl dX11_station_44 ?_
      refine J_iload_n (q := 1) hX dX11_station_47 rfl rfl ?_
      refine K_iald hX (xc_24 hw) dX11_station_48 h (fun h => ?_)
      exact K_iret hX hr dX11_station_49 h
    rcases brc_some h with ⟨hc, h⟩ | ⟨hn_5, h⟩
    · refine K_tabIn (v := 1) (tgt := 50) hX dX11_station_14 hc (by decide) (by decide) rfl rfl ?_
      refine J_aload_n (q := 0) hX dX11_station_50 rfl rfl ?_
      refine K_getc 23 hX (xc_0 hw) cls_X11 (k := 2) (by decide) uw_3_18 rfl dX11_station_51 ?_
      refine K_getc 25 hX (xc_23 hw) cls_X3 (k := 4) (by decide) uw_1_108 rfl dX11_station_54 ?_
      refine J_iload_n (q := 1) hX dX11_station_57 rfl rfl ?_
      refine K_iald hX (xc_25 hw) dX11_station_58 h (fun h => ?_)
      exact K_iret hX hr dX11_station_59 h
    rcases brc_some h with ⟨hc, h⟩ | ⟨hn_6, h⟩
    · refine K_tabIn (v := 2) (tgt := 60) hX dX11_station_14 hc (by decide) (by decide) rfl rfl ?_
      refine J_aload_n (q := 0) hX dX11_station_60 rfl rfl ?_
      refine K_getc 33 hX (xc_0 hw) cls_X11 (k := 3) (by decide) uw_3_19 rfl dX11_station_61 ?_
      refine K_getc 34 hX (xc_33 hw) cls_X0 (k := 5) (by decide) uw_2_23 rfl dX11_station_64 ?_
      refine J_iload_n (q := 1) hX dX11_station_67 rfl rfl ?_
      refine K_iald hX (xc_34 hw) dX11_station_68 h (fun h => ?_)
      exact K_iret hX hr dX11_station_69 h
    refine K_tabOut (tgt := 70) hX dX11_station_14 (by omega) rfl ?_
    refine J_iconst (v := (-1 : Int32)) hX dX11_station_70 (by decide) ?_
    exact K_iret hX hr dX11_station_71 h
  · refine J_iconst (v := (-1 : Int32)) hX dX11_station_11 (by decide) ?_
    exact K_iret hX hr dX11_station_12 h
theorem ctX_station {w : WT} (hw : isX w) {v1 : Int32} {v2 : Int32} {σ : St} {r : Int32} {τ : St} (h : rX_station v1 v2 σ = some (r, τ)) : Ct yX11_station cX11_station 3 (some .int) 1 21 w [.ref (wad w 0), .int v1, .int v2] σ (some (.int r)) τ 0 0 :=
  Ct_intro (fun _ => (0, 0)) (by decide) rfl ⟨rfl, Nat.le_refl _⟩ (Nat.le_of_ble_eq_true rfl) (fun X hX hR hwX hg hr => by subst hwX; exact tX_station hX hw hg hR hr v1 v2 σ h)

def rX_way_34 (σ : St) : Option (Int32 × St) :=
  some ((-1 : Int32), σ)
set_option maxRecDepth 100000 in
theorem tX_way_34 {X : CX} (hX : gd X cX11_way 4 RX11 (some .int)) (hw : isX (xw X)) (hg : nA X) (hR : xR X = rmOf 1 22 0 0) {r : Int32} {τ : St} (hr : xr X = (some (.int r), τ)) (σ : St) (h : rX_way_34 σ = some (r, τ)) : Jd X 4 34 [] [] σ := by
  unfold rX_way_34 at h
  refine J_iconst (v := (-1 : Int32)) hX dX11_way_34 (by decide) ?_
  exact K_iret hX hr dX11_way_35 h

def rX_way (v1 : Int32) (v2 : Int32) (v3 : Int32) (σ : St) : Option (Int32 × St) :=
  bnd2 (rX_hasStation v1 σ) fun r_3 σ_1 => brc (r_3 = 0) (rX_way_34 σ_1) (bnd2 (rX_hasStation v2 σ_1) fun r_6 σ_4 => brc (r_6 = 0) (rX_way_34 σ_4) (bnd2 (rX_hasWay v1 v2 σ_4) fun r_9 σ_7 => brc (¬ r_9 = 0) (brc ((v3).toInt = 0) (chk (ib ((v1 * (7 : Int32)) + v2) 49) (some (σ_7.1 26 ((v1 * (7 : Int32)) + v2).toNatClampNeg, σ_7))) (brc ((v3).toInt = 1) (chk (ib ((v1 * (7 : Int32)) + v2) 49) (some (σ_7.1 27 ((v1 * (7 : Int32)) + v2).toNatClampNeg, σ_7))) (some ((-1 : Int32), σ_7)))) (rX_way_34 σ_7)))
set_option maxRecDepth 100000 in
theorem tX_way {X : CX} (hX : gd X cX11_way 4 RX11 (some .int)) (hw : isX (xw X)) (hg : nA X) (hR : xR X = rmOf 1 22 0 0) {r : Int32} {τ : St} (hr : xr X = (some (.int r), τ)) (v1 : Int32) (v2 : Int32) (v3 : Int32) (σ : St) (h : rX_way v1 v2 v3 σ = some (r, τ)) : Jd X 4 0 [(0, .ref (wad (xw X) 0)), (1, .int v1), (2, .int v2), (3, .int v3)] [] σ := by
  unfold rX_way at h
  refine J_aload_n (q := 0) hX dX11_way_0 rfl rfl ?_
  refine K_getc 23 hX (xc_0 hw) cls_X11 (k := 2) (by decide) uw_3_18 rfl dX11_way_1 ?_
  refine J_iload_n (q := 1) hX dX11_way_4 rfl rfl ?_
  obtain ⟨r_3, σ_1, hc_2, h⟩ := bnd2_some h
  refine K_callV [.int v1] hX hg hR (ctX_hasStation hw hc_2) lk_X11_124_X3_hasStation md_X3_hasStation (xc_23 hw) cls_X3 ⟨by decide, by decide⟩ rfl rfl (Nat.le_of_ble_eq_true rfl) dX11_way_5 ?_
  refine K_if_eq (tgt := 34) hX dX11_way_8 rfl h (fun h => ?_) (fun h => ?_)
  · refine J_sub [] rfl ?_
    exact tX_way_34 hX hw hg hR hr σ_1 h
  · refine J_aload_n (q := 0) hX dX11_way_11 rfl rfl ?_
    refine K_getc 23 hX (xc_0 hw) cls_X11 (k := 2) (by decide) uw_3_18 rfl dX11_way_12 ?_
    refine J_iload_n (q := 2) hX dX11_way_15 rfl rfl ?_
    obtain ⟨r_6, σ_4, hc_5, h⟩ := bnd2_some h
    refine K_callV [.int v2] hX hg hR (ctX_hasStation hw hc_5) lk_X11_124_X3_hasStation md_X3_hasStation (xc_23 hw) cls_X3 ⟨by decide, by decide⟩ rfl rfl (Nat.le_of_ble_eq_true rfl) dX11_way_16 ?_
    refine K_if_eq (tgt := 34) hX dX11_way_19 rfl h (fun h => ?_) (fun h => ?_)
    · refine J_sub [] rfl ?_
      exact tX_way_34 hX hw hg hR hr σ_4 h
    · refine J_aload_n (q := 0) hX dX11_way_22 rfl rfl ?_
      refine K_getc 23 hX (xc_0 hw) cls_X11 (k := 2) (by decide) uw_3_18 rfl dX11_way_23 ?_
      refine J_iload_n (q := 1) hX dX11_way_26 rfl rfl ?_
      refine J_iload_n (q := 2) hX dX11_way_27 rfl rfl ?_
      obtain ⟨r_9, σ_7, hc_8, h⟩ := bnd2_some h
      refine K_callV [.int v1, .int v2] hX hg hR (ctX_hasWay hw hc_8) lk_X11_137_X3_hasWay md_X3_hasWay (xc_23 hw) cls_X3 ⟨by decide, by decide⟩ rfl rfl (Nat.le_of_ble_eq_true rfl) dX11_way_28 ?_
      refine K_if_ne (tgt := 36) hX dX11_way_31 rfl h (fun h => ?_) (fun h => ?_)
      · refine J_iload_n (q := 3) hX dX11_way_36 rfl rfl ?_
        rcases brc_some h with ⟨hc, h⟩ | ⟨hn_10, h⟩
        · refine K_look (off := 27) (tgt := 64) hX dX11_way_37 (by decide) (by rw [hc]; rfl) rfl ?_
          refine J_aload_n (q := 0) hX dX11_way_64 rfl rfl ?_
          refine K_getc 23 hX (xc_0 hw) cls_X11 (k := 2) (by decide) uw_3_18 rfl dX11_way_65 ?_
          refine K_getc 26 hX (xc_23 hw) cls_X3 (k := 5) (by decide) uw_1_111 rfl dX11_way_68 ?_
          refine J_iload_n (q := 1) hX dX11_way_71 rfl rfl ?_
          refine J_bipush (v := (7 : Int32)) hX dX11_way_72 (by decide) ?_
          refine J_imul hX dX11_way_74 ?_
          refine J_iload_n (q := 2) hX dX11_way_75 rfl rfl ?_
          refine J_iadd hX dX11_way_76 ?_
          refine K_iald hX (xc_26 hw) dX11_way_77 h (fun h => ?_)
          exact K_iret hX hr dX11_way_78 h
        rcases brc_some h with ⟨hc, h⟩ | ⟨hn_11, h⟩
        · refine K_look (off := 42) (tgt := 79) hX dX11_way_37 (by decide) (by rw [hc]; rfl) rfl ?_
          refine J_aload_n (q := 0) hX dX11_way_79 rfl rfl ?_
          refine K_getc 23 hX (xc_0 hw) cls_X11 (k := 2) (by decide) uw_3_18 rfl dX11_way_80 ?_
          refine K_getc 27 hX (xc_23 hw) cls_X3 (k := 6) (by decide) uw_1_114 rfl dX11_way_83 ?_
          refine J_iload_n (q := 1) hX dX11_way_86 rfl rfl ?_
          refine J_bipush (v := (7 : Int32)) hX dX11_way_87 (by decide) ?_
          refine J_imul hX dX11_way_89 ?_
          refine J_iload_n (q := 2) hX dX11_way_90 rfl rfl ?_
          refine J_iadd hX dX11_way_91 ?_
          refine K_iald hX (xc_27 hw) dX11_way_92 h (fun h => ?_)
          exact K_iret hX hr dX11_way_93 h
        refine K_look (off := 57) (tgt := 94) hX dX11_way_37 (by decide) (by simp [Op.lookupswitch.offset, Ne.symm hn_10, Ne.symm hn_11]) rfl ?_
        refine J_iconst (v := (-1 : Int32)) hX dX11_way_94 (by decide) ?_
        exact K_iret hX hr dX11_way_95 h
      · refine J_sub [] rfl ?_
        exact tX_way_34 hX hw hg hR hr σ_7 h
theorem ctX_way {w : WT} (hw : isX w) {v1 : Int32} {v2 : Int32} {v3 : Int32} {σ : St} {r : Int32} {τ : St} (h : rX_way v1 v2 v3 σ = some (r, τ)) : Ct yX11_way cX11_way 4 (some .int) 1 22 w [.ref (wad w 0), .int v1, .int v2, .int v3] σ (some (.int r)) τ 0 0 :=
  Ct_intro (fun _ => (0, 0)) (by decide) rfl ⟨rfl, Nat.le_refl _⟩ (Nat.le_of_ble_eq_true rfl) (fun X hX hR hwX hg hr => by subst hwX; exact tX_way hX hw hg hR hr v1 v2 v3 σ h)

def rX_paths (σ : St) : Option (Int32 × St) :=
  some (σ.1 42 3, σ)
set_option maxRecDepth 100000 in
theorem tX_paths {X : CX} (hX : gd X cX11_paths 1 RX11 (some .int)) (hw : isX (xw X)) (hg : nA X) (hR : xR X = rmOf 0 0 0 0) {r : Int32} {τ : St} (hr : xr X = (some (.int r), τ)) (σ : St) (h : rX_paths σ = some (r, τ)) : Jd X 1 0 [(0, .ref (wad (xw X) 0))] [] σ := by
  unfold rX_paths at h
  refine J_aload_n (q := 0) hX dX11_paths_0 rfl rfl ?_
  refine K_getc 42 hX (xc_0 hw) cls_X11 (k := 4) (by decide) uw_3_20 rfl dX11_paths_1 ?_
  refine K_geti hX (xc_42 hw) cls_X6 (k := 3) (by decide) uw_2_79 rfl dX11_paths_4 ?_
  exact K_iret hX hr dX11_paths_7 h
theorem ctX_paths {w : WT} (hw : isX w) {σ : St} {r : Int32} {τ : St} (h : rX_paths σ = some (r, τ)) : Ct yX11_paths cX11_paths 1 (some .int) 0 0 w [.ref (wad w 0)] σ (some (.int r)) τ 0 0 :=
  Ct_intro (fun _ => (0, 0)) (by decide) rfl ⟨rfl, Nat.le_refl _⟩ (Nat.le_of_ble_eq_true rfl) (fun X hX hR hwX hg hr => by subst hwX; exact tX_paths hX hw hg hR hr  σ h)

def rX_path_27 (σ : St) : Option (Int32 × St) :=
  some ((-1 : Int32), σ)
set_option maxRecDepth 100000 in
theorem tX_path_27 {X : CX} (hX : gd X cX11_path 3 RX11 (some .int)) (hw : isX (xw X)) (hg : nA X) (hR : xR X = rmOf 1 22 0 0) {r : Int32} {τ : St} (hr : xr X = (some (.int r), τ)) (σ : St) (h : rX_path_27 σ = some (r, τ)) : Jd X 3 27 [] [] σ := by
  unfold rX_path_27 at h
  refine J_iconst (v := (-1 : Int32)) hX dX11_path_27 (by decide) ?_
  exact K_iret hX hr dX11_path_28 h

def rX_path (v1 : Int32) (v2 : Int32) (σ : St) : Option (Int32 × St) :=
  bnd2 (rX_rhas v1 σ) fun r_3 σ_1 => brc (r_3 = 0) (rX_path_27 σ_1) (brc (v2 < 0) (rX_path_27 σ_1) (bnd2 (rX_rlastOf v1 σ_1) fun r_6 σ_4 => brc (v2 ≤ r_6) (bnd2 (rX_rstationAt v1 v2 σ_4) fun r_9 σ_7 => some (r_9, σ_7)) (rX_path_27 σ_4)))
set_option maxRecDepth 100000 in
theorem tX_path {X : CX} (hX : gd X cX11_path 3 RX11 (some .int)) (hw : isX (xw X)) (hg : nA X) (hR : xR X = rmOf 1 22 0 0) {r : Int32} {τ : St} (hr : xr X = (some (.int r), τ)) (v1 : Int32) (v2 : Int32) (σ : St) (h : rX_path v1 v2 σ = some (r, τ)) : Jd X 3 0 [(0, .ref (wad (xw X) 0)), (1, .int v1), (2, .int v2)] [] σ := by
  unfold rX_path at h
  refine J_aload_n (q := 0) hX dX11_path_0 rfl rfl ?_
  refine K_getc 42 hX (xc_0 hw) cls_X11 (k := 4) (by decide) uw_3_20 rfl dX11_path_1 ?_
  refine J_iload_n (q := 1) hX dX11_path_4 rfl rfl ?_
  obtain ⟨r_3, σ_1, hc_2, h⟩ := bnd2_some h
  refine K_callV [.int v1] hX hg hR (ctX_rhas hw hc_2) lk_X11_184_X6_has md_X6_has (xc_42 hw) cls_X6 ⟨by decide, by decide⟩ rfl rfl (Nat.le_of_ble_eq_true rfl) dX11_path_5 ?_
  refine K_if_eq (tgt := 27) hX dX11_path_8 rfl h (fun h => ?_) (fun h => ?_)
  · refine J_sub [] rfl ?_
    exact tX_path_27 hX hw hg hR hr σ_1 h
  · refine J_iload_n (q := 2) hX dX11_path_11 rfl rfl ?_
    refine K_if_lt (tgt := 27) hX dX11_path_12 rfl h (fun h => ?_) (fun h => ?_)
    · refine J_sub [] rfl ?_
      exact tX_path_27 hX hw hg hR hr σ_1 h
    · refine J_iload_n (q := 2) hX dX11_path_15 rfl rfl ?_
      refine J_aload_n (q := 0) hX dX11_path_16 rfl rfl ?_
      refine K_getc 42 hX (xc_0 hw) cls_X11 (k := 4) (by decide) uw_3_20 rfl dX11_path_17 ?_
      refine J_iload_n (q := 1) hX dX11_path_20 rfl rfl ?_
      obtain ⟨r_6, σ_4, hc_5, h⟩ := bnd2_some h
      refine K_callV [.int v1] hX hg hR (ctX_rlastOf hw hc_5) lk_X11_187_X6_lastOf md_X6_lastOf (xc_42 hw) cls_X6 ⟨by decide, by decide⟩ rfl rfl (Nat.le_of_ble_eq_true rfl) dX11_path_21 ?_
      refine K_icmp_le (tgt := 29) hX dX11_path_24 rfl h (fun h => ?_) (fun h => ?_)
      · refine J_aload_n (q := 0) hX dX11_path_29 rfl rfl ?_
        refine K_getc 42 hX (xc_0 hw) cls_X11 (k := 4) (by decide) uw_3_20 rfl dX11_path_30 ?_
        refine J_iload_n (q := 1) hX dX11_path_33 rfl rfl ?_
        refine J_iload_n (q := 2) hX dX11_path_34 rfl rfl ?_
        obtain ⟨r_9, σ_7, hc_8, h⟩ := bnd2_some h
        refine K_callV [.int v1, .int v2] hX hg hR (ctX_rstationAt hw hc_8) lk_X11_190_X6_stationAt md_X6_stationAt (xc_42 hw) cls_X6 ⟨by decide, by decide⟩ rfl rfl (Nat.le_of_ble_eq_true rfl) dX11_path_35 ?_
        exact K_iret hX hr dX11_path_38 h
      · refine J_sub [] rfl ?_
        exact tX_path_27 hX hw hg hR hr σ_4 h
theorem ctX_path {w : WT} (hw : isX w) {v1 : Int32} {v2 : Int32} {σ : St} {r : Int32} {τ : St} (h : rX_path v1 v2 σ = some (r, τ)) : Ct yX11_path cX11_path 3 (some .int) 1 22 w [.ref (wad w 0), .int v1, .int v2] σ (some (.int r)) τ 0 0 :=
  Ct_intro (fun _ => (0, 0)) (by decide) rfl ⟨rfl, Nat.le_refl _⟩ (Nat.le_of_ble_eq_true rfl) (fun X hX hR hwX hg hr => by subst hwX; exact tX_path hX hw hg hR hr v1 v2 σ h)

def rX_trip_20 (σ : St) : Option (Int32 × St) :=
  some ((-1 : Int32), σ)
set_option maxRecDepth 100000 in
theorem tX_trip_20 {X : CX} (hX : gd X cX11_trip 5 RX11 (some .int)) (hw : isX (xw X)) (hg : nA X) (hR : xR X = rmOf 4 102 0 0) {r : Int32} {τ : St} (hr : xr X = (some (.int r), τ)) (σ : St) (h : rX_trip_20 σ = some (r, τ)) : Jd X 5 20 [] [] σ := by
  unfold rX_trip_20 at h
  refine J_iconst (v := (-1 : Int32)) hX dX11_trip_20 (by decide) ?_
  exact K_iret hX hr dX11_trip_21 h

def rX_trip (v1 : Int32) (v2 : Int32) (v3 : Int32) (v4 : Int32) (σ : St) : Option (Int32 × St) :=
  bnd2 (rX_canCarry v1 v3 σ) fun r_3 σ_1 => brc (r_3 = 0) (rX_trip_20 σ_1) (bnd2 (rX_rhas v2 σ_1) fun r_6 σ_4 => brc (¬ r_6 = 0) (bnd1 (rX_goAll v1 v2 v3 (0 : Int32) σ_4) fun σ_7 => brc ((v4).toInt = 0) (some (σ_7.1 46 5, σ_7)) (brc ((v4).toInt = 1) (some (σ_7.1 46 6, σ_7)) (brc ((v4).toInt = 2) (some (σ_7.1 46 7, σ_7)) (brc ((v4).toInt = 3) (some (σ_7.1 46 8, σ_7)) (some ((-1 : Int32), σ_7)))))) (rX_trip_20 σ_4))
set_option maxRecDepth 100000 in
theorem tX_trip {X : CX} (hX : gd X cX11_trip 5 RX11 (some .int)) (hw : isX (xw X)) (hg : nA X) (hR : xR X = rmOf 4 102 0 0) {r : Int32} {τ : St} (hr : xr X = (some (.int r), τ)) (v1 : Int32) (v2 : Int32) (v3 : Int32) (v4 : Int32) (σ : St) (h : rX_trip v1 v2 v3 v4 σ = some (r, τ)) : Jd X 5 0 [(0, .ref (wad (xw X) 0)), (1, .int v1), (2, .int v2), (3, .int v3), (4, .int v4)] [] σ := by
  unfold rX_trip at h
  refine J_aload_n (q := 0) hX dX11_trip_0 rfl rfl ?_
  refine J_iload_n (q := 1) hX dX11_trip_1 rfl rfl ?_
  refine J_iload_n (q := 3) hX dX11_trip_2 rfl rfl ?_
  obtain ⟨r_3, σ_1, hc_2, h⟩ := bnd2_some h
  refine K_callV [.int v1, .int v3] hX hg hR (ctX_canCarry hw hc_2) lk_X11_194_X11_canCarry md_X11_canCarry (xc_0 hw) cls_X11 ⟨by decide, by decide⟩ rfl rfl (Nat.le_of_ble_eq_true rfl) dX11_trip_3 ?_
  refine K_if_eq (tgt := 20) hX dX11_trip_6 rfl h (fun h => ?_) (fun h => ?_)
  · refine J_sub [] rfl ?_
    exact tX_trip_20 hX hw hg hR hr σ_1 h
  · refine J_aload_n (q := 0) hX dX11_trip_9 rfl rfl ?_
    refine K_getc 42 hX (xc_0 hw) cls_X11 (k := 4) (by decide) uw_3_20 rfl dX11_trip_10 ?_
    refine J_iload_n (q := 2) hX dX11_trip_13 rfl rfl ?_
    obtain ⟨r_6, σ_4, hc_5, h⟩ := bnd2_some h
    refine K_callV [.int v2] hX hg hR (ctX_rhas hw hc_5) lk_X11_184_X6_has md_X6_has (xc_42 hw) cls_X6 ⟨by decide, by decide⟩ rfl rfl (Nat.le_of_ble_eq_true rfl) dX11_trip_14 ?_
    refine K_if_ne (tgt := 22) hX dX11_trip_17 rfl h (fun h => ?_) (fun h => ?_)
    · refine J_aload_n (q := 0) hX dX11_trip_22 rfl rfl ?_
      refine K_getc 46 hX (xc_0 hw) cls_X11 (k := 5) (by decide) uw_3_21 rfl dX11_trip_23 ?_
      refine J_iload_n (q := 1) hX dX11_trip_26 rfl rfl ?_
      refine J_iload_n (q := 2) hX dX11_trip_27 rfl rfl ?_
      refine J_iload_n (q := 3) hX dX11_trip_28 rfl rfl ?_
      refine J_iconst (v := (0 : Int32)) hX dX11_trip_29 (by decide) ?_
      obtain ⟨σ_7, hc_8, h⟩ := bnd1_some h
      refine K_callV [.int v1, .int v2, .int v3, .int (0 : Int32)] hX hg hR (ctX_goAll hw hc_8) lk_X11_197_X9_goAll md_X9_goAll (xc_46 hw) cls_X9 ⟨by decide, by decide⟩ rfl rfl (Nat.le_of_ble_eq_true rfl) dX11_trip_30 ?_
      refine J_iload (q := 4) hX dX11_trip_33 rfl ?_
      rcases brc_some h with ⟨hc, h⟩ | ⟨hn_9, h⟩
      · refine K_tabIn (v := 0) (tgt := 64) hX dX11_trip_35 hc (by decide) (by decide) rfl rfl ?_
        refine J_aload_n (q := 0) hX dX11_trip_64 rfl rfl ?_
        refine K_getc 46 hX (xc_0 hw) cls_X11 (k := 5) (by decide) uw_3_21 rfl dX11_trip_65 ?_
        refine K_geti hX (xc_46 hw) cls_X9 (k := 5) (by decide) uw_2_103 rfl dX11_trip_68 ?_
        exact K_iret hX hr dX11_trip_71 h
      rcases brc_some h with ⟨hc, h⟩ | ⟨hn_10, h⟩
      · refine K_tabIn (v := 1) (tgt := 72) hX dX11_trip_35 hc (by decide) (by decide) rfl rfl ?_
        refine J_aload_n (q := 0) hX dX11_trip_72 rfl rfl ?_
        refine K_getc 46 hX (xc_0 hw) cls_X11 (k := 5) (by decide) uw_3_21 rfl dX11_trip_73 ?_
        refine K_geti hX (xc_46 hw) cls_X9 (k := 6) (by decide) uw_2_107 rfl dX11_trip_76 ?_
        exact K_iret hX hr dX11_trip_79 h
      rcases brc_some h with ⟨hc, h⟩ | ⟨hn_11, h⟩
      · refine K_tabIn (v := 2) (tgt := 80) hX dX11_trip_35 hc (by decide) (by decide) rfl rfl ?_
        refine J_aload_n (q := 0) hX dX11_trip_80 rfl rfl ?_
        refine K_getc 46 hX (xc_0 hw) cls_X11 (k := 5) (by decide) uw_3_21 rfl dX11_trip_81 ?_
        refine K_geti hX (xc_46 hw) cls_X9 (k := 7) (by decide) uw_2_109 rfl dX11_trip_84 ?_
        exact K_iret hX hr dX11_trip_87 h
      rcases brc_some h with ⟨hc, h⟩ | ⟨hn_12, h⟩
      · refine K_tabIn (v := 3) (tgt := 88) hX dX11_trip_35 hc (by decide) (by decide) rfl rfl ?_
        refine J_aload_n (q := 0) hX dX11_trip_88 rfl rfl ?_
        refine K_getc 46 hX (xc_0 hw) cls_X11 (k := 5) (by decide) uw_3_21 rfl dX11_trip_89 ?_
        refine K_geti hX (xc_46 hw) cls_X9 (k := 8) (by decide) uw_2_111 rfl dX11_trip_92 ?_
        exact K_iret hX hr dX11_trip_95 h
      refine K_tabOut (tgt := 96) hX dX11_trip_35 (by omega) rfl ?_
      refine J_iconst (v := (-1 : Int32)) hX dX11_trip_96 (by decide) ?_
      exact K_iret hX hr dX11_trip_97 h
    · refine J_sub [] rfl ?_
      exact tX_trip_20 hX hw hg hR hr σ_4 h
theorem ctX_trip {w : WT} (hw : isX w) {v1 : Int32} {v2 : Int32} {v3 : Int32} {v4 : Int32} {σ : St} {r : Int32} {τ : St} (h : rX_trip v1 v2 v3 v4 σ = some (r, τ)) : Ct yX11_trip cX11_trip 5 (some .int) 4 102 w [.ref (wad w 0), .int v1, .int v2, .int v3, .int v4] σ (some (.int r)) τ 0 0 :=
  Ct_intro (fun _ => (0, 0)) (by decide) rfl ⟨rfl, Nat.le_refl _⟩ (Nat.le_of_ble_eq_true rfl) (fun X hX hR hwX hg hr => by subst hwX; exact tX_trip hX hw hg hR hr v1 v2 v3 v4 σ h)

def rX_send_43 (σ : St) : Option (Int32 × St) :=
  some ((-1 : Int32), σ)
set_option maxRecDepth 100000 in
theorem tX_send_43 {X : CX} (hX : gd X cX11_send 5 RX11 (some .int)) (hw : isX (xw X)) (hg : nA X) (hR : xR X = rmOf 4 102 0 0) {r : Int32} {τ : St} (hr : xr X = (some (.int r), τ)) (σ : St) (h : rX_send_43 σ = some (r, τ)) : Jd X 5 43 [] [] σ := by
  unfold rX_send_43 at h
  refine J_iconst (v := (-1 : Int32)) hX dX11_send_43 (by decide) ?_
  exact K_iret hX hr dX11_send_44 h

def rX_send (v1 : Int32) (v2 : Int32) (v3 : Int32) (σ : St) : Option (Int32 × St) :=
  bnd2 (rX_canCarry v1 v3 σ) fun r_3 σ_1 => brc (r_3 = 0) (rX_send_43 σ_1) (bnd2 (rX_rhas v2 σ_1) fun r_6 σ_4 => brc (r_6 = 0) (rX_send_43 σ_4) (chk (ib v1 6) (brc (¬ (σ_4.1 35 v1.toNatClampNeg) = 0) (rX_send_43 σ_4) (brc (v3 ≤ (σ_4.1 33 2)) (chk (ib v1 6) (nm (setI σ_4 35 v1.toNatClampNeg (1 : Int32)) fun σ_7 => nm (setI σ_7 33 2 ((σ_7.1 33 2) - v3)) fun σ_8 => bnd1 (rX_goAll v1 v2 v3 (1 : Int32) σ_8) fun σ_9 => nm (σ_9.1 46 5) fun v4_11 => chk (ib v1 6) (bnd2 (rX_priceNow σ_9) fun r_14 σ_12 => chk (ib v1 6) (nm (setI σ_12 36 v1.toNatClampNeg ((σ_9.1 36 v1.toNatClampNeg) + (r_14 * v4_11))) fun σ_15 => nm (setI σ_15 33 0 ((σ_15.1 33 0) + v4_11)) fun σ_16 => nm (setI σ_16 33 1 ((σ_16.1 33 1) + (1 : Int32))) fun σ_17 => some (v4_11, σ_17))))) (rX_send_43 σ_4)))))
set_option maxRecDepth 100000 in
theorem tX_send {X : CX} (hX : gd X cX11_send 5 RX11 (some .int)) (hw : isX (xw X)) (hg : nA X) (hR : xR X = rmOf 4 102 0 0) {r : Int32} {τ : St} (hr : xr X = (some (.int r), τ)) (v1 : Int32) (v2 : Int32) (v3 : Int32) (σ : St) (h : rX_send v1 v2 v3 σ = some (r, τ)) : Jd X 5 0 [(0, .ref (wad (xw X) 0)), (1, .int v1), (2, .int v2), (3, .int v3)] [] σ := by
  unfold rX_send at h
  refine J_aload_n (q := 0) hX dX11_send_0 rfl rfl ?_
  refine J_iload_n (q := 1) hX dX11_send_1 rfl rfl ?_
  refine J_iload_n (q := 3) hX dX11_send_2 rfl rfl ?_
  obtain ⟨r_3, σ_1, hc_2, h⟩ := bnd2_some h
  refine K_callV [.int v1, .int v3] hX hg hR (ctX_canCarry hw hc_2) lk_X11_194_X11_canCarry md_X11_canCarry (xc_0 hw) cls_X11 ⟨by decide, by decide⟩ rfl rfl (Nat.le_of_ble_eq_true rfl) dX11_send_3 ?_
  refine K_if_eq (tgt := 43) hX dX11_send_6 rfl h (fun h => ?_) (fun h => ?_)
  · refine J_sub [] rfl ?_
    exact tX_send_43 hX hw hg hR hr σ_1 h
  · refine J_aload_n (q := 0) hX dX11_send_9 rfl rfl ?_
    refine K_getc 42 hX (xc_0 hw) cls_X11 (k := 4) (by decide) uw_3_20 rfl dX11_send_10 ?_
    refine J_iload_n (q := 2) hX dX11_send_13 rfl rfl ?_
    obtain ⟨r_6, σ_4, hc_5, h⟩ := bnd2_some h
    refine K_callV [.int v2] hX hg hR (ctX_rhas hw hc_5) lk_X11_184_X6_has md_X6_has (xc_42 hw) cls_X6 ⟨by decide, by decide⟩ rfl rfl (Nat.le_of_ble_eq_true rfl) dX11_send_14 ?_
    refine K_if_eq (tgt := 43) hX dX11_send_17 rfl h (fun h => ?_) (fun h => ?_)
    · refine J_sub [] rfl ?_
      exact tX_send_43 hX hw hg hR hr σ_4 h
    · refine J_aload_n (q := 0) hX dX11_send_20 rfl rfl ?_
      refine K_getc 33 hX (xc_0 hw) cls_X11 (k := 3) (by decide) uw_3_19 rfl dX11_send_21 ?_
      refine K_getc 35 hX (xc_33 hw) cls_X0 (k := 6) (by decide) uw_2_26 rfl dX11_send_24 ?_
      refine J_iload_n (q := 1) hX dX11_send_27 rfl rfl ?_
      refine K_iald hX (xc_35 hw) dX11_send_28 h (fun h => ?_)
      refine K_if_ne (tgt := 43) hX dX11_send_29 rfl h (fun h => ?_) (fun h => ?_)
      · refine J_sub [] rfl ?_
        exact tX_send_43 hX hw hg hR hr σ_4 h
      · refine J_iload_n (q := 3) hX dX11_send_32 rfl rfl ?_
        refine J_aload_n (q := 0) hX dX11_send_33 rfl rfl ?_
        refine K_getc 33 hX (xc_0 hw) cls_X11 (k := 3) (by decide) uw_3_19 rfl dX11_send_34 ?_
        refine K_geti hX (xc_33 hw) cls_X0 (k := 2) (by decide) uw_2_17 rfl dX11_send_37 ?_
        refine K_icmp_le (tgt := 45) hX dX11_send_40 rfl h (fun h => ?_) (fun h => ?_)
        · refine J_aload_n (q := 0) hX dX11_send_45 rfl rfl ?_
          refine K_getc 33 hX (xc_0 hw) cls_X11 (k := 3) (by decide) uw_3_19 rfl dX11_send_46 ?_
          refine K_getc 35 hX (xc_33 hw) cls_X0 (k := 6) (by decide) uw_2_26 rfl dX11_send_49 ?_
          refine J_iload_n (q := 1) hX dX11_send_52 rfl rfl ?_
          refine J_iconst (v := (1 : Int32)) hX dX11_send_53 (by decide) ?_
          refine K_iast hX (xc_35 hw) dX11_send_54 h (fun σ_7 h => ?_)
          refine J_aload_n (q := 0) hX dX11_send_55 rfl rfl ?_
          refine K_getc 33 hX (xc_0 hw) cls_X11 (k := 3) (by decide) uw_3_19 rfl dX11_send_56 ?_
          refine J_dup hX dX11_send_59 rfl ?_
          refine K_geti hX (xc_33 hw) cls_X0 (k := 2) (by decide) uw_2_17 rfl dX11_send_60 ?_
          refine J_iload_n (q := 3) hX dX11_send_63 rfl rfl ?_
          refine J_isub hX dX11_send_64 ?_
          refine K_puti hX (xc_33 hw) cls_X0 (k := 2) (by decide) uw_2_17 rfl rfl rfl dX11_send_65 h (fun σ_8 h => ?_)
          refine J_aload_n (q := 0) hX dX11_send_68 rfl rfl ?_
          refine K_getc 46 hX (xc_0 hw) cls_X11 (k := 5) (by decide) uw_3_21 rfl dX11_send_69 ?_
          refine J_iload_n (q := 1) hX dX11_send_72 rfl rfl ?_
          refine J_iload_n (q := 2) hX dX11_send_73 rfl rfl ?_
          refine J_iload_n (q := 3) hX dX11_send_74 rfl rfl ?_
          refine J_iconst (v := (1 : Int32)) hX dX11_send_75 (by decide) ?_
          obtain ⟨σ_9, hc_10, h⟩ := bnd1_some h
          refine K_callV [.int v1, .int v2, .int v3, .int (1 : Int32)] hX hg hR (ctX_goAll hw hc_10) lk_X11_197_X9_goAll md_X9_goAll (xc_46 hw) cls_X9 ⟨by decide, by decide⟩ rfl rfl (Nat.le_of_ble_eq_true rfl) dX11_send_76 ?_
          refine J_aload_n (q := 0) hX dX11_send_79 rfl rfl ?_
          refine K_getc 46 hX (xc_0 hw) cls_X11 (k := 5) (by decide) uw_3_21 rfl dX11_send_80 ?_
          refine K_geti hX (xc_46 hw) cls_X9 (k := 5) (by decide) uw_2_103 rfl dX11_send_83 ?_
          refine K_istore (fun v4_11 => [(4, .int v4_11), (0, .ref (wad (xw X) 0)), (1, .int v1), (2, .int v2), (3, .int v3)]) hX dX11_send_86 (by decide) (fun _ => rfl) h (fun v4_11 h => ?_)
          refine J_aload_n (q := 1) hX dX11_send_88 rfl rfl ?_
          refine K_getc 33 hX (xc_0 hw) cls_X11 (k := 3) (by decide) uw_3_19 rfl dX11_send_89 ?_
          refine K_getc 36 hX (xc_33 hw) cls_X0 (k := 7) (by decide) uw_2_28 rfl dX11_send_92 ?_
          refine J_iload_n (q := 2) hX dX11_send_95 rfl rfl ?_
          refine J_dup2 hX dX11_send_96 rfl rfl ?_
          refine K_iald hX (xc_36 hw) dX11_send_97 h (fun h => ?_)
          refine J_aload_n (q := 1) hX dX11_send_98 rfl rfl ?_
          refine K_getc 46 hX (xc_0 hw) cls_X11 (k := 5) (by decide) uw_3_21 rfl dX11_send_99 ?_
          obtain ⟨r_14, σ_12, hc_13, h⟩ := bnd2_some h
          refine K_callV [] hX hg hR (ctX_priceNow hw hc_13) lk_X11_215_X9_priceNow md_X9_priceNow (xc_46 hw) cls_X9 ⟨by decide, by decide⟩ rfl rfl (Nat.le_of_ble_eq_true rfl) dX11_send_102 ?_
          refine J_iload (q := 0) hX dX11_send_105 rfl ?_
          refine J_imul hX dX11_send_107 ?_
          refine J_iadd hX dX11_send_108 ?_
          refine K_iast hX (xc_36 hw) dX11_send_109 h (fun σ_15 h => ?_)
          refine J_aload_n (q := 1) hX dX11_send_110 rfl rfl ?_
          refine K_getc 33 hX (xc_0 hw) cls_X11 (k := 3) (by decide) uw_3_19 rfl dX11_send_111 ?_
          refine J_dup hX dX11_send_114 rfl ?_
          refine K_geti hX (xc_33 hw) cls_X0 (k := 0) (by decide) uw_2_12 rfl dX11_send_115 ?_
          refine J_iload (q := 0) hX dX11_send_118 rfl ?_
          refine J_iadd hX dX11_send_120 ?_
          refine K_puti hX (xc_33 hw) cls_X0 (k := 0) (by decide) uw_2_12 rfl rfl rfl dX11_send_121 h (fun σ_16 h => ?_)
          refine J_aload_n (q := 1) hX dX11_send_124 rfl rfl ?_
          refine K_getc 33 hX (xc_0 hw) cls_X11 (k := 3) (by decide) uw_3_19 rfl dX11_send_125 ?_
          refine J_dup hX dX11_send_128 rfl ?_
          refine K_geti hX (xc_33 hw) cls_X0 (k := 1) (by decide) uw_2_15 rfl dX11_send_129 ?_
          refine J_iconst (v := (1 : Int32)) hX dX11_send_132 (by decide) ?_
          refine J_iadd hX dX11_send_133 ?_
          refine K_puti hX (xc_33 hw) cls_X0 (k := 1) (by decide) uw_2_15 rfl rfl rfl dX11_send_134 h (fun σ_17 h => ?_)
          refine J_iload (q := 0) hX dX11_send_137 rfl ?_
          exact K_iret hX hr dX11_send_139 h
        · refine J_sub [] rfl ?_
          exact tX_send_43 hX hw hg hR hr σ_4 h
theorem ctX_send {w : WT} (hw : isX w) {v1 : Int32} {v2 : Int32} {v3 : Int32} {σ : St} {r : Int32} {τ : St} (h : rX_send v1 v2 v3 σ = some (r, τ)) : Ct yX11_send cX11_send 5 (some .int) 4 102 w [.ref (wad w 0), .int v1, .int v2, .int v3] σ (some (.int r)) τ 0 0 :=
  Ct_intro (fun _ => (0, 0)) (by decide) rfl ⟨rfl, Nat.le_refl _⟩ (Nat.le_of_ble_eq_true rfl) (fun X hX hR hwX hg hr => by subst hwX; exact tX_send hX hw hg hR hr v1 v2 v3 σ h)

def rX_rest (σ : St) : Option (Int32 × St) :=
  nm (σ.1 33 0) fun v1_1 => bnd1 (rX_dawn σ) fun σ_2 => some (v1_1, σ_2)
set_option maxRecDepth 100000 in
theorem tX_rest {X : CX} (hX : gd X cX11_rest 2 RX11 (some .int)) (hw : isX (xw X)) (hg : nA X) (hR : xR X = rmOf 2 47 0 0) {r : Int32} {τ : St} (hr : xr X = (some (.int r), τ)) (σ : St) (h : rX_rest σ = some (r, τ)) : Jd X 2 0 [(0, .ref (wad (xw X) 0))] [] σ := by
  unfold rX_rest at h
  refine J_aload_n (q := 0) hX dX11_rest_0 rfl rfl ?_
  refine K_getc 33 hX (xc_0 hw) cls_X11 (k := 3) (by decide) uw_3_19 rfl dX11_rest_1 ?_
  refine K_geti hX (xc_33 hw) cls_X0 (k := 0) (by decide) uw_2_12 rfl dX11_rest_4 ?_
  refine K_istore_n (fun v1_1 => [(1, .int v1_1), (0, .ref (wad (xw X) 0))]) hX dX11_rest_7 rfl (by decide) (fun _ => rfl) h (fun v1_1 h => ?_)
  refine J_aload_n (q := 1) hX dX11_rest_8 rfl rfl ?_
  refine K_getc 33 hX (xc_0 hw) cls_X11 (k := 3) (by decide) uw_3_19 rfl dX11_rest_9 ?_
  refine J_aload_n (q := 1) hX dX11_rest_12 rfl rfl ?_
  refine K_getc 23 hX (xc_0 hw) cls_X11 (k := 2) (by decide) uw_3_18 rfl dX11_rest_13 ?_
  obtain ⟨σ_2, hc_3, h⟩ := bnd1_some h
  refine K_callV [.ref (wad (xw X) 23)] hX hg hR (ctX_dawn hw hc_3) lk_X11_224_X0_dawn md_X0_dawn (xc_33 hw) cls_X0 ⟨by decide, by decide⟩ rfl rfl (Nat.le_of_ble_eq_true rfl) dX11_rest_16 ?_
  refine J_iload_n (q := 0) hX dX11_rest_19 rfl rfl ?_
  exact K_iret hX hr dX11_rest_20 h
theorem ctX_rest {w : WT} (hw : isX w) {σ : St} {r : Int32} {τ : St} (h : rX_rest σ = some (r, τ)) : Ct yX11_rest cX11_rest 2 (some .int) 2 47 w [.ref (wad w 0)] σ (some (.int r)) τ 0 0 :=
  Ct_intro (fun _ => (0, 0)) (by decide) rfl ⟨rfl, Nat.le_refl _⟩ (Nat.le_of_ble_eq_true rfl) (fun X hX hR hwX hg hr => by subst hwX; exact tX_rest hX hw hg hR hr  σ h)

def rX_seed_11 (σ : St) : Option (Int32 × St) :=
  chk (decide ((0 : Int32) = 0 ∨ (0 : Int32) = 1)) (some ((0 : Int32), σ))
set_option maxRecDepth 100000 in
theorem tX_seed_11 {X : CX} (hX : gd X cX11_seed 2 RX11 (some .boolean)) (hw : isX (xw X)) (hg : nA X) (hR : xR X = rmOf 0 0 0 0) {r : Int32} {τ : St} (hr : xr X = (some (.int r), τ)) (σ : St) (h : rX_seed_11 σ = some (r, τ)) : Jd X 2 11 [] [] σ := by
  unfold rX_seed_11 at h
  refine J_iconst (v := (0 : Int32)) hX dX11_seed_11 (by decide) ?_
  exact K_zret hX hr dX11_seed_12 h

def rX_seed (v1 : Int32) (σ : St) : Option (Int32 × St) :=
  brc (v1 < 0) (rX_seed_11 σ) (brc (v1 ≤ (9999 : Int32)) (nm (setJ σ 33 3 v1.toInt64) fun σ_1 => chk (decide ((1 : Int32) = 0 ∨ (1 : Int32) = 1)) (some ((1 : Int32), σ_1))) (rX_seed_11 σ))
set_option maxRecDepth 100000 in
theorem tX_seed {X : CX} (hX : gd X cX11_seed 2 RX11 (some .boolean)) (hw : isX (xw X)) (hg : nA X) (hR : xR X = rmOf 0 0 0 0) {r : Int32} {τ : St} (hr : xr X = (some (.int r), τ)) (v1 : Int32) (σ : St) (h : rX_seed v1 σ = some (r, τ)) : Jd X 2 0 [(0, .ref (wad (xw X) 0)), (1, .int v1)] [] σ := by
  unfold rX_seed at h
  refine J_iload_n (q := 1) hX dX11_seed_0 rfl rfl ?_
  refine K_if_lt (tgt := 11) hX dX11_seed_1 rfl h (fun h => ?_) (fun h => ?_)
  · refine J_sub [] rfl ?_
    exact tX_seed_11 hX hw hg hR hr σ h
  · refine J_iload_n (q := 1) hX dX11_seed_4 rfl rfl ?_
    refine J_sipush (v := (9999 : Int32)) hX dX11_seed_5 (by decide) ?_
    refine K_icmp_le (tgt := 13) hX dX11_seed_8 rfl h (fun h => ?_) (fun h => ?_)
    · refine J_aload_n (q := 0) hX dX11_seed_13 rfl rfl ?_
      refine K_getc 33 hX (xc_0 hw) cls_X11 (k := 3) (by decide) uw_3_19 rfl dX11_seed_14 ?_
      refine J_iload_n (q := 1) hX dX11_seed_17 rfl rfl ?_
      refine J_i2l hX dX11_seed_18 ?_
      refine K_putl hX (xc_33 hw) cls_X0 (k := 3) (by decide) uw_2_19 rfl rfl rfl dX11_seed_19 h (fun σ_1 h => ?_)
      refine J_iconst (v := (1 : Int32)) hX dX11_seed_22 (by decide) ?_
      exact K_zret hX hr dX11_seed_23 h
    · refine J_sub [] rfl ?_
      exact tX_seed_11 hX hw hg hR hr σ h
theorem ctX_seed {w : WT} (hw : isX w) {v1 : Int32} {σ : St} {r : Int32} {τ : St} (h : rX_seed v1 σ = some (r, τ)) : Ct yX11_seed cX11_seed 2 (some .boolean) 0 0 w [.ref (wad w 0), .int v1] σ (some (.int r)) τ 0 0 :=
  Ct_intro (fun _ => (0, 0)) (by decide) rfl ⟨rfl, Nat.le_refl _⟩ (Nat.le_of_ble_eq_true rfl) (fun X hX hR hwX hg hr => by subst hwX; exact tX_seed hX hw hg hR hr v1 σ h)

def rX_drank_15 (σ : St) : Option (Int32 × St) :=
  some ((-1 : Int32), σ)
set_option maxRecDepth 100000 in
theorem tX_drank_15 {X : CX} (hX : gd X cX11_drank 3 RX11 (some .int)) (hw : isX (xw X)) (hg : nA X) (hR : xR X = rmOf 0 0 0 0) {r : Int32} {τ : St} (hr : xr X = (some (.int r), τ)) (σ : St) (h : rX_drank_15 σ = some (r, τ)) : Jd X 3 15 [] [] σ := by
  unfold rX_drank_15 at h
  refine J_iconst (v := (-1 : Int32)) hX dX11_drank_15 (by decide) ?_
  exact K_iret hX hr dX11_drank_16 h

def rX_drank (v1 : Int32) (v2 : Int32) (σ : St) : Option (Int32 × St) :=
  brc (v1 < 0) (rX_drank_15 σ) (brc (v1 < (σ.1 33 4)) (brc ((v2).toInt = 0) (chk (ib v1 60) (some (σ.1 39 v1.toNatClampNeg, σ))) (brc ((v2).toInt = 1) (chk (ib v1 60) (some (σ.1 40 v1.toNatClampNeg, σ))) (brc ((v2).toInt = 2) (chk (ib v1 60) (some (σ.1 41 v1.toNatClampNeg, σ))) (some ((-1 : Int32), σ))))) (rX_drank_15 σ))
set_option maxRecDepth 100000 in
theorem tX_drank {X : CX} (hX : gd X cX11_drank 3 RX11 (some .int)) (hw : isX (xw X)) (hg : nA X) (hR : xR X = rmOf 0 0 0 0) {r : Int32} {τ : St} (hr : xr X = (some (.int r), τ)) (v1 : Int32) (v2 : Int32) (σ : St) (h : rX_drank v1 v2 σ = some (r, τ)) : Jd X 3 0 [(0, .ref (wad (xw X) 0)), (1, .int v1), (2, .int v2)] [] σ := by
  unfold rX_drank at h
  refine J_iload_n (q := 1) hX dX11_drank_0 rfl rfl ?_
  refine K_if_lt (tgt := 15) hX dX11_drank_1 rfl h (fun h => ?_) (fun h => ?_)
  · refine J_sub [] rfl ?_
    exact tX_drank_15 hX hw hg hR hr σ h
  · refine J_iload_n (q := 1) hX dX11_drank_4 rfl rfl ?_
    refine J_aload_n (q := 0) hX dX11_drank_5 rfl rfl ?_
    refine K_getc 33 hX (xc_0 hw) cls_X11 (k := 3) (by decide) uw_3_19 rfl dX11_drank_6 ?_
    refine K_geti hX (xc_33 hw) cls_X0 (k := 4) (by decide) uw_2_21 rfl dX11_drank_9 ?_
    refine K_icmp_lt (tgt := 17) hX dX11_drank_12 rfl h (fun h => ?_) (fun h => ?_)
    · refine J_iload_n (q := 2) hX dX11_drank_17 rfl rfl ?_
      rcases brc_some h with ⟨hc, h⟩ | ⟨hn_1, h⟩
      · refine K_tabIn (v := 0) (tgt := 44) hX dX11_drank_18 hc (by decide) (by decide) rfl rfl ?_
        refine J_aload_n (q := 0) hX dX11_drank_44 rfl rfl ?_
        refine K_getc 33 hX (xc_0 hw) cls_X11 (k := 3) (by decide) uw_3_19 rfl dX11_drank_45 ?_
        refine K_getc 39 hX (xc_33 hw) cls_X0 (k := 10) (by decide) uw_2_35 rfl dX11_drank_48 ?_
        refine J_iload_n (q := 1) hX dX11_drank_51 rfl rfl ?_
        refine K_iald hX (xc_39 hw) dX11_drank_52 h (fun h => ?_)
        exact K_iret hX hr dX11_drank_53 h
      rcases brc_some h with ⟨hc, h⟩ | ⟨hn_2, h⟩
      · refine K_tabIn (v := 1) (tgt := 54) hX dX11_drank_18 hc (by decide) (by decide) rfl rfl ?_
        refine J_aload_n (q := 0) hX dX11_drank_54 rfl rfl ?_
        refine K_getc 33 hX (xc_0 hw) cls_X11 (k := 3) (by decide) uw_3_19 rfl dX11_drank_55 ?_
        refine K_getc 40 hX (xc_33 hw) cls_X0 (k := 11) (by decide) uw_2_37 rfl dX11_drank_58 ?_
        refine J_iload_n (q := 1) hX dX11_drank_61 rfl rfl ?_
        refine K_iald hX (xc_40 hw) dX11_drank_62 h (fun h => ?_)
        exact K_iret hX hr dX11_drank_63 h
      rcases brc_some h with ⟨hc, h⟩ | ⟨hn_3, h⟩
      · refine K_tabIn (v := 2) (tgt := 64) hX dX11_drank_18 hc (by decide) (by decide) rfl rfl ?_
        refine J_aload_n (q := 0) hX dX11_drank_64 rfl rfl ?_
        refine K_getc 33 hX (xc_0 hw) cls_X11 (k := 3) (by decide) uw_3_19 rfl dX11_drank_65 ?_
        refine K_getc 41 hX (xc_33 hw) cls_X0 (k := 12) (by decide) uw_2_39 rfl dX11_drank_68 ?_
        refine J_iload_n (q := 1) hX dX11_drank_71 rfl rfl ?_
        refine K_iald hX (xc_41 hw) dX11_drank_72 h (fun h => ?_)
        exact K_iret hX hr dX11_drank_73 h
      refine K_tabOut (tgt := 74) hX dX11_drank_18 (by omega) rfl ?_
      refine J_iconst (v := (-1 : Int32)) hX dX11_drank_74 (by decide) ?_
      exact K_iret hX hr dX11_drank_75 h
    · refine J_sub [] rfl ?_
      exact tX_drank_15 hX hw hg hR hr σ h
theorem ctX_drank {w : WT} (hw : isX w) {v1 : Int32} {v2 : Int32} {σ : St} {r : Int32} {τ : St} (h : rX_drank v1 v2 σ = some (r, τ)) : Ct yX11_drank cX11_drank 3 (some .int) 0 0 w [.ref (wad w 0), .int v1, .int v2] σ (some (.int r)) τ 0 0 :=
  Ct_intro (fun _ => (0, 0)) (by decide) rfl ⟨rfl, Nat.le_refl _⟩ (Nat.le_of_ble_eq_true rfl) (fun X hX hR hwX hg hr => by subst hwX; exact tX_drank hX hw hg hR hr v1 v2 σ h)

def rX_best_18 (σ : St) : Option (Int32 × St) :=
  some ((-1 : Int32), σ)
set_option maxRecDepth 100000 in
theorem tX_best_18 {X : CX} (hX : gd X cX11_best 4 RX11 (some .int)) (hw : isX (xw X)) (hg : nA X) (hR : xR X = rmOf 5 125 0 0) {r : Int32} {τ : St} (hr : xr X = (some (.int r), τ)) (σ : St) (h : rX_best_18 σ = some (r, τ)) : Jd X 4 18 [] [] σ := by
  unfold rX_best_18 at h
  refine J_iconst (v := (-1 : Int32)) hX dX11_best_18 (by decide) ?_
  exact K_iret hX hr dX11_best_19 h

def rX_best_50 (s0 : Int32) (σ : St) : Option (Int32 × St) :=
  some (s0, σ)
set_option maxRecDepth 100000 in
theorem tX_best_50 {X : CX} (hX : gd X cX11_best 4 RX11 (some .int)) (hw : isX (xw X)) (hg : nA X) (hR : xR X = rmOf 5 125 0 0) {r : Int32} {τ : St} (hr : xr X = (some (.int r), τ)) (s0 : Int32) (σ : St) (h : rX_best_50 s0 σ = some (r, τ)) : Jd X 4 50 [] [.int s0] σ := by
  unfold rX_best_50 at h
  exact K_iret hX hr dX11_best_50 h

def rX_best (v1 : Int32) (v2 : Int32) (v3 : Int32) (σ : St) : Option (Int32 × St) :=
  bnd2 (rX_canCarry v1 v2 σ) fun r_3 σ_1 => brc (r_3 = 0) (rX_best_18 σ_1) (brc (v3 < 0) (rX_best_18 σ_1) (brc (v3 ≤ (1 : Int32)) (bnd1 (rX_pfindBest v1 v2 σ_1) fun σ_4 => brc (¬ v3 = 0) (rX_best_50 (σ_4.1 49 10) σ_4) (rX_best_50 (σ_4.1 49 9) σ_4)) (rX_best_18 σ_1)))
set_option maxRecDepth 100000 in
theorem tX_best {X : CX} (hX : gd X cX11_best 4 RX11 (some .int)) (hw : isX (xw X)) (hg : nA X) (hR : xR X = rmOf 5 125 0 0) {r : Int32} {τ : St} (hr : xr X = (some (.int r), τ)) (v1 : Int32) (v2 : Int32) (v3 : Int32) (σ : St) (h : rX_best v1 v2 v3 σ = some (r, τ)) : Jd X 4 0 [(0, .ref (wad (xw X) 0)), (1, .int v1), (2, .int v2), (3, .int v3)] [] σ := by
  unfold rX_best at h
  refine J_aload_n (q := 0) hX dX11_best_0 rfl rfl ?_
  refine J_iload_n (q := 1) hX dX11_best_1 rfl rfl ?_
  refine J_iload_n (q := 2) hX dX11_best_2 rfl rfl ?_
  obtain ⟨r_3, σ_1, hc_2, h⟩ := bnd2_some h
  refine K_callV [.int v1, .int v2] hX hg hR (ctX_canCarry hw hc_2) lk_X11_194_X11_canCarry md_X11_canCarry (xc_0 hw) cls_X11 ⟨by decide, by decide⟩ rfl rfl (Nat.le_of_ble_eq_true rfl) dX11_best_3 ?_
  refine K_if_eq (tgt := 18) hX dX11_best_6 rfl h (fun h => ?_) (fun h => ?_)
  · refine J_sub [] rfl ?_
    exact tX_best_18 hX hw hg hR hr σ_1 h
  · refine J_iload_n (q := 3) hX dX11_best_9 rfl rfl ?_
    refine K_if_lt (tgt := 18) hX dX11_best_10 rfl h (fun h => ?_) (fun h => ?_)
    · refine J_sub [] rfl ?_
      exact tX_best_18 hX hw hg hR hr σ_1 h
    · refine J_iload_n (q := 3) hX dX11_best_13 rfl rfl ?_
      refine J_iconst (v := (1 : Int32)) hX dX11_best_14 (by decide) ?_
      refine K_icmp_le (tgt := 20) hX dX11_best_15 rfl h (fun h => ?_) (fun h => ?_)
      · refine J_aload_n (q := 0) hX dX11_best_20 rfl rfl ?_
        refine K_getc 49 hX (xc_0 hw) cls_X11 (k := 6) (by decide) uw_3_22 rfl dX11_best_21 ?_
        refine J_iload_n (q := 1) hX dX11_best_24 rfl rfl ?_
        refine J_iload_n (q := 2) hX dX11_best_25 rfl rfl ?_
        obtain ⟨σ_4, hc_5, h⟩ := bnd1_some h
        refine K_callV [.int v1, .int v2] hX hg hR (ctX_pfindBest hw hc_5) lk_X11_243_X4_findBest md_X4_findBest (xc_49 hw) cls_X4 ⟨by decide, by decide⟩ rfl rfl (Nat.le_of_ble_eq_true rfl) dX11_best_26 ?_
        refine J_iload_n (q := 3) hX dX11_best_29 rfl rfl ?_
        refine K_if_ne (tgt := 43) hX dX11_best_30 rfl h (fun h => ?_) (fun h => ?_)
        · refine J_aload_n (q := 0) hX dX11_best_43 rfl rfl ?_
          refine K_getc 49 hX (xc_0 hw) cls_X11 (k := 6) (by decide) uw_3_22 rfl dX11_best_44 ?_
          refine K_geti hX (xc_49 hw) cls_X4 (k := 10) (by decide) uw_2_153 rfl dX11_best_47 ?_
          refine J_sub [] rfl ?_
          exact tX_best_50 hX hw hg hR hr (σ_4.1 49 10) σ_4 h
        · refine J_aload_n (q := 0) hX dX11_best_33 rfl rfl ?_
          refine K_getc 49 hX (xc_0 hw) cls_X11 (k := 6) (by decide) uw_3_22 rfl dX11_best_34 ?_
          refine K_geti hX (xc_49 hw) cls_X4 (k := 9) (by decide) uw_2_151 rfl dX11_best_37 ?_
          refine J_goto (tgt := 50) hX dX11_best_40 rfl ?_
          refine J_sub [] rfl ?_
          exact tX_best_50 hX hw hg hR hr (σ_4.1 49 9) σ_4 h
      · refine J_sub [] rfl ?_
        exact tX_best_18 hX hw hg hR hr σ_1 h
theorem ctX_best {w : WT} (hw : isX w) {v1 : Int32} {v2 : Int32} {v3 : Int32} {σ : St} {r : Int32} {τ : St} (h : rX_best v1 v2 v3 σ = some (r, τ)) : Ct yX11_best cX11_best 4 (some .int) 5 125 w [.ref (wad w 0), .int v1, .int v2, .int v3] σ (some (.int r)) τ 0 0 :=
  Ct_intro (fun _ => (0, 0)) (by decide) rfl ⟨rfl, Nat.le_refl _⟩ (Nat.le_of_ble_eq_true rfl) (fun X hX hR hwX hg hr => by subst hwX; exact tX_best hX hw hg hR hr v1 v2 v3 σ h)

def rX_plan_18 (σ : St) : Option (Int32 × St) :=
  some ((-2 : Int32), σ)
set_option maxRecDepth 100000 in
theorem tX_plan_18 {X : CX} (hX : gd X cX11_plan 2 RX11 (some .int)) (hw : isX (xw X)) (hg : nA X) (hR : xR X = rmOf 7 169 0 0) {r : Int32} {τ : St} (hr : xr X = (some (.int r), τ)) (σ : St) (h : rX_plan_18 σ = some (r, τ)) : Jd X 2 18 [] [] σ := by
  unfold rX_plan_18 at h
  refine J_bipush (v := (-2 : Int32)) hX dX11_plan_18 (by decide) ?_
  exact K_iret hX hr dX11_plan_20 h

def rX_plan_72 (s0 : Int32) (σ : St) : Option (Int32 × St) :=
  some (s0, σ)
set_option maxRecDepth 100000 in
theorem tX_plan_72 {X : CX} (hX : gd X cX11_plan 2 RX11 (some .int)) (hw : isX (xw X)) (hg : nA X) (hR : xR X = rmOf 7 169 0 0) {r : Int32} {τ : St} (hr : xr X = (some (.int r), τ)) (s0 : Int32) (σ : St) (h : rX_plan_72 s0 σ = some (r, τ)) : Jd X 2 72 [] [.int s0] σ := by
  unfold rX_plan_72 at h
  exact K_iret hX hr dX11_plan_72 h

def rX_plan (v1 : Int32) (σ : St) : Option (Int32 × St) :=
  brc (v1 < (-1 : Int32)) (rX_plan_18 σ) (brc (v1 < ((2 : Int32) * (σ.1 23 2))) (bnd1 (rX_pmakeSure σ) fun σ_1 => brc (¬ v1 = (-1 : Int32)) (chk (decide (¬ (2 : Int32) = 0)) (brc (¬ (v1 - v1 / (2 : Int32) * (2 : Int32)) = 0) (chk (decide (¬ (2 : Int32) = 0)) (chk (ib (v1 / (2 : Int32)) 6) (rX_plan_72 (σ_1.1 53 (v1 / (2 : Int32)).toNatClampNeg) σ_1))) (chk (decide (¬ (2 : Int32) = 0)) (chk (ib (v1 / (2 : Int32)) 6) (rX_plan_72 (σ_1.1 52 (v1 / (2 : Int32)).toNatClampNeg) σ_1))))) (some (σ_1.1 49 7, σ_1))) (rX_plan_18 σ))
set_option maxRecDepth 100000 in
theorem tX_plan {X : CX} (hX : gd X cX11_plan 2 RX11 (some .int)) (hw : isX (xw X)) (hg : nA X) (hR : xR X = rmOf 7 169 0 0) {r : Int32} {τ : St} (hr : xr X = (some (.int r), τ)) (v1 : Int32) (σ : St) (h : rX_plan v1 σ = some (r, τ)) : Jd X 2 0 [(0, .ref (wad (xw X) 0)), (1, .int v1)] [] σ := by
  unfold rX_plan at h
  refine J_iload_n (q := 1) hX dX11_plan_0 rfl rfl ?_
  refine J_iconst (v := (-1 : Int32)) hX dX11_plan_1 (by decide) ?_
  refine K_icmp_lt (tgt := 18) hX dX11_plan_2 rfl h (fun h => ?_) (fun h => ?_)
  · refine J_sub [] rfl ?_
    exact tX_plan_18 hX hw hg hR hr σ h
  · refine J_iload_n (q := 1) hX dX11_plan_5 rfl rfl ?_
    refine J_iconst (v := (2 : Int32)) hX dX11_plan_6 (by decide) ?_
    refine J_aload_n (q := 0) hX dX11_plan_7 rfl rfl ?_
    refine K_getc 23 hX (xc_0 hw) cls_X11 (k := 2) (by decide) uw_3_18 rfl dX11_plan_8 ?_
    refine K_geti hX (xc_23 hw) cls_X3 (k := 2) (by decide) uw_1_100 rfl dX11_plan_11 ?_
    refine J_imul hX dX11_plan_14 ?_
    refine K_icmp_lt (tgt := 21) hX dX11_plan_15 rfl h (fun h => ?_) (fun h => ?_)
    · refine J_aload_n (q := 0) hX dX11_plan_21 rfl rfl ?_
      refine K_getc 49 hX (xc_0 hw) cls_X11 (k := 6) (by decide) uw_3_22 rfl dX11_plan_22 ?_
      obtain ⟨σ_1, hc_2, h⟩ := bnd1_some h
      refine K_callV [] hX hg hR (ctX_pmakeSure hw hc_2) lk_X11_256_X4_makeSure md_X4_makeSure (xc_49 hw) cls_X4 ⟨by decide, by decide⟩ rfl rfl (Nat.le_of_ble_eq_true rfl) dX11_plan_25 ?_
      refine J_iload_n (q := 1) hX dX11_plan_28 rfl rfl ?_
      refine J_iconst (v := (-1 : Int32)) hX dX11_plan_29 (by decide) ?_
      refine K_icmp_ne (tgt := 41) hX dX11_plan_30 rfl h (fun h => ?_) (fun h => ?_)
      · refine J_iload_n (q := 1) hX dX11_plan_41 rfl rfl ?_
        refine J_iconst (v := (2 : Int32)) hX dX11_plan_42 (by decide) ?_
        refine K_irem hX dX11_plan_43 h (fun h => ?_)
        refine K_if_ne (tgt := 61) hX dX11_plan_44 rfl h (fun h => ?_) (fun h => ?_)
        · refine J_aload_n (q := 0) hX dX11_plan_61 rfl rfl ?_
          refine K_getc 49 hX (xc_0 hw) cls_X11 (k := 6) (by decide) uw_3_22 rfl dX11_plan_62 ?_
          refine K_getc 53 hX (xc_49 hw) cls_X4 (k := 6) (by decide) uw_2_145 rfl dX11_plan_65 ?_
          refine J_iload_n (q := 1) hX dX11_plan_68 rfl rfl ?_
          refine J_iconst (v := (2 : Int32)) hX dX11_plan_69 (by decide) ?_
          refine K_idiv hX dX11_plan_70 h (fun h => ?_)
          refine K_iald hX (xc_53 hw) dX11_plan_71 h (fun h => ?_)
          refine J_sub [] rfl ?_
          exact tX_plan_72 hX hw hg hR hr (σ_1.1 53 (v1 / (2 : Int32)).toNatClampNeg) σ_1 h
        · refine J_aload_n (q := 0) hX dX11_plan_47 rfl rfl ?_
          refine K_getc 49 hX (xc_0 hw) cls_X11 (k := 6) (by decide) uw_3_22 rfl dX11_plan_48 ?_
          refine K_getc 52 hX (xc_49 hw) cls_X4 (k := 5) (by decide) uw_2_143 rfl dX11_plan_51 ?_
          refine J_iload_n (q := 1) hX dX11_plan_54 rfl rfl ?_
          refine J_iconst (v := (2 : Int32)) hX dX11_plan_55 (by decide) ?_
          refine K_idiv hX dX11_plan_56 h (fun h => ?_)
          refine K_iald hX (xc_52 hw) dX11_plan_57 h (fun h => ?_)
          refine J_goto (tgt := 72) hX dX11_plan_58 rfl ?_
          refine J_sub [] rfl ?_
          exact tX_plan_72 hX hw hg hR hr (σ_1.1 52 (v1 / (2 : Int32)).toNatClampNeg) σ_1 h
      · refine J_aload_n (q := 0) hX dX11_plan_33 rfl rfl ?_
        refine K_getc 49 hX (xc_0 hw) cls_X11 (k := 6) (by decide) uw_3_22 rfl dX11_plan_34 ?_
        refine K_geti hX (xc_49 hw) cls_X4 (k := 7) (by decide) uw_2_147 rfl dX11_plan_37 ?_
        exact K_iret hX hr dX11_plan_40 h
    · refine J_sub [] rfl ?_
      exact tX_plan_18 hX hw hg hR hr σ h
theorem ctX_plan {w : WT} (hw : isX w) {v1 : Int32} {σ : St} {r : Int32} {τ : St} (h : rX_plan v1 σ = some (r, τ)) : Ct yX11_plan cX11_plan 2 (some .int) 7 169 w [.ref (wad w 0), .int v1] σ (some (.int r)) τ 0 0 :=
  Ct_intro (fun _ => (0, 0)) (by decide) rfl ⟨rfl, Nat.le_refl _⟩ (Nat.le_of_ble_eq_true rfl) (fun X hX hR hwX hg hr => by subst hwX; exact tX_plan hX hw hg hR hr v1 σ h)

def rX_relay_36 (σ : St) : Option (Int32 × St) :=
  some ((-1 : Int32), σ)
set_option maxRecDepth 100000 in
theorem tX_relay_36 {X : CX} (hX : gd X cX11_relay 3 RX11 (some .int)) (hw : isX (xw X)) (hg : nA X) (hR : xR X = rmOf 29 717 0 0) {r : Int32} {τ : St} (hr : xr X = (some (.int r), τ)) (σ : St) (h : rX_relay_36 σ = some (r, τ)) : Jd X 3 36 [] [] σ := by
  unfold rX_relay_36 at h
  refine J_iconst (v := (-1 : Int32)) hX dX11_relay_36 (by decide) ?_
  exact K_iret hX hr dX11_relay_37 h

def rX_relay (v1 : Int32) (v2 : Int32) (σ : St) : Option (Int32 × St) :=
  brc (v1 < 0) (rX_relay_36 σ) (brc ((60 : Int32) < v1) (rX_relay_36 σ) (brc (v2 < 0) (rX_relay_36 σ) (brc ((σ.1 23 0) < (2 : Int32)) (rX_relay_36 σ) (brc ((σ.1 23 2) ≤ (4 : Int32)) (bnd1 (rX_hmakeSure v1 σ) fun σ_1 => brc ((v2).toInt = 0) (some (σ_1.1 54 8, σ_1)) (brc ((v2).toInt = 1) (some (σ_1.1 54 7, σ_1)) (bnd2 (rX_holderOn (v2 - (2 : Int32)) σ_1) fun r_7 σ_5 => some (r_7, σ_5)))) (rX_relay_36 σ)))))
set_option maxRecDepth 100000 in
theorem tX_relay {X : CX} (hX : gd X cX11_relay 3 RX11 (some .int)) (hw : isX (xw X)) (hg : nA X) (hR : xR X = rmOf 29 717 0 0) {r : Int32} {τ : St} (hr : xr X = (some (.int r), τ)) (v1 : Int32) (v2 : Int32) (σ : St) (h : rX_relay v1 v2 σ = some (r, τ)) : Jd X 3 0 [(0, .ref (wad (xw X) 0)), (1, .int v1), (2, .int v2)] [] σ := by
  unfold rX_relay at h
  refine J_iload_n (q := 1) hX dX11_relay_0 rfl rfl ?_
  refine K_if_lt (tgt := 36) hX dX11_relay_1 rfl h (fun h => ?_) (fun h => ?_)
  · refine J_sub [] rfl ?_
    exact tX_relay_36 hX hw hg hR hr σ h
  · refine J_iload_n (q := 1) hX dX11_relay_4 rfl rfl ?_
    refine J_bipush (v := (60 : Int32)) hX dX11_relay_5 (by decide) ?_
    refine K_icmp_gt (tgt := 36) hX dX11_relay_7 rfl h (fun h => ?_) (fun h => ?_)
    · refine J_sub [] rfl ?_
      exact tX_relay_36 hX hw hg hR hr σ h
    · refine J_iload_n (q := 2) hX dX11_relay_10 rfl rfl ?_
      refine K_if_lt (tgt := 36) hX dX11_relay_11 rfl h (fun h => ?_) (fun h => ?_)
      · refine J_sub [] rfl ?_
        exact tX_relay_36 hX hw hg hR hr σ h
      · refine J_aload_n (q := 0) hX dX11_relay_14 rfl rfl ?_
        refine K_getc 23 hX (xc_0 hw) cls_X11 (k := 2) (by decide) uw_3_18 rfl dX11_relay_15 ?_
        refine K_geti hX (xc_23 hw) cls_X3 (k := 0) (by decide) uw_1_91 rfl dX11_relay_18 ?_
        refine J_iconst (v := (2 : Int32)) hX dX11_relay_21 (by decide) ?_
        refine K_icmp_lt (tgt := 36) hX dX11_relay_22 rfl h (fun h => ?_) (fun h => ?_)
        · refine J_sub [] rfl ?_
          exact tX_relay_36 hX hw hg hR hr σ h
        · refine J_aload_n (q := 0) hX dX11_relay_25 rfl rfl ?_
          refine K_getc 23 hX (xc_0 hw) cls_X11 (k := 2) (by decide) uw_3_18 rfl dX11_relay_26 ?_
          refine K_geti hX (xc_23 hw) cls_X3 (k := 2) (by decide) uw_1_100 rfl dX11_relay_29 ?_
          refine J_iconst (v := (4 : Int32)) hX dX11_relay_32 (by decide) ?_
          refine K_icmp_le (tgt := 38) hX dX11_relay_33 rfl h (fun h => ?_) (fun h => ?_)
          · refine J_aload_n (q := 0) hX dX11_relay_38 rfl rfl ?_
            refine K_getc 54 hX (xc_0 hw) cls_X11 (k := 7) (by decide) uw_3_23 rfl dX11_relay_39 ?_
            refine J_iload_n (q := 1) hX dX11_relay_42 rfl rfl ?_
            obtain ⟨σ_1, hc_2, h⟩ := bnd1_some h
            refine K_callV [.int v1] hX hg hR (ctX_hmakeSure hw hc_2) lk_X11_271_X1_makeSure md_X1_makeSure (xc_54 hw) cls_X1 ⟨by decide, by decide⟩ rfl rfl (Nat.le_of_ble_eq_true rfl) dX11_relay_43 ?_
            refine J_iload_n (q := 2) hX dX11_relay_46 rfl rfl ?_
            rcases brc_some h with ⟨hc, h⟩ | ⟨hn_3, h⟩
            · refine K_look (off := 25) (tgt := 72) hX dX11_relay_47 (by decide) (by rw [hc]; rfl) rfl ?_
              refine J_aload_n (q := 0) hX dX11_relay_72 rfl rfl ?_
              refine K_getc 54 hX (xc_0 hw) cls_X11 (k := 7) (by decide) uw_3_23 rfl dX11_relay_73 ?_
              refine K_geti hX (xc_54 hw) cls_X1 (k := 8) (by decide) uw_2_193 rfl dX11_relay_76 ?_
              exact K_iret hX hr dX11_relay_79 h
            rcases brc_some h with ⟨hc, h⟩ | ⟨hn_4, h⟩
            · refine K_look (off := 33) (tgt := 80) hX dX11_relay_47 (by decide) (by rw [hc]; rfl) rfl ?_
              refine J_aload_n (q := 0) hX dX11_relay_80 rfl rfl ?_
              refine K_getc 54 hX (xc_0 hw) cls_X11 (k := 7) (by decide) uw_3_23 rfl dX11_relay_81 ?_
              refine K_geti hX (xc_54 hw) cls_X1 (k := 7) (by decide) uw_2_191 rfl dX11_relay_84 ?_
              exact K_iret hX hr dX11_relay_87 h
            refine K_look (off := 41) (tgt := 88) hX dX11_relay_47 (by decide) (by simp [Op.lookupswitch.offset, Ne.symm hn_3, Ne.symm hn_4]) rfl ?_
            refine J_aload_n (q := 0) hX dX11_relay_88 rfl rfl ?_
            refine K_getc 54 hX (xc_0 hw) cls_X11 (k := 7) (by decide) uw_3_23 rfl dX11_relay_89 ?_
            refine J_iload_n (q := 2) hX dX11_relay_92 rfl rfl ?_
            refine J_iconst (v := (2 : Int32)) hX dX11_relay_93 (by decide) ?_
            refine J_isub hX dX11_relay_94 ?_
            obtain ⟨r_7, σ_5, hc_6, h⟩ := bnd2_some h
            refine K_callV [.int (v2 - (2 : Int32))] hX hg hR (ctX_holderOn hw hc_6) lk_X11_278_X1_holderOn md_X1_holderOn (xc_54 hw) cls_X1 ⟨by decide, by decide⟩ rfl rfl (Nat.le_of_ble_eq_true rfl) dX11_relay_95 ?_
            exact K_iret hX hr dX11_relay_98 h
          · refine J_sub [] rfl ?_
            exact tX_relay_36 hX hw hg hR hr σ h
theorem ctX_relay {w : WT} (hw : isX w) {v1 : Int32} {v2 : Int32} {σ : St} {r : Int32} {τ : St} (h : rX_relay v1 v2 σ = some (r, τ)) : Ct yX11_relay cX11_relay 3 (some .int) 29 717 w [.ref (wad w 0), .int v1, .int v2] σ (some (.int r)) τ 0 0 :=
  Ct_intro (fun _ => (0, 0)) (by decide) rfl ⟨rfl, Nat.le_refl _⟩ (Nat.le_of_ble_eq_true rfl) (fun X hX hR hwX hg hr => by subst hwX; exact tX_relay hX hw hg hR hr v1 v2 σ h)

def rX_owe_19 (σ : St) : Option (Int32 × St) :=
  chk (decide ((0 : Int32) = 0 ∨ (0 : Int32) = 1)) (some ((0 : Int32), σ))
set_option maxRecDepth 100000 in
theorem tX_owe_19 {X : CX} (hX : gd X cX11_owe 5 RX11 (some .boolean)) (hw : isX (xw X)) (hg : nA X) (hR : xR X = rmOf 2 48 0 0) {r : Int32} {τ : St} (hr : xr X = (some (.int r), τ)) (σ : St) (h : rX_owe_19 σ = some (r, τ)) : Jd X 5 19 [] [] σ := by
  unfold rX_owe_19 at h
  refine J_iconst (v := (0 : Int32)) hX dX11_owe_19 (by decide) ?_
  exact K_zret hX hr dX11_owe_20 h

def rX_owe (v1 : Int32) (v2 : Int32) (v3 : Int32) (σ : St) : Option (Int32 × St) :=
  bnd2 (rX_isPair v1 v2 σ) fun r_3 σ_1 => brc (r_3 = 0) (rX_owe_19 σ_1) (brc (v3 < 0) (rX_owe_19 σ_1) (brc (v3 ≤ (99 : Int32)) (nm ((v1 * (6 : Int32)) + v2) fun v4_4 => chk (ib v4_4 36) (brc (¬ (σ_1.1 38 v4_4.toNatClampNeg) = v3) (chk (ib v4_4 36) (bnd1 (rX_keepForUndo v4_4 (σ_1.1 38 v4_4.toNatClampNeg) σ_1) fun σ_5 => chk (ib v4_4 36) (nm (setI σ_5 38 v4_4.toNatClampNeg v3) fun σ_7 => bnd1 (rX_forgetAnswers σ_7) fun σ_8 => chk (decide ((1 : Int32) = 0 ∨ (1 : Int32) = 1)) (some ((1 : Int32), σ_8))))) (chk (decide ((0 : Int32) = 0 ∨ (0 : Int32) = 1)) (some ((0 : Int32), σ_1))))) (rX_owe_19 σ_1)))
set_option maxRecDepth 100000 in
theorem tX_owe {X : CX} (hX : gd X cX11_owe 5 RX11 (some .boolean)) (hw : isX (xw X)) (hg : nA X) (hR : xR X = rmOf 2 48 0 0) {r : Int32} {τ : St} (hr : xr X = (some (.int r), τ)) (v1 : Int32) (v2 : Int32) (v3 : Int32) (σ : St) (h : rX_owe v1 v2 v3 σ = some (r, τ)) : Jd X 5 0 [(0, .ref (wad (xw X) 0)), (1, .int v1), (2, .int v2), (3, .int v3)] [] σ := by
  unfold rX_owe at h
  refine J_aload_n (q := 0) hX dX11_owe_0 rfl rfl ?_
  refine J_iload_n (q := 1) hX dX11_owe_1 rfl rfl ?_
  refine J_iload_n (q := 2) hX dX11_owe_2 rfl rfl ?_
  obtain ⟨r_3, σ_1, hc_2, h⟩ := bnd2_some h
  refine K_callV [.int v1, .int v2] hX hg hR (ctX_isPair hw hc_2) lk_X11_281_X11_isPair md_X11_isPair (xc_0 hw) cls_X11 ⟨by decide, by decide⟩ rfl rfl (Nat.le_of_ble_eq_true rfl) dX11_owe_3 ?_
  refine K_if_eq (tgt := 19) hX dX11_owe_6 rfl h (fun h => ?_) (fun h => ?_)
  · refine J_sub [] rfl ?_
    exact tX_owe_19 hX hw hg hR hr σ_1 h
  · refine J_iload_n (q := 3) hX dX11_owe_9 rfl rfl ?_
    refine K_if_lt (tgt := 19) hX dX11_owe_10 rfl h (fun h => ?_) (fun h => ?_)
    · refine J_sub [] rfl ?_
      exact tX_owe_19 hX hw hg hR hr σ_1 h
    · refine J_iload_n (q := 3) hX dX11_owe_13 rfl rfl ?_
      refine J_bipush (v := (99 : Int32)) hX dX11_owe_14 (by decide) ?_
      refine K_icmp_le (tgt := 21) hX dX11_owe_16 rfl h (fun h => ?_) (fun h => ?_)
      · refine J_iload_n (q := 1) hX dX11_owe_21 rfl rfl ?_
        refine J_bipush (v := (6 : Int32)) hX dX11_owe_22 (by decide) ?_
        refine J_imul hX dX11_owe_24 ?_
        refine J_iload_n (q := 2) hX dX11_owe_25 rfl rfl ?_
        refine J_iadd hX dX11_owe_26 ?_
        refine K_istore (fun v4_4 => [(4, .int v4_4), (0, .ref (wad (xw X) 0)), (1, .int v1), (2, .int v2), (3, .int v3)]) hX dX11_owe_27 (by decide) (fun _ => rfl) h (fun v4_4 h => ?_)
        refine J_aload_n (q := 1) hX dX11_owe_29 rfl rfl ?_
        refine K_getc 33 hX (xc_0 hw) cls_X11 (k := 3) (by decide) uw_3_19 rfl dX11_owe_30 ?_
        refine K_getc 38 hX (xc_33 hw) cls_X0 (k := 9) (by decide) uw_2_33 rfl dX11_owe_33 ?_
        refine J_iload (q := 0) hX dX11_owe_36 rfl ?_
        refine K_iald hX (xc_38 hw) dX11_owe_38 h (fun h => ?_)
        refine J_iload_n (q := 4) hX dX11_owe_39 rfl rfl ?_
        refine K_icmp_ne (tgt := 45) hX dX11_owe_40 rfl h (fun h => ?_) (fun h => ?_)
        · refine J_aload_n (q := 1) hX dX11_owe_45 rfl rfl ?_
          refine J_iload (q := 0) hX dX11_owe_46 rfl ?_
          refine J_aload_n (q := 1) hX dX11_owe_48 rfl rfl ?_
          refine K_getc 33 hX (xc_0 hw) cls_X11 (k := 3) (by decide) uw_3_19 rfl dX11_owe_49 ?_
          refine K_getc 38 hX (xc_33 hw) cls_X0 (k := 9) (by decide) uw_2_33 rfl dX11_owe_52 ?_
          refine J_iload (q := 0) hX dX11_owe_55 rfl ?_
          refine K_iald hX (xc_38 hw) dX11_owe_57 h (fun h => ?_)
          obtain ⟨σ_5, hc_6, h⟩ := bnd1_some h
          refine K_callV [.int v4_4, .int (σ_1.1 38 v4_4.toNatClampNeg)] hX hg hR (ctX_keepForUndo hw hc_6) lk_X11_287_X11_keepForUndo md_X11_keepForUndo (xc_0 hw) cls_X11 ⟨by decide, by decide⟩ rfl rfl (Nat.le_of_ble_eq_true rfl) dX11_owe_58 ?_
          refine J_aload_n (q := 1) hX dX11_owe_61 rfl rfl ?_
          refine K_getc 33 hX (xc_0 hw) cls_X11 (k := 3) (by decide) uw_3_19 rfl dX11_owe_62 ?_
          refine K_getc 38 hX (xc_33 hw) cls_X0 (k := 9) (by decide) uw_2_33 rfl dX11_owe_65 ?_
          refine J_iload (q := 0) hX dX11_owe_68 rfl ?_
          refine J_iload_n (q := 4) hX dX11_owe_70 rfl rfl ?_
          refine K_iast hX (xc_38 hw) dX11_owe_71 h (fun σ_7 h => ?_)
          refine J_aload_n (q := 1) hX dX11_owe_72 rfl rfl ?_
          obtain ⟨σ_8, hc_9, h⟩ := bnd1_some h
          refine K_callV [] hX hg hR (ctX_forgetAnswers hw hc_9) lk_X11_121_X11_forgetAnswers md_X11_forgetAnswers (xc_0 hw) cls_X11 ⟨by decide, by decide⟩ rfl rfl (Nat.le_of_ble_eq_true rfl) dX11_owe_73 ?_
          refine J_iconst (v := (1 : Int32)) hX dX11_owe_76 (by decide) ?_
          exact K_zret hX hr dX11_owe_77 h
        · refine J_iconst (v := (0 : Int32)) hX dX11_owe_43 (by decide) ?_
          exact K_zret hX hr dX11_owe_44 h
      · refine J_sub [] rfl ?_
        exact tX_owe_19 hX hw hg hR hr σ_1 h
theorem ctX_owe {w : WT} (hw : isX w) {v1 : Int32} {v2 : Int32} {v3 : Int32} {σ : St} {r : Int32} {τ : St} (h : rX_owe v1 v2 v3 σ = some (r, τ)) : Ct yX11_owe cX11_owe 5 (some .boolean) 2 48 w [.ref (wad w 0), .int v1, .int v2, .int v3] σ (some (.int r)) τ 0 0 :=
  Ct_intro (fun _ => (0, 0)) (by decide) rfl ⟨rfl, Nat.le_refl _⟩ (Nat.le_of_ble_eq_true rfl) (fun X hX hR hwX hg hr => by subst hwX; exact tX_owe hX hw hg hR hr v1 v2 v3 σ h)

def rX_owes_27 (s0 : Int32) (σ : St) : Option (Int32 × St) :=
  some (s0, σ)
set_option maxRecDepth 100000 in
theorem tX_owes_27 {X : CX} (hX : gd X cX11_owes 3 RX11 (some .int)) (hw : isX (xw X)) (hg : nA X) (hR : xR X = rmOf 2 43 0 0) {r : Int32} {τ : St} (hr : xr X = (some (.int r), τ)) (s0 : Int32) (σ : St) (h : rX_owes_27 s0 σ = some (r, τ)) : Jd X 3 27 [] [.int s0] σ := by
  unfold rX_owes_27 at h
  exact K_iret hX hr dX11_owes_27 h

def rX_owes (v1 : Int32) (v2 : Int32) (σ : St) : Option (Int32 × St) :=
  bnd2 (rX_isPair v1 v2 σ) fun r_3 σ_1 => brc (r_3 = 0) (rX_owes_27 (-1 : Int32) σ_1) (chk (ib ((v1 * (6 : Int32)) + v2) 36) (rX_owes_27 (σ_1.1 38 ((v1 * (6 : Int32)) + v2).toNatClampNeg) σ_1))
set_option maxRecDepth 100000 in
theorem tX_owes {X : CX} (hX : gd X cX11_owes 3 RX11 (some .int)) (hw : isX (xw X)) (hg : nA X) (hR : xR X = rmOf 2 43 0 0) {r : Int32} {τ : St} (hr : xr X = (some (.int r), τ)) (v1 : Int32) (v2 : Int32) (σ : St) (h : rX_owes v1 v2 σ = some (r, τ)) : Jd X 3 0 [(0, .ref (wad (xw X) 0)), (1, .int v1), (2, .int v2)] [] σ := by
  unfold rX_owes at h
  refine J_aload_n (q := 0) hX dX11_owes_0 rfl rfl ?_
  refine J_iload_n (q := 1) hX dX11_owes_1 rfl rfl ?_
  refine J_iload_n (q := 2) hX dX11_owes_2 rfl rfl ?_
  obtain ⟨r_3, σ_1, hc_2, h⟩ := bnd2_some h
  refine K_callV [.int v1, .int v2] hX hg hR (ctX_isPair hw hc_2) lk_X11_281_X11_isPair md_X11_isPair (xc_0 hw) cls_X11 ⟨by decide, by decide⟩ rfl rfl (Nat.le_of_ble_eq_true rfl) dX11_owes_3 ?_
  refine K_if_eq (tgt := 26) hX dX11_owes_6 rfl h (fun h => ?_) (fun h => ?_)
  · refine J_iconst (v := (-1 : Int32)) hX dX11_owes_26 (by decide) ?_
    refine J_sub [] rfl ?_
    exact tX_owes_27 hX hw hg hR hr (-1 : Int32) σ_1 h
  · refine J_aload_n (q := 0) hX dX11_owes_9 rfl rfl ?_
    refine K_getc 33 hX (xc_0 hw) cls_X11 (k := 3) (by decide) uw_3_19 rfl dX11_owes_10 ?_
    refine K_getc 38 hX (xc_33 hw) cls_X0 (k := 9) (by decide) uw_2_33 rfl dX11_owes_13 ?_
    refine J_iload_n (q := 1) hX dX11_owes_16 rfl rfl ?_
    refine J_bipush (v := (6 : Int32)) hX dX11_owes_17 (by decide) ?_
    refine J_imul hX dX11_owes_19 ?_
    refine J_iload_n (q := 2) hX dX11_owes_20 rfl rfl ?_
    refine J_iadd hX dX11_owes_21 ?_
    refine K_iald hX (xc_38 hw) dX11_owes_22 h (fun h => ?_)
    refine J_goto (tgt := 27) hX dX11_owes_23 rfl ?_
    refine J_sub [] rfl ?_
    exact tX_owes_27 hX hw hg hR hr (σ_1.1 38 ((v1 * (6 : Int32)) + v2).toNatClampNeg) σ_1 h
theorem ctX_owes {w : WT} (hw : isX w) {v1 : Int32} {v2 : Int32} {σ : St} {r : Int32} {τ : St} (h : rX_owes v1 v2 σ = some (r, τ)) : Ct yX11_owes cX11_owes 3 (some .int) 2 43 w [.ref (wad w 0), .int v1, .int v2] σ (some (.int r)) τ 0 0 :=
  Ct_intro (fun _ => (0, 0)) (by decide) rfl ⟨rfl, Nat.le_refl _⟩ (Nat.le_of_ble_eq_true rfl) (fun X hX hR hwX hg hr => by subst hwX; exact tX_owes hX hw hg hR hr v1 v2 σ h)

def rX_settled (σ : St) : Option (Int32 × St) :=
  bnd2 (rX_fewest σ) fun r_3 σ_1 => some (r_3, σ_1)
set_option maxRecDepth 100000 in
theorem tX_settled {X : CX} (hX : gd X cX11_settled 1 RX11 (some .int)) (hw : isX (xw X)) (hg : nA X) (hR : xR X = rmOf 2 50 0 0) {r : Int32} {τ : St} (hr : xr X = (some (.int r), τ)) (σ : St) (h : rX_settled σ = some (r, τ)) : Jd X 1 0 [(0, .ref (wad (xw X) 0))] [] σ := by
  unfold rX_settled at h
  refine J_aload_n (q := 0) hX dX11_settled_0 rfl rfl ?_
  refine K_getc 57 hX (xc_0 hw) cls_X11 (k := 8) (by decide) uw_3_24 rfl dX11_settled_1 ?_
  refine J_aload_n (q := 0) hX dX11_settled_4 rfl rfl ?_
  refine K_getc 23 hX (xc_0 hw) cls_X11 (k := 2) (by decide) uw_3_18 rfl dX11_settled_5 ?_
  refine J_aload_n (q := 0) hX dX11_settled_8 rfl rfl ?_
  refine K_getc 33 hX (xc_0 hw) cls_X11 (k := 3) (by decide) uw_3_19 rfl dX11_settled_9 ?_
  obtain ⟨r_3, σ_1, hc_2, h⟩ := bnd2_some h
  refine K_callV [.ref (wad (xw X) 23), .ref (wad (xw X) 33)] hX hg hR (ctX_fewest hw hc_2) lk_X11_293_X7_fewestPayments md_X7_fewestPayments (xc_57 hw) cls_X7 ⟨by decide, by decide⟩ rfl rfl (Nat.le_of_ble_eq_true rfl) dX11_settled_12 ?_
  exact K_iret hX hr dX11_settled_15 h
theorem ctX_settled {w : WT} (hw : isX w) {σ : St} {r : Int32} {τ : St} (h : rX_settled σ = some (r, τ)) : Ct yX11_settled cX11_settled 1 (some .int) 2 50 w [.ref (wad w 0)] σ (some (.int r)) τ 0 0 :=
  Ct_intro (fun _ => (0, 0)) (by decide) rfl ⟨rfl, Nat.le_refl _⟩ (Nat.le_of_ble_eq_true rfl) (fun X hX hR hwX hg hr => by subst hwX; exact tX_settled hX hw hg hR hr  σ h)

def rX_missed_19 (σ : St) : Option (Int32 × St) :=
  some ((-1 : Int32), σ)
set_option maxRecDepth 100000 in
theorem tX_missed_19 {X : CX} (hX : gd X cX11_missed 3 RX11 (some .int)) (hw : isX (xw X)) (hg : nA X) (hR : xR X = rmOf 2 48 0 0) {r : Int32} {τ : St} (hr : xr X = (some (.int r), τ)) (σ : St) (h : rX_missed_19 σ = some (r, τ)) : Jd X 3 19 [] [] σ := by
  unfold rX_missed_19 at h
  refine J_iconst (v := (-1 : Int32)) hX dX11_missed_19 (by decide) ?_
  exact K_iret hX hr dX11_missed_20 h

def rX_missed_54 (s0 : Int32) (σ : St) : Option (Int32 × St) :=
  some (s0, σ)
set_option maxRecDepth 100000 in
theorem tX_missed_54 {X : CX} (hX : gd X cX11_missed 3 RX11 (some .int)) (hw : isX (xw X)) (hg : nA X) (hR : xR X = rmOf 2 48 0 0) {r : Int32} {τ : St} (hr : xr X = (some (.int r), τ)) (s0 : Int32) (σ : St) (h : rX_missed_54 s0 σ = some (r, τ)) : Jd X 3 54 [] [.int s0] σ := by
  unfold rX_missed_54 at h
  exact K_iret hX hr dX11_missed_54 h

def rX_missed (v1 : Int32) (v2 : Int32) (σ : St) : Option (Int32 × St) :=
  brc (v1 < 0) (rX_missed_19 σ) (brc ((99 : Int32) < v1) (rX_missed_19 σ) (brc (v2 < 0) (rX_missed_19 σ) (brc (v2 ≤ (1 : Int32)) (bnd1 (rX_judge v1 σ) fun σ_1 => brc (¬ v2 = 0) (rX_missed_54 (σ_1.1 57 4) σ_1) (rX_missed_54 (σ_1.1 57 3) σ_1)) (rX_missed_19 σ))))
set_option maxRecDepth 100000 in
theorem tX_missed {X : CX} (hX : gd X cX11_missed 3 RX11 (some .int)) (hw : isX (xw X)) (hg : nA X) (hR : xR X = rmOf 2 48 0 0) {r : Int32} {τ : St} (hr : xr X = (some (.int r), τ)) (v1 : Int32) (v2 : Int32) (σ : St) (h : rX_missed v1 v2 σ = some (r, τ)) : Jd X 3 0 [(0, .ref (wad (xw X) 0)), (1, .int v1), (2, .int v2)] [] σ := by
  unfold rX_missed at h
  refine J_iload_n (q := 1) hX dX11_missed_0 rfl rfl ?_
  refine K_if_lt (tgt := 19) hX dX11_missed_1 rfl h (fun h => ?_) (fun h => ?_)
  · refine J_sub [] rfl ?_
    exact tX_missed_19 hX hw hg hR hr σ h
  · refine J_iload_n (q := 1) hX dX11_missed_4 rfl rfl ?_
    refine J_bipush (v := (99 : Int32)) hX dX11_missed_5 (by decide) ?_
    refine K_icmp_gt (tgt := 19) hX dX11_missed_7 rfl h (fun h => ?_) (fun h => ?_)
    · refine J_sub [] rfl ?_
      exact tX_missed_19 hX hw hg hR hr σ h
    · refine J_iload_n (q := 2) hX dX11_missed_10 rfl rfl ?_
      refine K_if_lt (tgt := 19) hX dX11_missed_11 rfl h (fun h => ?_) (fun h => ?_)
      · refine J_sub [] rfl ?_
        exact tX_missed_19 hX hw hg hR hr σ h
      · refine J_iload_n (q := 2) hX dX11_missed_14 rfl rfl ?_
        refine J_iconst (v := (1 : Int32)) hX dX11_missed_15 (by decide) ?_
        refine K_icmp_le (tgt := 21) hX dX11_missed_16 rfl h (fun h => ?_) (fun h => ?_)
        · refine J_aload_n (q := 0) hX dX11_missed_21 rfl rfl ?_
          refine K_getc 57 hX (xc_0 hw) cls_X11 (k := 8) (by decide) uw_3_24 rfl dX11_missed_22 ?_
          refine J_aload_n (q := 0) hX dX11_missed_25 rfl rfl ?_
          refine K_getc 23 hX (xc_0 hw) cls_X11 (k := 2) (by decide) uw_3_18 rfl dX11_missed_26 ?_
          refine J_iload_n (q := 1) hX dX11_missed_29 rfl rfl ?_
          obtain ⟨σ_1, hc_2, h⟩ := bnd1_some h
          refine K_callV [.ref (wad (xw X) 23), .int v1] hX hg hR (ctX_judge hw hc_2) lk_X11_297_X7_judge md_X7_judge (xc_57 hw) cls_X7 ⟨by decide, by decide⟩ rfl rfl (Nat.le_of_ble_eq_true rfl) dX11_missed_30 ?_
          refine J_iload_n (q := 2) hX dX11_missed_33 rfl rfl ?_
          refine K_if_ne (tgt := 47) hX dX11_missed_34 rfl h (fun h => ?_) (fun h => ?_)
          · refine J_aload_n (q := 0) hX dX11_missed_47 rfl rfl ?_
            refine K_getc 57 hX (xc_0 hw) cls_X11 (k := 8) (by decide) uw_3_24 rfl dX11_missed_48 ?_
            refine K_geti hX (xc_57 hw) cls_X7 (k := 4) (by decide) uw_2_229 rfl dX11_missed_51 ?_
            refine J_sub [] rfl ?_
            exact tX_missed_54 hX hw hg hR hr (σ_1.1 57 4) σ_1 h
          · refine J_aload_n (q := 0) hX dX11_missed_37 rfl rfl ?_
            refine K_getc 57 hX (xc_0 hw) cls_X11 (k := 8) (by decide) uw_3_24 rfl dX11_missed_38 ?_
            refine K_geti hX (xc_57 hw) cls_X7 (k := 3) (by decide) uw_2_227 rfl dX11_missed_41 ?_
            refine J_goto (tgt := 54) hX dX11_missed_44 rfl ?_
            refine J_sub [] rfl ?_
            exact tX_missed_54 hX hw hg hR hr (σ_1.1 57 3) σ_1 h
        · refine J_sub [] rfl ?_
          exact tX_missed_19 hX hw hg hR hr σ h
theorem ctX_missed {w : WT} (hw : isX w) {v1 : Int32} {v2 : Int32} {σ : St} {r : Int32} {τ : St} (h : rX_missed v1 v2 σ = some (r, τ)) : Ct yX11_missed cX11_missed 3 (some .int) 2 48 w [.ref (wad w 0), .int v1, .int v2] σ (some (.int r)) τ 0 0 :=
  Ct_intro (fun _ => (0, 0)) (by decide) rfl ⟨rfl, Nat.le_refl _⟩ (Nat.le_of_ble_eq_true rfl) (fun X hX hR hwX hg hr => by subst hwX; exact tX_missed hX hw hg hR hr v1 v2 σ h)

def rX_odds_30 (σ : St) : Option (Int32 × St) :=
  some ((-1 : Int32), σ)
set_option maxRecDepth 100000 in
theorem tX_odds_30 {X : CX} (hX : gd X cX11_odds 4 RX11 (some .int)) (hw : isX (xw X)) (hg : nA X) (hR : xR X = rmOf 2 48 0 0) {r : Int32} {τ : St} (hr : xr X = (some (.int r), τ)) (σ : St) (h : rX_odds_30 σ = some (r, τ)) : Jd X 4 30 [] [] σ := by
  unfold rX_odds_30 at h
  refine J_iconst (v := (-1 : Int32)) hX dX11_odds_30 (by decide) ?_
  exact K_iret hX hr dX11_odds_31 h

def rX_odds_58 (s0 : Int32) (s1 : Int32) (σ : St) : Option (Int32 × St) :=
  bnd2 (rX_lowest s1 s0 σ) fun r_8 σ_6 => some (r_8, σ_6)
set_option maxRecDepth 100000 in
theorem tX_odds_58 {X : CX} (hX : gd X cX11_odds 4 RX11 (some .int)) (hw : isX (xw X)) (hg : nA X) (hR : xR X = rmOf 2 48 0 0) {r : Int32} {τ : St} (hr : xr X = (some (.int r), τ)) (s0 : Int32) (s1 : Int32) (σ : St) (h : rX_odds_58 s0 s1 σ = some (r, τ)) : Jd X 4 58 [] [.int s0, .int s1, .ref (wad (xw X) 57)] σ := by
  unfold rX_odds_58 at h
  obtain ⟨r_8, σ_6, hc_7, h⟩ := bnd2_some h
  refine K_callV [.int s1, .int s0] hX hg hR (ctX_lowest hw hc_7) lk_X11_306_X7_inLowestTerms md_X7_inLowestTerms (xc_57 hw) cls_X7 ⟨by decide, by decide⟩ rfl rfl (Nat.le_of_ble_eq_true rfl) dX11_odds_58 ?_
  exact K_iret hX hr dX11_odds_61 h

def rX_odds (v1 : Int32) (v2 : Int32) (v3 : Int32) (σ : St) : Option (Int32 × St) :=
  brc (v1 < 0) (rX_odds_30 σ) (brc ((99 : Int32) < v1) (rX_odds_30 σ) (bnd2 (rX_hasCarrier v2 σ) fun r_3 σ_1 => brc (r_3 = 0) (rX_odds_30 σ_1) (brc (v3 < 0) (rX_odds_30 σ_1) (brc (v3 ≤ (1 : Int32)) (bnd1 (rX_judge v1 σ_1) fun σ_4 => brc (¬ v3 = 0) (rX_odds_58 (0 : Int32) v2 σ_4) (rX_odds_58 (1 : Int32) v2 σ_4)) (rX_odds_30 σ_1)))))
set_option maxRecDepth 100000 in
theorem tX_odds {X : CX} (hX : gd X cX11_odds 4 RX11 (some .int)) (hw : isX (xw X)) (hg : nA X) (hR : xR X = rmOf 2 48 0 0) {r : Int32} {τ : St} (hr : xr X = (some (.int r), τ)) (v1 : Int32) (v2 : Int32) (v3 : Int32) (σ : St) (h : rX_odds v1 v2 v3 σ = some (r, τ)) : Jd X 4 0 [(0, .ref (wad (xw X) 0)), (1, .int v1), (2, .int v2), (3, .int v3)] [] σ := by
  unfold rX_odds at h
  refine J_iload_n (q := 1) hX dX11_odds_0 rfl rfl ?_
  refine K_if_lt (tgt := 30) hX dX11_odds_1 rfl h (fun h => ?_) (fun h => ?_)
  · refine J_sub [] rfl ?_
    exact tX_odds_30 hX hw hg hR hr σ h
  · refine J_iload_n (q := 1) hX dX11_odds_4 rfl rfl ?_
    refine J_bipush (v := (99 : Int32)) hX dX11_odds_5 (by decide) ?_
    refine K_icmp_gt (tgt := 30) hX dX11_odds_7 rfl h (fun h => ?_) (fun h => ?_)
    · refine J_sub [] rfl ?_
      exact tX_odds_30 hX hw hg hR hr σ h
    · refine J_aload_n (q := 0) hX dX11_odds_10 rfl rfl ?_
      refine K_getc 23 hX (xc_0 hw) cls_X11 (k := 2) (by decide) uw_3_18 rfl dX11_odds_11 ?_
      refine J_iload_n (q := 2) hX dX11_odds_14 rfl rfl ?_
      obtain ⟨r_3, σ_1, hc_2, h⟩ := bnd2_some h
      refine K_callV [.int v2] hX hg hR (ctX_hasCarrier hw hc_2) lk_X11_147_X3_hasCarrier md_X3_hasCarrier (xc_23 hw) cls_X3 ⟨by decide, by decide⟩ rfl rfl (Nat.le_of_ble_eq_true rfl) dX11_odds_15 ?_
      refine K_if_eq (tgt := 30) hX dX11_odds_18 rfl h (fun h => ?_) (fun h => ?_)
      · refine J_sub [] rfl ?_
        exact tX_odds_30 hX hw hg hR hr σ_1 h
      · refine J_iload_n (q := 3) hX dX11_odds_21 rfl rfl ?_
        refine K_if_lt (tgt := 30) hX dX11_odds_22 rfl h (fun h => ?_) (fun h => ?_)
        · refine J_sub [] rfl ?_
          exact tX_odds_30 hX hw hg hR hr σ_1 h
        · refine J_iload_n (q := 3) hX dX11_odds_25 rfl rfl ?_
          refine J_iconst (v := (1 : Int32)) hX dX11_odds_26 (by decide) ?_
          refine K_icmp_le (tgt := 32) hX dX11_odds_27 rfl h (fun h => ?_) (fun h => ?_)
          · refine J_aload_n (q := 0) hX dX11_odds_32 rfl rfl ?_
            refine K_getc 57 hX (xc_0 hw) cls_X11 (k := 8) (by decide) uw_3_24 rfl dX11_odds_33 ?_
            refine J_aload_n (q := 0) hX dX11_odds_36 rfl rfl ?_
            refine K_getc 23 hX (xc_0 hw) cls_X11 (k := 2) (by decide) uw_3_18 rfl dX11_odds_37 ?_
            refine J_iload_n (q := 1) hX dX11_odds_40 rfl rfl ?_
            obtain ⟨σ_4, hc_5, h⟩ := bnd1_some h
            refine K_callV [.ref (wad (xw X) 23), .int v1] hX hg hR (ctX_judge hw hc_5) lk_X11_297_X7_judge md_X7_judge (xc_57 hw) cls_X7 ⟨by decide, by decide⟩ rfl rfl (Nat.le_of_ble_eq_true rfl) dX11_odds_41 ?_
            refine J_aload_n (q := 0) hX dX11_odds_44 rfl rfl ?_
            refine K_getc 57 hX (xc_0 hw) cls_X11 (k := 8) (by decide) uw_3_24 rfl dX11_odds_45 ?_
            refine J_iload_n (q := 2) hX dX11_odds_48 rfl rfl ?_
            refine J_iload_n (q := 3) hX dX11_odds_49 rfl rfl ?_
            refine K_if_ne (tgt := 57) hX dX11_odds_50 rfl h (fun h => ?_) (fun h => ?_)
            · refine J_iconst (v := (0 : Int32)) hX dX11_odds_57 (by decide) ?_
              refine J_sub [] rfl ?_
              exact tX_odds_58 hX hw hg hR hr (0 : Int32) v2 σ_4 h
            · refine J_iconst (v := (1 : Int32)) hX dX11_odds_53 (by decide) ?_
              refine J_goto (tgt := 58) hX dX11_odds_54 rfl ?_
              refine J_sub [] rfl ?_
              exact tX_odds_58 hX hw hg hR hr (1 : Int32) v2 σ_4 h
          · refine J_sub [] rfl ?_
            exact tX_odds_30 hX hw hg hR hr σ_1 h
theorem ctX_odds {w : WT} (hw : isX w) {v1 : Int32} {v2 : Int32} {v3 : Int32} {σ : St} {r : Int32} {τ : St} (h : rX_odds v1 v2 v3 σ = some (r, τ)) : Ct yX11_odds cX11_odds 4 (some .int) 2 48 w [.ref (wad w 0), .int v1, .int v2, .int v3] σ (some (.int r)) τ 0 0 :=
  Ct_intro (fun _ => (0, 0)) (by decide) rfl ⟨rfl, Nat.le_refl _⟩ (Nat.le_of_ble_eq_true rfl) (fun X hX hR hwX hg hr => by subst hwX; exact tX_odds hX hw hg hR hr v1 v2 v3 σ h)

def rX_patch_34 (σ : St) : Option (Int32 × St) :=
  chk (decide ((0 : Int32) = 0 ∨ (0 : Int32) = 1)) (some ((0 : Int32), σ))
set_option maxRecDepth 100000 in
theorem tX_patch_34 {X : CX} (hX : gd X cX11_patch 4 RX11 (some .boolean)) (hw : isX (xw X)) (hg : nA X) (hR : xR X = rmOf 2 48 0 0) {r : Int32} {τ : St} (hr : xr X = (some (.int r), τ)) (σ : St) (h : rX_patch_34 σ = some (r, τ)) : Jd X 4 34 [] [] σ := by
  unfold rX_patch_34 at h
  refine J_iconst (v := (0 : Int32)) hX dX11_patch_34 (by decide) ?_
  exact K_zret hX hr dX11_patch_35 h

def rX_patch_9 (v1 : Int32) (s0 : Int32) (σ : St) : Option (Int32 × St) :=
  nm s0 fun v3_1 => bnd2 (rX_hasCarrier v1 σ) fun r_4 σ_2 => brc (r_4 = 0) (rX_patch_34 σ_2) (chk (ib v1 6) (brc (¬ (σ_2.1 37 v1.toNatClampNeg) = v3_1) (chk (ib v1 6) (bnd1 (rX_keepForUndo ((36 : Int32) + v1) (σ_2.1 37 v1.toNatClampNeg) σ_2) fun σ_5 => chk (ib v1 6) (nm (setI σ_5 37 v1.toNatClampNeg v3_1) fun σ_7 => bnd1 (rX_forgetAnswers σ_7) fun σ_8 => chk (decide ((1 : Int32) = 0 ∨ (1 : Int32) = 1)) (some ((1 : Int32), σ_8))))) (rX_patch_34 σ_2)))
set_option maxRecDepth 100000 in
theorem tX_patch_9 {X : CX} (hX : gd X cX11_patch 4 RX11 (some .boolean)) (hw : isX (xw X)) (hg : nA X) (hR : xR X = rmOf 2 48 0 0) {r : Int32} {τ : St} (hr : xr X = (some (.int r), τ)) (v1 : Int32) (s0 : Int32) (σ : St) (h : rX_patch_9 v1 s0 σ = some (r, τ)) : Jd X 4 9 [(0, .ref (wad (xw X) 0)), (1, .int v1)] [.int s0] σ := by
  unfold rX_patch_9 at h
  refine K_istore_n (fun v3_1 => [(3, .int v3_1), (0, .ref (wad (xw X) 0)), (1, .int v1)]) hX dX11_patch_9 rfl (by decide) (fun _ => rfl) h (fun v3_1 h => ?_)
  refine J_aload_n (q := 1) hX dX11_patch_10 rfl rfl ?_
  refine K_getc 23 hX (xc_0 hw) cls_X11 (k := 2) (by decide) uw_3_18 rfl dX11_patch_11 ?_
  refine J_iload_n (q := 2) hX dX11_patch_14 rfl rfl ?_
  obtain ⟨r_4, σ_2, hc_3, h⟩ := bnd2_some h
  refine K_callV [.int v1] hX hg hR (ctX_hasCarrier hw hc_3) lk_X11_147_X3_hasCarrier md_X3_hasCarrier (xc_23 hw) cls_X3 ⟨by decide, by decide⟩ rfl rfl (Nat.le_of_ble_eq_true rfl) dX11_patch_15 ?_
  refine K_if_eq (tgt := 34) hX dX11_patch_18 rfl h (fun h => ?_) (fun h => ?_)
  · refine J_sub [] rfl ?_
    exact tX_patch_34 hX hw hg hR hr σ_2 h
  · refine J_aload_n (q := 1) hX dX11_patch_21 rfl rfl ?_
    refine K_getc 33 hX (xc_0 hw) cls_X11 (k := 3) (by decide) uw_3_19 rfl dX11_patch_22 ?_
    refine K_getc 37 hX (xc_33 hw) cls_X0 (k := 8) (by decide) uw_2_31 rfl dX11_patch_25 ?_
    refine J_iload_n (q := 2) hX dX11_patch_28 rfl rfl ?_
    refine K_iald hX (xc_37 hw) dX11_patch_29 h (fun h => ?_)
    refine J_iload_n (q := 0) hX dX11_patch_30 rfl rfl ?_
    refine K_icmp_ne (tgt := 36) hX dX11_patch_31 rfl h (fun h => ?_) (fun h => ?_)
    · refine J_aload_n (q := 1) hX dX11_patch_36 rfl rfl ?_
      refine J_bipush (v := (36 : Int32)) hX dX11_patch_37 (by decide) ?_
      refine J_iload_n (q := 2) hX dX11_patch_39 rfl rfl ?_
      refine J_iadd hX dX11_patch_40 ?_
      refine J_aload_n (q := 1) hX dX11_patch_41 rfl rfl ?_
      refine K_getc 33 hX (xc_0 hw) cls_X11 (k := 3) (by decide) uw_3_19 rfl dX11_patch_42 ?_
      refine K_getc 37 hX (xc_33 hw) cls_X0 (k := 8) (by decide) uw_2_31 rfl dX11_patch_45 ?_
      refine J_iload_n (q := 2) hX dX11_patch_48 rfl rfl ?_
      refine K_iald hX (xc_37 hw) dX11_patch_49 h (fun h => ?_)
      obtain ⟨σ_5, hc_6, h⟩ := bnd1_some h
      refine K_callV [.int ((36 : Int32) + v1), .int (σ_2.1 37 v1.toNatClampNeg)] hX hg hR (ctX_keepForUndo hw hc_6) lk_X11_287_X11_keepForUndo md_X11_keepForUndo (xc_0 hw) cls_X11 ⟨by decide, by decide⟩ rfl rfl (Nat.le_of_ble_eq_true rfl) dX11_patch_50 ?_
      refine J_aload_n (q := 1) hX dX11_patch_53 rfl rfl ?_
      refine K_getc 33 hX (xc_0 hw) cls_X11 (k := 3) (by decide) uw_3_19 rfl dX11_patch_54 ?_
      refine K_getc 37 hX (xc_33 hw) cls_X0 (k := 8) (by decide) uw_2_31 rfl dX11_patch_57 ?_
      refine J_iload_n (q := 2) hX dX11_patch_60 rfl rfl ?_
      refine J_iload_n (q := 0) hX dX11_patch_61 rfl rfl ?_
      refine K_iast hX (xc_37 hw) dX11_patch_62 h (fun σ_7 h => ?_)
      refine J_aload_n (q := 1) hX dX11_patch_63 rfl rfl ?_
      obtain ⟨σ_8, hc_9, h⟩ := bnd1_some h
      refine K_callV [] hX hg hR (ctX_forgetAnswers hw hc_9) lk_X11_121_X11_forgetAnswers md_X11_forgetAnswers (xc_0 hw) cls_X11 ⟨by decide, by decide⟩ rfl rfl (Nat.le_of_ble_eq_true rfl) dX11_patch_64 ?_
      refine J_iconst (v := (1 : Int32)) hX dX11_patch_67 (by decide) ?_
      exact K_zret hX hr dX11_patch_68 h
    · refine J_sub [] rfl ?_
      exact tX_patch_34 hX hw hg hR hr σ_2 h

def rX_patch (v1 : Int32) (v2 : Int32) (σ : St) : Option (Int32 × St) :=
  brc (v2 = 0) (rX_patch_9 v1 (0 : Int32) σ) (rX_patch_9 v1 (1 : Int32) σ)
set_option maxRecDepth 100000 in
theorem tX_patch {X : CX} (hX : gd X cX11_patch 4 RX11 (some .boolean)) (hw : isX (xw X)) (hg : nA X) (hR : xR X = rmOf 2 48 0 0) {r : Int32} {τ : St} (hr : xr X = (some (.int r), τ)) (v1 : Int32) (v2 : Int32) (σ : St) (h : rX_patch v1 v2 σ = some (r, τ)) : Jd X 4 0 [(0, .ref (wad (xw X) 0)), (1, .int v1), (2, .int v2)] [] σ := by
  unfold rX_patch at h
  refine J_iload_n (q := 2) hX dX11_patch_0 rfl rfl ?_
  refine K_if_eq (tgt := 8) hX dX11_patch_1 rfl h (fun h => ?_) (fun h => ?_)
  · refine J_iconst (v := (0 : Int32)) hX dX11_patch_8 (by decide) ?_
    refine J_sub [0, 1] rfl ?_
    exact tX_patch_9 hX hw hg hR hr v1 (0 : Int32) σ h
  · refine J_iconst (v := (1 : Int32)) hX dX11_patch_4 (by decide) ?_
    refine J_goto (tgt := 9) hX dX11_patch_5 rfl ?_
    refine J_sub [0, 1] rfl ?_
    exact tX_patch_9 hX hw hg hR hr v1 (1 : Int32) σ h
theorem ctX_patch {w : WT} (hw : isX w) {v1 : Int32} {v2 : Int32} {σ : St} {r : Int32} {τ : St} (h : rX_patch v1 v2 σ = some (r, τ)) : Ct yX11_patch cX11_patch 4 (some .boolean) 2 48 w [.ref (wad w 0), .int v1, .int v2] σ (some (.int r)) τ 0 0 :=
  Ct_intro (fun _ => (0, 0)) (by decide) rfl ⟨rfl, Nat.le_refl _⟩ (Nat.le_of_ble_eq_true rfl) (fun X hX hR hwX hg hr => by subst hwX; exact tX_patch hX hw hg hR hr v1 v2 σ h)

def rX_undo_77 (σ : St) : Option (Int32 × St) :=
  bnd1 (rX_forgetAnswers σ) fun σ_4 => chk (decide ((1 : Int32) = 0 ∨ (1 : Int32) = 1)) (some ((1 : Int32), σ_4))
set_option maxRecDepth 100000 in
theorem tX_undo_77 {X : CX} (hX : gd X cX11_undo 2 RX11 (some .boolean)) (hw : isX (xw X)) (hg : nA X) (hR : xR X = rmOf 1 20 0 0) {r : Int32} {τ : St} (hr : xr X = (some (.int r), τ)) (σ : St) (h : rX_undo_77 σ = some (r, τ)) : Jd X 2 77 [(0, .ref (wad (xw X) 0))] [] σ := by
  unfold rX_undo_77 at h
  refine J_aload_n (q := 0) hX dX11_undo_77 rfl rfl ?_
  obtain ⟨σ_4, hc_5, h⟩ := bnd1_some h
  refine K_callV [] hX hg hR (ctX_forgetAnswers hw hc_5) lk_X11_121_X11_forgetAnswers md_X11_forgetAnswers (xc_0 hw) cls_X11 ⟨by decide, by decide⟩ rfl rfl (Nat.le_of_ble_eq_true rfl) dX11_undo_78 ?_
  refine J_iconst (v := (1 : Int32)) hX dX11_undo_81 (by decide) ?_
  exact K_zret hX hr dX11_undo_82 h

def rX_undo (σ : St) : Option (Int32 × St) :=
  brc (¬ (σ.1 0 11) = 0) (nm (setI σ 0 11 ((σ.1 0 11) - (1 : Int32))) fun σ_1 => chk (ib (σ_1.1 0 11) 20) (nm (σ_1.1 1 (σ_1.1 0 11).toNatClampNeg) fun v1_2 => brc ((36 : Int32) ≤ v1_2) (chk (ib (σ_1.1 0 11) 20) (chk (ib (v1_2 - (36 : Int32)) 6) (nm (setI σ_1 37 (v1_2 - (36 : Int32)).toNatClampNeg (σ_1.1 2 (σ_1.1 0 11).toNatClampNeg)) fun σ_3 => rX_undo_77 σ_3))) (chk (ib (σ_1.1 0 11) 20) (chk (ib v1_2 36) (nm (setI σ_1 38 v1_2.toNatClampNeg (σ_1.1 2 (σ_1.1 0 11).toNatClampNeg)) fun σ_6 => rX_undo_77 σ_6))))) (chk (decide ((0 : Int32) = 0 ∨ (0 : Int32) = 1)) (some ((0 : Int32), σ)))
set_option maxRecDepth 100000 in
theorem tX_undo {X : CX} (hX : gd X cX11_undo 2 RX11 (some .boolean)) (hw : isX (xw X)) (hg : nA X) (hR : xR X = rmOf 1 20 0 0) {r : Int32} {τ : St} (hr : xr X = (some (.int r), τ)) (σ : St) (h : rX_undo σ = some (r, τ)) : Jd X 2 0 [(0, .ref (wad (xw X) 0))] [] σ := by
  unfold rX_undo at h
  refine J_aload_n (q := 0) hX dX11_undo_0 rfl rfl ?_
  refine K_geti hX (xc_0 hw) cls_X11 (k := 11) (by decide) uw_3_27 rfl dX11_undo_1 ?_
  refine K_if_ne (tgt := 9) hX dX11_undo_4 rfl h (fun h => ?_) (fun h => ?_)
  · refine J_aload_n (q := 0) hX dX11_undo_9 rfl rfl ?_
    refine J_dup hX dX11_undo_10 rfl ?_
    refine K_geti hX (xc_0 hw) cls_X11 (k := 11) (by decide) uw_3_27 rfl dX11_undo_11 ?_
    refine J_iconst (v := (1 : Int32)) hX dX11_undo_14 (by decide) ?_
    refine J_isub hX dX11_undo_15 ?_
    refine K_puti hX (xc_0 hw) cls_X11 (k := 11) (by decide) uw_3_27 rfl rfl rfl dX11_undo_16 h (fun σ_1 h => ?_)
    refine J_aload_n (q := 0) hX dX11_undo_19 rfl rfl ?_
    refine K_getc 1 hX (xc_0 hw) cls_X11 (k := 9) (by decide) uw_3_25 rfl dX11_undo_20 ?_
    refine J_aload_n (q := 0) hX dX11_undo_23 rfl rfl ?_
    refine K_geti hX (xc_0 hw) cls_X11 (k := 11) (by decide) uw_3_27 rfl dX11_undo_24 ?_
    refine K_iald hX (xc_1 hw) dX11_undo_27 h (fun h => ?_)
    refine K_istore_n (fun v1_2 => [(1, .int v1_2), (0, .ref (wad (xw X) 0))]) hX dX11_undo_28 rfl (by decide) (fun _ => rfl) h (fun v1_2 h => ?_)
    refine J_iload_n (q := 0) hX dX11_undo_29 rfl rfl ?_
    refine J_bipush (v := (36 : Int32)) hX dX11_undo_30 (by decide) ?_
    refine K_icmp_ge (tgt := 56) hX dX11_undo_32 rfl h (fun h => ?_) (fun h => ?_)
    · refine J_aload_n (q := 1) hX dX11_undo_56 rfl rfl ?_
      refine K_getc 33 hX (xc_0 hw) cls_X11 (k := 3) (by decide) uw_3_19 rfl dX11_undo_57 ?_
      refine K_getc 37 hX (xc_33 hw) cls_X0 (k := 8) (by decide) uw_2_31 rfl dX11_undo_60 ?_
      refine J_iload_n (q := 0) hX dX11_undo_63 rfl rfl ?_
      refine J_bipush (v := (36 : Int32)) hX dX11_undo_64 (by decide) ?_
      refine J_isub hX dX11_undo_66 ?_
      refine J_aload_n (q := 1) hX dX11_undo_67 rfl rfl ?_
      refine K_getc 2 hX (xc_0 hw) cls_X11 (k := 10) (by decide) uw_3_26 rfl dX11_undo_68 ?_
      refine J_aload_n (q := 1) hX dX11_undo_71 rfl rfl ?_
      refine K_geti hX (xc_0 hw) cls_X11 (k := 11) (by decide) uw_3_27 rfl dX11_undo_72 ?_
      refine K_iald hX (xc_2 hw) dX11_undo_75 h (fun h => ?_)
      refine K_iast hX (xc_37 hw) dX11_undo_76 h (fun σ_3 h => ?_)
      refine J_sub [1] rfl ?_
      exact tX_undo_77 hX hw hg hR hr σ_3 h
    · refine J_aload_n (q := 1) hX dX11_undo_35 rfl rfl ?_
      refine K_getc 33 hX (xc_0 hw) cls_X11 (k := 3) (by decide) uw_3_19 rfl dX11_undo_36 ?_
      refine K_getc 38 hX (xc_33 hw) cls_X0 (k := 9) (by decide) uw_2_33 rfl dX11_undo_39 ?_
      refine J_iload_n (q := 0) hX dX11_undo_42 rfl rfl ?_
      refine J_aload_n (q := 1) hX dX11_undo_43 rfl rfl ?_
      refine K_getc 2 hX (xc_0 hw) cls_X11 (k := 10) (by decide) uw_3_26 rfl dX11_undo_44 ?_
      refine J_aload_n (q := 1) hX dX11_undo_47 rfl rfl ?_
      refine K_geti hX (xc_0 hw) cls_X11 (k := 11) (by decide) uw_3_27 rfl dX11_undo_48 ?_
      refine K_iald hX (xc_2 hw) dX11_undo_51 h (fun h => ?_)
      refine K_iast hX (xc_38 hw) dX11_undo_52 h (fun σ_6 h => ?_)
      refine J_goto (tgt := 77) hX dX11_undo_53 rfl ?_
      refine J_sub [1] rfl ?_
      exact tX_undo_77 hX hw hg hR hr σ_6 h
  · refine J_iconst (v := (0 : Int32)) hX dX11_undo_7 (by decide) ?_
    exact K_zret hX hr dX11_undo_8 h
theorem ctX_undo {w : WT} (hw : isX w) {σ : St} {r : Int32} {τ : St} (h : rX_undo σ = some (r, τ)) : Ct yX11_undo cX11_undo 2 (some .boolean) 1 20 w [.ref (wad w 0)] σ (some (.int r)) τ 0 0 :=
  Ct_intro (fun _ => (0, 0)) (by decide) rfl ⟨rfl, Nat.le_refl _⟩ (Nat.le_of_ble_eq_true rfl) (fun X hX hR hwX hg hr => by subst hwX; exact tX_undo hX hw hg hR hr  σ h)

def rX_mark_22 (σ : St) : Option (Int32 × St) :=
  chk (decide ((0 : Int32) = 0 ∨ (0 : Int32) = 1)) (some ((0 : Int32), σ))
set_option maxRecDepth 100000 in
theorem tX_mark_22 {X : CX} (hX : gd X cX11_mark 3 RX11 (some .boolean)) (hw : isX (xw X)) (hg : nA X) (hR : xR X = rmOf 2 47 0 0) {r : Int32} {τ : St} (hr : xr X = (some (.int r), τ)) (σ : St) (h : rX_mark_22 σ = some (r, τ)) : Jd X 3 22 [] [] σ := by
  unfold rX_mark_22 at h
  refine J_iconst (v := (0 : Int32)) hX dX11_mark_22 (by decide) ?_
  exact K_zret hX hr dX11_mark_23 h

def rX_mark_73 (σ : St) : Option (Int32 × St) :=
  chk (decide ((1 : Int32) = 0 ∨ (1 : Int32) = 1)) (some ((1 : Int32), σ))
set_option maxRecDepth 100000 in
theorem tX_mark_73 {X : CX} (hX : gd X cX11_mark 3 RX11 (some .boolean)) (hw : isX (xw X)) (hg : nA X) (hR : xR X = rmOf 2 47 0 0) {r : Int32} {τ : St} (hr : xr X = (some (.int r), τ)) (σ : St) (h : rX_mark_73 σ = some (r, τ)) : Jd X 3 73 [] [] σ := by
  unfold rX_mark_73 at h
  refine J_iconst (v := (1 : Int32)) hX dX11_mark_73 (by decide) ?_
  exact K_zret hX hr dX11_mark_74 h

def rX_mark_24 (v1 : Int32) (v2 : Int32) (σ : St) : Option (Int32 × St) :=
  brc (v2 = 0) (chk (ib v1 4) (bnd1 (rX_dayTo (61 + 9 * v1.toNatClampNeg) σ) fun σ_2 => chk (ib v1 4) (nm (setI σ_2 4 v1.toNatClampNeg (vp_nar .boolean (1 : Int32))) fun σ_4 => rX_mark_73 σ_4))) (chk (ib v1 4) (bnd1 (rX_dayFrom (61 + 9 * v1.toNatClampNeg) σ) fun σ_6 => nm (setI σ_6 0 11 (0 : Int32)) fun σ_8 => bnd1 (rX_forgetAnswers σ_8) fun σ_9 => rX_mark_73 σ_9))
set_option maxRecDepth 100000 in
theorem tX_mark_24 {X : CX} (hX : gd X cX11_mark 3 RX11 (some .boolean)) (hw : isX (xw X)) (hg : nA X) (hR : xR X = rmOf 2 47 0 0) {r : Int32} {τ : St} (hr : xr X = (some (.int r), τ)) (v1 : Int32) (v2 : Int32) (σ : St) (h : rX_mark_24 v1 v2 σ = some (r, τ)) : Jd X 3 24 [(0, .ref (wad (xw X) 0)), (1, .int v1), (2, .int v2)] [] σ := by
  unfold rX_mark_24 at h
  refine J_iload_n (q := 2) hX dX11_mark_24 rfl rfl ?_
  refine K_if_eq (tgt := 53) hX dX11_mark_25 rfl h (fun h => ?_) (fun h => ?_)
  · refine J_aload_n (q := 0) hX dX11_mark_53 rfl rfl ?_
    refine K_getc 3 hX (xc_0 hw) cls_X11 (k := 12) (by decide) uw_3_28 rfl dX11_mark_54 ?_
    refine J_iload_n (q := 1) hX dX11_mark_57 rfl rfl ?_
    have hb_1 := (chk_some h).1
    refine K_mkald hX hw (xc_3 hw) dX11_mark_58 h (fun h => ?_)
    refine J_aload_n (q := 0) hX dX11_mark_59 rfl rfl ?_
    refine K_getc 33 hX (xc_0 hw) cls_X11 (k := 3) (by decide) uw_3_19 rfl dX11_mark_60 ?_
    obtain ⟨σ_2, hc_3, h⟩ := bnd1_some h
    refine K_callV [.ref (wad (xw X) 33)] hX hg hR (ctX_dayTo hw (mk_of hb_1) hc_3) lk_X11_310_X0_copyFrom md_X0_copyFrom (by have q := xmk_0 hw (mk_of hb_1); exact q) cls_X0 ⟨by decide, by decide⟩ rfl rfl (Nat.le_of_ble_eq_true rfl) dX11_mark_63 ?_
    refine J_aload_n (q := 0) hX dX11_mark_66 rfl rfl ?_
    refine K_getc 4 hX (xc_0 hw) cls_X11 (k := 13) (by decide) uw_3_29 rfl dX11_mark_67 ?_
    refine J_iload_n (q := 1) hX dX11_mark_70 rfl rfl ?_
    refine J_iconst (v := (1 : Int32)) hX dX11_mark_71 (by decide) ?_
    refine K_zast hX (xc_4 hw) dX11_mark_72 h (fun σ_4 h => ?_)
    refine J_sub [] rfl ?_
    exact tX_mark_73 hX hw hg hR hr σ_4 h
  · refine J_aload_n (q := 0) hX dX11_mark_28 rfl rfl ?_
    refine K_getc 33 hX (xc_0 hw) cls_X11 (k := 3) (by decide) uw_3_19 rfl dX11_mark_29 ?_
    refine J_aload_n (q := 0) hX dX11_mark_32 rfl rfl ?_
    refine K_getc 3 hX (xc_0 hw) cls_X11 (k := 12) (by decide) uw_3_28 rfl dX11_mark_33 ?_
    refine J_iload_n (q := 1) hX dX11_mark_36 rfl rfl ?_
    have hb_5 := (chk_some h).1
    refine K_mkald hX hw (xc_3 hw) dX11_mark_37 h (fun h => ?_)
    obtain ⟨σ_6, hc_7, h⟩ := bnd1_some h
    refine K_callV [.ref (wad (xw X) (61 + 9 * v1.toNatClampNeg))] hX hg hR (ctX_dayFrom hw (mk_of hb_5) hc_7) lk_X11_310_X0_copyFrom md_X0_copyFrom (xc_33 hw) cls_X0 ⟨by decide, by decide⟩ rfl rfl (Nat.le_of_ble_eq_true rfl) dX11_mark_38 ?_
    refine J_aload_n (q := 0) hX dX11_mark_41 rfl rfl ?_
    refine J_iconst (v := (0 : Int32)) hX dX11_mark_42 (by decide) ?_
    refine K_puti hX (xc_0 hw) cls_X11 (k := 11) (by decide) uw_3_27 rfl rfl rfl dX11_mark_43 h (fun σ_8 h => ?_)
    refine J_aload_n (q := 0) hX dX11_mark_46 rfl rfl ?_
    obtain ⟨σ_9, hc_10, h⟩ := bnd1_some h
    refine K_callV [] hX hg hR (ctX_forgetAnswers hw hc_10) lk_X11_121_X11_forgetAnswers md_X11_forgetAnswers (xc_0 hw) cls_X11 ⟨by decide, by decide⟩ rfl rfl (Nat.le_of_ble_eq_true rfl) dX11_mark_47 ?_
    refine J_goto (tgt := 73) hX dX11_mark_50 rfl ?_
    refine J_sub [] rfl ?_
    exact tX_mark_73 hX hw hg hR hr σ_9 h

def rX_mark (v1 : Int32) (v2 : Int32) (σ : St) : Option (Int32 × St) :=
  brc (v1 < 0) (rX_mark_22 σ) (brc ((4 : Int32) ≤ v1) (rX_mark_22 σ) (brc (v2 = 0) (rX_mark_24 v1 v2 σ) (chk (ib v1 4) (brc (¬ (σ.1 4 v1.toNatClampNeg) = 0) (rX_mark_24 v1 v2 σ) (rX_mark_22 σ)))))
set_option maxRecDepth 100000 in
theorem tX_mark {X : CX} (hX : gd X cX11_mark 3 RX11 (some .boolean)) (hw : isX (xw X)) (hg : nA X) (hR : xR X = rmOf 2 47 0 0) {r : Int32} {τ : St} (hr : xr X = (some (.int r), τ)) (v1 : Int32) (v2 : Int32) (σ : St) (h : rX_mark v1 v2 σ = some (r, τ)) : Jd X 3 0 [(0, .ref (wad (xw X) 0)), (1, .int v1), (2, .int v2)] [] σ := by
  unfold rX_mark at h
  refine J_iload_n (q := 1) hX dX11_mark_0 rfl rfl ?_
  refine K_if_lt (tgt := 22) hX dX11_mark_1 rfl h (fun h => ?_) (fun h => ?_)
  · refine J_sub [] rfl ?_
    exact tX_mark_22 hX hw hg hR hr σ h
  · refine J_iload_n (q := 1) hX dX11_mark_4 rfl rfl ?_
    refine J_iconst (v := (4 : Int32)) hX dX11_mark_5 (by decide) ?_
    refine K_icmp_ge (tgt := 22) hX dX11_mark_6 rfl h (fun h => ?_) (fun h => ?_)
    · refine J_sub [] rfl ?_
      exact tX_mark_22 hX hw hg hR hr σ h
    · refine J_iload_n (q := 2) hX dX11_mark_9 rfl rfl ?_
      refine K_if_eq (tgt := 24) hX dX11_mark_10 rfl h (fun h => ?_) (fun h => ?_)
      · refine J_sub [0, 1, 2] rfl ?_
        exact tX_mark_24 hX hw hg hR hr v1 v2 σ h
      · refine J_aload_n (q := 0) hX dX11_mark_13 rfl rfl ?_
        refine K_getc 4 hX (xc_0 hw) cls_X11 (k := 13) (by decide) uw_3_29 rfl dX11_mark_14 ?_
        refine J_iload_n (q := 1) hX dX11_mark_17 rfl rfl ?_
        refine K_zald hX (xc_4 hw) dX11_mark_18 h (fun h => ?_)
        refine K_if_ne (tgt := 24) hX dX11_mark_19 rfl h (fun h => ?_) (fun h => ?_)
        · refine J_sub [0, 1, 2] rfl ?_
          exact tX_mark_24 hX hw hg hR hr v1 v2 σ h
        · refine J_sub [] rfl ?_
          exact tX_mark_22 hX hw hg hR hr σ h
theorem ctX_mark {w : WT} (hw : isX w) {v1 : Int32} {v2 : Int32} {σ : St} {r : Int32} {τ : St} (h : rX_mark v1 v2 σ = some (r, τ)) : Ct yX11_mark cX11_mark 3 (some .boolean) 2 47 w [.ref (wad w 0), .int v1, .int v2] σ (some (.int r)) τ 0 0 :=
  Ct_intro (fun _ => (0, 0)) (by decide) rfl ⟨rfl, Nat.le_refl _⟩ (Nat.le_of_ble_eq_true rfl) (fun X hX hR hwX hg hr => by subst hwX; exact tX_mark hX hw hg hR hr v1 v2 σ h)

def rX_count (v1 : Int32) (σ : St) : Option (Int32 × St) :=
  brc ((v1).toInt = 0) (some (σ.1 23 0, σ)) (brc ((v1).toInt = 1) (some (σ.1 23 1, σ)) (brc ((v1).toInt = 2) (some (σ.1 23 2, σ)) (brc ((v1).toInt = 3) (some (σ.1 33 0, σ)) (brc ((v1).toInt = 4) (some (σ.1 33 2, σ)) (brc ((v1).toInt = 5) (some (σ.1 23 16, σ)) (brc ((v1).toInt = 6) (some (σ.1 33 4, σ)) (brc ((v1).toInt = 7) (some (σ.1 0 11, σ)) (brc ((v1).toInt = 8) (some (σ.1 5 2, σ)) (some ((-1 : Int32), σ))))))))))
set_option maxRecDepth 100000 in
theorem tX_count {X : CX} (hX : gd X cX11_count 2 RX11 (some .int)) (hw : isX (xw X)) (hg : nA X) (hR : xR X = rmOf 0 0 0 0) {r : Int32} {τ : St} (hr : xr X = (some (.int r), τ)) (v1 : Int32) (σ : St) (h : rX_count v1 σ = some (r, τ)) : Jd X 2 0 [(0, .ref (wad (xw X) 0)), (1, .int v1)] [] σ := by
  unfold rX_count at h
  refine J_iload_n (q := 1) hX dX11_count_0 rfl rfl ?_
  rcases brc_some h with ⟨hc, h⟩ | ⟨hn_1, h⟩
  · refine K_tabIn (v := 0) (tgt := 52) hX dX11_count_1 hc (by decide) (by decide) rfl rfl ?_
    refine J_aload_n (q := 0) hX dX11_count_52 rfl rfl ?_
    refine K_getc 23 hX (xc_0 hw) cls_X11 (k := 2) (by decide) uw_3_18 rfl dX11_count_53 ?_
    refine K_geti hX (xc_23 hw) cls_X3 (k := 0) (by decide) uw_1_91 rfl dX11_count_56 ?_
    exact K_iret hX hr dX11_count_59 h
  rcases brc_some h with ⟨hc, h⟩ | ⟨hn_2, h⟩
  · refine K_tabIn (v := 1) (tgt := 60) hX dX11_count_1 hc (by decide) (by decide) rfl rfl ?_
    refine J_aload_n (q := 0) hX dX11_count_60 rfl rfl ?_
    refine K_getc 23 hX (xc_0 hw) cls_X11 (k := 2) (by decide) uw_3_18 rfl dX11_count_61 ?_
    refine K_geti hX (xc_23 hw) cls_X3 (k := 1) (by decide) uw_1_94 rfl dX11_count_64 ?_
    exact K_iret hX hr dX11_count_67 h
  rcases brc_some h with ⟨hc, h⟩ | ⟨hn_3, h⟩
  · refine K_tabIn (v := 2) (tgt := 68) hX dX11_count_1 hc (by decide) (by decide) rfl rfl ?_
    refine J_aload_n (q := 0) hX dX11_count_68 rfl rfl ?_
    refine K_getc 23 hX (xc_0 hw) cls_X11 (k := 2) (by decide) uw_3_18 rfl dX11_count_69 ?_
    refine K_geti hX (xc_23 hw) cls_X3 (k := 2) (by decide) uw_1_100 rfl dX11_count_72 ?_
    exact K_iret hX hr dX11_count_75 h
  rcases brc_some h with ⟨hc, h⟩ | ⟨hn_4, h⟩
  · refine K_tabIn (v := 3) (tgt := 76) hX dX11_count_1 hc (by decide) (by decide) rfl rfl ?_
    refine J_aload_n (q := 0) hX dX11_count_76 rfl rfl ?_
    refine K_getc 33 hX (xc_0 hw) cls_X11 (k := 3) (by decide) uw_3_19 rfl dX11_count_77 ?_
    refine K_geti hX (xc_33 hw) cls_X0 (k := 0) (by decide) uw_2_12 rfl dX11_count_80 ?_
    exact K_iret hX hr dX11_count_83 h
  rcases brc_some h with ⟨hc, h⟩ | ⟨hn_5, h⟩
  · refine K_tabIn (v := 4) (tgt := 84) hX dX11_count_1 hc (by decide) (by decide) rfl rfl ?_
    refine J_aload_n (q := 0) hX dX11_count_84 rfl rfl ?_
    refine K_getc 33 hX (xc_0 hw) cls_X11 (k := 3) (by decide) uw_3_19 rfl dX11_count_85 ?_
    refine K_geti hX (xc_33 hw) cls_X0 (k := 2) (by decide) uw_2_17 rfl dX11_count_88 ?_
    exact K_iret hX hr dX11_count_91 h
  rcases brc_some h with ⟨hc, h⟩ | ⟨hn_6, h⟩
  · refine K_tabIn (v := 5) (tgt := 92) hX dX11_count_1 hc (by decide) (by decide) rfl rfl ?_
    refine J_aload_n (q := 0) hX dX11_count_92 rfl rfl ?_
    refine K_getc 23 hX (xc_0 hw) cls_X11 (k := 2) (by decide) uw_3_18 rfl dX11_count_93 ?_
    refine K_geti hX (xc_23 hw) cls_X3 (k := 16) (by decide) uw_1_150 rfl dX11_count_96 ?_
    exact K_iret hX hr dX11_count_99 h
  rcases brc_some h with ⟨hc, h⟩ | ⟨hn_7, h⟩
  · refine K_tabIn (v := 6) (tgt := 100) hX dX11_count_1 hc (by decide) (by decide) rfl rfl ?_
    refine J_aload_n (q := 0) hX dX11_count_100 rfl rfl ?_
    refine K_getc 33 hX (xc_0 hw) cls_X11 (k := 3) (by decide) uw_3_19 rfl dX11_count_101 ?_
    refine K_geti hX (xc_33 hw) cls_X0 (k := 4) (by decide) uw_2_21 rfl dX11_count_104 ?_
    exact K_iret hX hr dX11_count_107 h
  rcases brc_some h with ⟨hc, h⟩ | ⟨hn_8, h⟩
  · refine K_tabIn (v := 7) (tgt := 108) hX dX11_count_1 hc (by decide) (by decide) rfl rfl ?_
    refine J_aload_n (q := 0) hX dX11_count_108 rfl rfl ?_
    refine K_geti hX (xc_0 hw) cls_X11 (k := 11) (by decide) uw_3_27 rfl dX11_count_109 ?_
    exact K_iret hX hr dX11_count_112 h
  rcases brc_some h with ⟨hc, h⟩ | ⟨hn_9, h⟩
  · refine K_tabIn (v := 8) (tgt := 113) hX dX11_count_1 hc (by decide) (by decide) rfl rfl ?_
    refine J_aload_n (q := 0) hX dX11_count_113 rfl rfl ?_
    refine K_getc 5 hX (xc_0 hw) cls_X11 (k := 0) (by decide) uw_3_16 rfl dX11_count_114 ?_
    refine K_geti hX (xc_5 hw) cls_X8 (k := 2) (by decide) uw_1_44 rfl dX11_count_117 ?_
    exact K_iret hX hr dX11_count_120 h
  refine K_tabOut (tgt := 121) hX dX11_count_1 (by omega) rfl ?_
  refine J_iconst (v := (-1 : Int32)) hX dX11_count_121 (by decide) ?_
  exact K_iret hX hr dX11_count_122 h
theorem ctX_count {w : WT} (hw : isX w) {v1 : Int32} {σ : St} {r : Int32} {τ : St} (h : rX_count v1 σ = some (r, τ)) : Ct yX11_count cX11_count 2 (some .int) 0 0 w [.ref (wad w 0), .int v1] σ (some (.int r)) τ 0 0 :=
  Ct_intro (fun _ => (0, 0)) (by decide) rfl ⟨rfl, Nat.le_refl _⟩ (Nat.le_of_ble_eq_true rfl) (fun X hX hR hwX hg hr => by subst hwX; exact tX_count hX hw hg hR hr v1 σ h)
