def rM_products_5 (tp : Int32 → St → Option (St)) (k5 : Int32 → St → Option (St)) (v1 : Int32) (σ : St) : Option (St) :=
  bnd2 (rM_hasSign (42 : Int32) σ) fun r_5 σ_3 => brc (r_5 = 0) (some σ_3) (bnd1 (tp v1 σ_3) fun σ_6 => bnd1 (rM_emit (6 : Int32) (0 : Int32) σ_6) fun σ_8 => k5 v1 σ_8)
set_option maxRecDepth 100000 in
theorem tM_products_5b {f lo : Nat} {X : CX} (hX : gd X cX12_products 2 RX12 none) (hw : (xw X).1 = mLy) (hg : nA X) (hR : xR X = rmOf (f + 2) (lo + 43) 0 0) {τ : St} (hr : xr X = (none, τ)) {tp : Int32 → St → Option (St)} (htp : ∀ (v1 : Int32) (σ τ : St), tp v1 σ = some τ → Ct yX12_takePart cX12_takePart 4 none f lo (xw X) [.ref (wad (xw X) 0), .int v1] σ none τ 0 0) {k5 : Int32 → St → Option (St)} (hk5 : (∀ (v1 : Int32) (σ : St), k5 v1 σ = some τ → Jd X 2 5 [(0, .ref (wad (xw X) 0)), (1, .int v1)] [] σ)) (v1 : Int32) (σ : St) (h : rM_products_5 tp k5 v1 σ = some τ) : Jd X 2 5 [(0, .ref (wad (xw X) 0)), (1, .int v1)] [] σ := by
  unfold rM_products_5 at h
  refine J_aload_n (q := 0) hX dX12_products_5 rfl rfl ?_
  refine J_bipush (v := (42 : Int32)) hX dX12_products_6 (by decide) ?_
  obtain ⟨r_5, σ_3, hc_4, h⟩ := bnd2_some h
  refine K_callV [.int (42 : Int32)] hX hg hR (ctM_hasSign hw hc_4) lk_X12_290_X12_hasSign md_X12_hasSign (mc_0 hw) cls_X12 ⟨by omega, by omega⟩ rfl rfl (Nat.le_of_ble_eq_true rfl) dX12_products_8 ?_
  refine K_if_eq (tgt := 29) hX dX12_products_11 rfl h (fun h => ?_) (fun h => ?_)
  · exact K_vret hX hr dX12_products_29 h
  · refine J_aload_n (q := 0) hX dX12_products_14 rfl rfl ?_
    refine J_iload_n (q := 1) hX dX12_products_15 rfl rfl ?_
    obtain ⟨σ_6, hc_7, h⟩ := bnd1_some h
    refine K_callV [.int v1] hX hg hR (htp _ _ _ hc_7) lk_X12_296_X12_takePart md_X12_takePart (mc_0 hw) cls_X12 ⟨by omega, by omega⟩ rfl rfl (Nat.le_of_ble_eq_true rfl) dX12_products_16 ?_
    refine J_aload_n (q := 0) hX dX12_products_19 rfl rfl ?_
    refine J_bipush (v := (6 : Int32)) hX dX12_products_20 (by decide) ?_
    refine J_iconst (v := (0 : Int32)) hX dX12_products_22 (by decide) ?_
    obtain ⟨σ_8, hc_9, h⟩ := bnd1_some h
    refine K_callV [.int (6 : Int32), .int (0 : Int32)] hX hg hR (ctM_emit hw hc_9) lk_X12_280_X12_emit md_X12_emit (mc_0 hw) cls_X12 ⟨by omega, by omega⟩ rfl rfl (Nat.le_of_ble_eq_true rfl) dX12_products_23 ?_
    refine J_goto (tgt := 5) hX dX12_products_26 rfl ?_
    refine J_sub [0, 1] rfl ?_
    exact hk5 v1 σ_8 h
def rM_products_5L (tp : Int32 → St → Option (St)) : ((Int32 × St) → Option (St)) → (Int32 × St) → Option (St) := fun k a => rM_products_5 tp (fun v1 σ => k (v1, σ)) a.1 a.2
theorem tM_products_5 {f lo : Nat} {X : CX} (hX : gd X cX12_products 2 RX12 none) (hw : (xw X).1 = mLy) (hg : nA X) (hR : xR X = rmOf (f + 2) (lo + 43) 0 0) {τ : St} (hr : xr X = (none, τ)) {tp : Int32 → St → Option (St)} (htp : ∀ (v1 : Int32) (σ τ : St), tp v1 σ = some τ → Ct yX12_takePart cX12_takePart 4 none f lo (xw X) [.ref (wad (xw X) 0), .int v1] σ none τ 0 0) (n : Nat) (v1 : Int32) (σ : St) (h : lp (rM_products_5L tp) n (v1, σ) = some τ) : Jd X 2 5 [(0, .ref (wad (xw X) 0)), (1, .int v1)] [] σ :=
  lp_ind (F := rM_products_5L tp) (P := fun a => Jd X 2 5 [(0, .ref (wad (xw X) 0)), (1, .int a.1)] [] a.2) (fun k a hk h => tM_products_5b hX hw hg hR hr htp (fun v1 σ h => hk (v1, σ) h) a.1 a.2 h) n (v1, σ) h

def rM_products (tp : Int32 → St → Option (St)) (v1 : Int32) (σ : St) : Option (St) :=
  bnd1 (tp v1 σ) fun σ_1 => lp (rM_products_5L tp) fu (v1, σ_1)
set_option maxRecDepth 100000 in
theorem tM_products {f lo : Nat} {X : CX} (hX : gd X cX12_products 2 RX12 none) (hw : (xw X).1 = mLy) (hg : nA X) (hR : xR X = rmOf (f + 2) (lo + 43) 0 0) {τ : St} (hr : xr X = (none, τ)) {tp : Int32 → St → Option (St)} (htp : ∀ (v1 : Int32) (σ τ : St), tp v1 σ = some τ → Ct yX12_takePart cX12_takePart 4 none f lo (xw X) [.ref (wad (xw X) 0), .int v1] σ none τ 0 0) (v1 : Int32) (σ : St) (h : rM_products tp v1 σ = some τ) : Jd X 2 0 [(0, .ref (wad (xw X) 0)), (1, .int v1)] [] σ := by
  unfold rM_products at h
  refine J_aload_n (q := 0) hX dX12_products_0 rfl rfl ?_
  refine J_iload_n (q := 1) hX dX12_products_1 rfl rfl ?_
  obtain ⟨σ_1, hc_2, h⟩ := bnd1_some h
  refine K_callV [.int v1] hX hg hR (htp _ _ _ hc_2) lk_X12_296_X12_takePart md_X12_takePart (mc_0 hw) cls_X12 ⟨by omega, by omega⟩ rfl rfl (Nat.le_of_ble_eq_true rfl) dX12_products_2 ?_
  refine J_sub [0, 1] rfl ?_
  exact tM_products_5 hX hw hg hR hr htp fu v1 σ_1 h
theorem ctM_products {f lo : Nat} {w : WT} (hw : w.1 = mLy) {v1 : Int32} {σ : St} {tp : Int32 → St → Option (St)} (htp : ∀ (v1 : Int32) (σ τ : St), tp v1 σ = some τ → Ct yX12_takePart cX12_takePart 4 none f lo w [.ref (wad w 0), .int v1] σ none τ 0 0) {τ : St} (h : rM_products tp v1 σ = some τ) : Ct yX12_products cX12_products 2 none (f + 2) (lo + 43) w [.ref (wad w 0), .int v1] σ none τ 0 0 :=
  Ct_intro (fun _ => (0, 0)) (by decide) rfl ⟨rfl, Nat.le_refl _⟩ (Nat.le_of_ble_eq_true rfl) (fun X hX hR hwX hg hr => by subst hwX; exact tM_products hX hw hg hR hr htp v1 σ h)

def rM_sums_55 (tp : Int32 → St → Option (St)) (k5 : Int32 → St → Option (St)) (v1 : Int32) (s0 : Int32) (σ : St) : Option (St) :=
  bnd1 (rM_emit s0 (0 : Int32) σ) fun σ_13 => k5 v1 σ_13
set_option maxRecDepth 100000 in
theorem tM_sums_55 {f lo : Nat} {X : CX} (hX : gd X cX12_sums 3 RX12 none) (hw : (xw X).1 = mLy) (hg : nA X) (hR : xR X = rmOf (f + 3) (lo + 64) 0 0) {τ : St} (hr : xr X = (none, τ)) {tp : Int32 → St → Option (St)} (htp : ∀ (v1 : Int32) (σ τ : St), tp v1 σ = some τ → Ct yX12_takePart cX12_takePart 4 none f lo (xw X) [.ref (wad (xw X) 0), .int v1] σ none τ 0 0) {k5 : Int32 → St → Option (St)} (hk5 : (∀ (v1 : Int32) (σ : St), k5 v1 σ = some τ → Jd X 3 5 [(0, .ref (wad (xw X) 0)), (1, .int v1)] [] σ)) (v1 : Int32) (s0 : Int32) (σ : St) (h : rM_sums_55 tp k5 v1 s0 σ = some τ) : Jd X 3 55 [(0, .ref (wad (xw X) 0)), (1, .int v1)] [.int s0, .ref (wad (xw X) 0)] σ := by
  unfold rM_sums_55 at h
  refine J_iconst (v := (0 : Int32)) hX dX12_sums_55 (by decide) ?_
  obtain ⟨σ_13, hc_14, h⟩ := bnd1_some h
  refine K_callV [.int s0, .int (0 : Int32)] hX hg hR (ctM_emit hw hc_14) lk_X12_280_X12_emit md_X12_emit (mc_0 hw) cls_X12 ⟨by omega, by omega⟩ rfl rfl (Nat.le_of_ble_eq_true rfl) dX12_sums_56 ?_
  refine J_goto (tgt := 5) hX dX12_sums_59 rfl ?_
  refine J_sub [0, 1] rfl ?_
  exact hk5 v1 σ_13 h

def rM_sums_23 (tp : Int32 → St → Option (St)) (k5 : Int32 → St → Option (St)) (v1 : Int32) (σ : St) : Option (St) :=
  bnd2 (rM_isSign (43 : Int32) σ) fun r_8 σ_6 => nm r_8 fun v2_9 => nm (setI σ_6 0 7 ((σ_6.1 0 7) + (1 : Int32))) fun σ_10 => bnd1 (rM_products tp v1 σ_10) fun σ_11 => brc (v2_9 = 0) (rM_sums_55 tp k5 v1 (5 : Int32) σ_11) (rM_sums_55 tp k5 v1 (4 : Int32) σ_11)
set_option maxRecDepth 100000 in
theorem tM_sums_23 {f lo : Nat} {X : CX} (hX : gd X cX12_sums 3 RX12 none) (hw : (xw X).1 = mLy) (hg : nA X) (hR : xR X = rmOf (f + 3) (lo + 64) 0 0) {τ : St} (hr : xr X = (none, τ)) {tp : Int32 → St → Option (St)} (htp : ∀ (v1 : Int32) (σ τ : St), tp v1 σ = some τ → Ct yX12_takePart cX12_takePart 4 none f lo (xw X) [.ref (wad (xw X) 0), .int v1] σ none τ 0 0) {k5 : Int32 → St → Option (St)} (hk5 : (∀ (v1 : Int32) (σ : St), k5 v1 σ = some τ → Jd X 3 5 [(0, .ref (wad (xw X) 0)), (1, .int v1)] [] σ)) (v1 : Int32) (σ : St) (h : rM_sums_23 tp k5 v1 σ = some τ) : Jd X 3 23 [(0, .ref (wad (xw X) 0)), (1, .int v1)] [] σ := by
  unfold rM_sums_23 at h
  refine J_aload_n (q := 0) hX dX12_sums_23 rfl rfl ?_
  refine J_bipush (v := (43 : Int32)) hX dX12_sums_24 (by decide) ?_
  obtain ⟨r_8, σ_6, hc_7, h⟩ := bnd2_some h
  refine K_callV [.int (43 : Int32)] hX hg hR (ctM_isSign hw hc_7) lk_X12_194_X12_isSign md_X12_isSign (mc_0 hw) cls_X12 ⟨by omega, by omega⟩ rfl rfl (Nat.le_of_ble_eq_true rfl) dX12_sums_26 ?_
  refine K_istore_n (fun v2_9 => [(2, .int v2_9), (0, .ref (wad (xw X) 0)), (1, .int v1)]) hX dX12_sums_29 rfl (by decide) (fun _ => rfl) h (fun v2_9 h => ?_)
  refine J_aload_n (q := 1) hX dX12_sums_30 rfl rfl ?_
  refine J_dup hX dX12_sums_31 rfl ?_
  refine K_geti hX (mc_0 hw) cls_X12 (k := 7) (by decide) uw_6_54 rfl dX12_sums_32 ?_
  refine J_iconst (v := (1 : Int32)) hX dX12_sums_35 (by decide) ?_
  refine J_iadd hX dX12_sums_36 ?_
  refine K_puti hX (mc_0 hw) cls_X12 (k := 7) (by decide) uw_6_54 rfl rfl rfl dX12_sums_37 h (fun σ_10 h => ?_)
  refine J_aload_n (q := 1) hX dX12_sums_40 rfl rfl ?_
  refine J_iload_n (q := 2) hX dX12_sums_41 rfl rfl ?_
  obtain ⟨σ_11, hc_12, h⟩ := bnd1_some h
  refine K_callV [.int v1] hX hg hR (ctM_products hw htp hc_12) lk_X12_293_X12_products md_X12_products (mc_0 hw) cls_X12 ⟨by omega, by omega⟩ rfl rfl (Nat.le_of_ble_eq_true rfl) dX12_sums_42 ?_
  refine J_aload_n (q := 1) hX dX12_sums_45 rfl rfl ?_
  refine J_iload_n (q := 0) hX dX12_sums_46 rfl rfl ?_
  refine K_if_eq (tgt := 54) hX dX12_sums_47 rfl h (fun h => ?_) (fun h => ?_)
  · refine J_iconst (v := (5 : Int32)) hX dX12_sums_54 (by decide) ?_
    refine J_sub [1, 2] rfl ?_
    exact tM_sums_55 hX hw hg hR hr htp hk5 v1 (5 : Int32) σ_11 h
  · refine J_iconst (v := (4 : Int32)) hX dX12_sums_50 (by decide) ?_
    refine J_goto (tgt := 55) hX dX12_sums_51 rfl ?_
    refine J_sub [1, 2] rfl ?_
    exact tM_sums_55 hX hw hg hR hr htp hk5 v1 (4 : Int32) σ_11 h

def rM_sums_5 (tp : Int32 → St → Option (St)) (k5 : Int32 → St → Option (St)) (v1 : Int32) (σ : St) : Option (St) :=
  bnd2 (rM_isSign (43 : Int32) σ) fun r_5 σ_3 => brc (¬ r_5 = 0) (rM_sums_23 tp k5 v1 σ_3) (bnd2 (rM_isSign (45 : Int32) σ_3) fun r_17 σ_15 => brc (r_17 = 0) (some σ_15) (rM_sums_23 tp k5 v1 σ_15))
set_option maxRecDepth 100000 in
theorem tM_sums_5b {f lo : Nat} {X : CX} (hX : gd X cX12_sums 3 RX12 none) (hw : (xw X).1 = mLy) (hg : nA X) (hR : xR X = rmOf (f + 3) (lo + 64) 0 0) {τ : St} (hr : xr X = (none, τ)) {tp : Int32 → St → Option (St)} (htp : ∀ (v1 : Int32) (σ τ : St), tp v1 σ = some τ → Ct yX12_takePart cX12_takePart 4 none f lo (xw X) [.ref (wad (xw X) 0), .int v1] σ none τ 0 0) {k5 : Int32 → St → Option (St)} (hk5 : (∀ (v1 : Int32) (σ : St), k5 v1 σ = some τ → Jd X 3 5 [(0, .ref (wad (xw X) 0)), (1, .int v1)] [] σ)) (v1 : Int32) (σ : St) (h : rM_sums_5 tp k5 v1 σ = some τ) : Jd X 3 5 [(0, .ref (wad (xw X) 0)), (1, .int v1)] [] σ := by
  unfold rM_sums_5 at h
  refine J_aload_n (q := 0) hX dX12_sums_5 rfl rfl ?_
  refine J_bipush (v := (43 : Int32)) hX dX12_sums_6 (by decide) ?_
  obtain ⟨r_5, σ_3, hc_4, h⟩ := bnd2_some h
  refine K_callV [.int (43 : Int32)] hX hg hR (ctM_isSign hw hc_4) lk_X12_194_X12_isSign md_X12_isSign (mc_0 hw) cls_X12 ⟨by omega, by omega⟩ rfl rfl (Nat.le_of_ble_eq_true rfl) dX12_sums_8 ?_
  refine K_if_ne (tgt := 23) hX dX12_sums_11 rfl h (fun h => ?_) (fun h => ?_)
  · refine J_sub [0, 1] rfl ?_
    exact tM_sums_23 hX hw hg hR hr htp hk5 v1 σ_3 h
  · refine J_aload_n (q := 0) hX dX12_sums_14 rfl rfl ?_
    refine J_bipush (v := (45 : Int32)) hX dX12_sums_15 (by decide) ?_
    obtain ⟨r_17, σ_15, hc_16, h⟩ := bnd2_some h
    refine K_callV [.int (45 : Int32)] hX hg hR (ctM_isSign hw hc_16) lk_X12_194_X12_isSign md_X12_isSign (mc_0 hw) cls_X12 ⟨by omega, by omega⟩ rfl rfl (Nat.le_of_ble_eq_true rfl) dX12_sums_17 ?_
    refine K_if_eq (tgt := 62) hX dX12_sums_20 rfl h (fun h => ?_) (fun h => ?_)
    · exact K_vret hX hr dX12_sums_62 h
    · refine J_sub [0, 1] rfl ?_
      exact tM_sums_23 hX hw hg hR hr htp hk5 v1 σ_15 h
def rM_sums_5L (tp : Int32 → St → Option (St)) : ((Int32 × St) → Option (St)) → (Int32 × St) → Option (St) := fun k a => rM_sums_5 tp (fun v1 σ => k (v1, σ)) a.1 a.2
theorem tM_sums_5 {f lo : Nat} {X : CX} (hX : gd X cX12_sums 3 RX12 none) (hw : (xw X).1 = mLy) (hg : nA X) (hR : xR X = rmOf (f + 3) (lo + 64) 0 0) {τ : St} (hr : xr X = (none, τ)) {tp : Int32 → St → Option (St)} (htp : ∀ (v1 : Int32) (σ τ : St), tp v1 σ = some τ → Ct yX12_takePart cX12_takePart 4 none f lo (xw X) [.ref (wad (xw X) 0), .int v1] σ none τ 0 0) (n : Nat) (v1 : Int32) (σ : St) (h : lp (rM_sums_5L tp) n (v1, σ) = some τ) : Jd X 3 5 [(0, .ref (wad (xw X) 0)), (1, .int v1)] [] σ :=
  lp_ind (F := rM_sums_5L tp) (P := fun a => Jd X 3 5 [(0, .ref (wad (xw X) 0)), (1, .int a.1)] [] a.2) (fun k a hk h => tM_sums_5b hX hw hg hR hr htp (fun v1 σ h => hk (v1, σ) h) a.1 a.2 h) n (v1, σ) h

def rM_sums (tp : Int32 → St → Option (St)) (v1 : Int32) (σ : St) : Option (St) :=
  bnd1 (rM_products tp v1 σ) fun σ_1 => lp (rM_sums_5L tp) fu (v1, σ_1)
set_option maxRecDepth 100000 in
theorem tM_sums {f lo : Nat} {X : CX} (hX : gd X cX12_sums 3 RX12 none) (hw : (xw X).1 = mLy) (hg : nA X) (hR : xR X = rmOf (f + 3) (lo + 64) 0 0) {τ : St} (hr : xr X = (none, τ)) {tp : Int32 → St → Option (St)} (htp : ∀ (v1 : Int32) (σ τ : St), tp v1 σ = some τ → Ct yX12_takePart cX12_takePart 4 none f lo (xw X) [.ref (wad (xw X) 0), .int v1] σ none τ 0 0) (v1 : Int32) (σ : St) (h : rM_sums tp v1 σ = some τ) : Jd X 3 0 [(0, .ref (wad (xw X) 0)), (1, .int v1)] [] σ := by
  unfold rM_sums at h
  refine J_aload_n (q := 0) hX dX12_sums_0 rfl rfl ?_
  refine J_iload_n (q := 1) hX dX12_sums_1 rfl rfl ?_
  obtain ⟨σ_1, hc_2, h⟩ := bnd1_some h
  refine K_callV [.int v1] hX hg hR (ctM_products hw htp hc_2) lk_X12_293_X12_products md_X12_products (mc_0 hw) cls_X12 ⟨by omega, by omega⟩ rfl rfl (Nat.le_of_ble_eq_true rfl) dX12_sums_2 ?_
  refine J_sub [0, 1] rfl ?_
  exact tM_sums_5 hX hw hg hR hr htp fu v1 σ_1 h
theorem ctM_sums {f lo : Nat} {w : WT} (hw : w.1 = mLy) {v1 : Int32} {σ : St} {tp : Int32 → St → Option (St)} (htp : ∀ (v1 : Int32) (σ τ : St), tp v1 σ = some τ → Ct yX12_takePart cX12_takePart 4 none f lo w [.ref (wad w 0), .int v1] σ none τ 0 0) {τ : St} (h : rM_sums tp v1 σ = some τ) : Ct yX12_sums cX12_sums 3 none (f + 3) (lo + 64) w [.ref (wad w 0), .int v1] σ none τ 0 0 :=
  Ct_intro (fun _ => (0, 0)) (by decide) rfl ⟨rfl, Nat.le_refl _⟩ (Nat.le_of_ble_eq_true rfl) (fun X hX hR hwX hg hr => by subst hwX; exact tM_sums hX hw hg hR hr htp v1 σ h)

def rM_test_51 (tp : Int32 → St → Option (St)) (σ : St) : Option (St) :=
  some σ
set_option maxRecDepth 100000 in
theorem tM_test_51 {f lo : Nat} {X : CX} (hX : gd X cX12_test 3 RX12 none) (hw : (xw X).1 = mLy) (hg : nA X) (hR : xR X = rmOf (f + 4) (lo + 86) 0 0) {τ : St} (hr : xr X = (none, τ)) {tp : Int32 → St → Option (St)} (htp : ∀ (v1 : Int32) (σ τ : St), tp v1 σ = some τ → Ct yX12_takePart cX12_takePart 4 none f lo (xw X) [.ref (wad (xw X) 0), .int v1] σ none τ 0 0) (σ : St) (h : rM_test_51 tp σ = some τ) : Jd X 3 51 [] [] σ := by
  unfold rM_test_51 at h
  exact K_vret hX hr dX12_test_51 h

def rM_test_47 (tp : Int32 → St → Option (St)) (s0 : Int32) (σ : St) : Option (St) :=
  bnd1 (rM_emit s0 (0 : Int32) σ) fun σ_12 => rM_test_51 tp σ_12
set_option maxRecDepth 100000 in
theorem tM_test_47 {f lo : Nat} {X : CX} (hX : gd X cX12_test 3 RX12 none) (hw : (xw X).1 = mLy) (hg : nA X) (hR : xR X = rmOf (f + 4) (lo + 86) 0 0) {τ : St} (hr : xr X = (none, τ)) {tp : Int32 → St → Option (St)} (htp : ∀ (v1 : Int32) (σ τ : St), tp v1 σ = some τ → Ct yX12_takePart cX12_takePart 4 none f lo (xw X) [.ref (wad (xw X) 0), .int v1] σ none τ 0 0) (s0 : Int32) (σ : St) (h : rM_test_47 tp s0 σ = some τ) : Jd X 3 47 [] [.int s0, .ref (wad (xw X) 0)] σ := by
  unfold rM_test_47 at h
  refine J_iconst (v := (0 : Int32)) hX dX12_test_47 (by decide) ?_
  obtain ⟨σ_12, hc_13, h⟩ := bnd1_some h
  refine K_callV [.int s0, .int (0 : Int32)] hX hg hR (ctM_emit hw hc_13) lk_X12_280_X12_emit md_X12_emit (mc_0 hw) cls_X12 ⟨by omega, by omega⟩ rfl rfl (Nat.le_of_ble_eq_true rfl) dX12_test_48 ?_
  refine J_sub [] rfl ?_
  exact tM_test_51 hX hw hg hR hr htp σ_12 h

def rM_test_30 (tp : Int32 → St → Option (St)) (v1 : Int32) (v2 : Int32) (σ : St) : Option (St) :=
  bnd1 (rM_sums tp v1 σ) fun σ_10 => brc (v2 = 0) (rM_test_47 tp (8 : Int32) σ_10) (rM_test_47 tp (7 : Int32) σ_10)
set_option maxRecDepth 100000 in
theorem tM_test_30 {f lo : Nat} {X : CX} (hX : gd X cX12_test 3 RX12 none) (hw : (xw X).1 = mLy) (hg : nA X) (hR : xR X = rmOf (f + 4) (lo + 86) 0 0) {τ : St} (hr : xr X = (none, τ)) {tp : Int32 → St → Option (St)} (htp : ∀ (v1 : Int32) (σ τ : St), tp v1 σ = some τ → Ct yX12_takePart cX12_takePart 4 none f lo (xw X) [.ref (wad (xw X) 0), .int v1] σ none τ 0 0) (v1 : Int32) (v2 : Int32) (σ : St) (h : rM_test_30 tp v1 v2 σ = some τ) : Jd X 3 30 [(0, .ref (wad (xw X) 0)), (1, .int v1), (2, .int v2)] [] σ := by
  unfold rM_test_30 at h
  refine J_aload_n (q := 0) hX dX12_test_30 rfl rfl ?_
  refine J_iload_n (q := 1) hX dX12_test_31 rfl rfl ?_
  obtain ⟨σ_10, hc_11, h⟩ := bnd1_some h
  refine K_callV [.int v1] hX hg hR (ctM_sums hw htp hc_11) lk_X12_287_X12_sums md_X12_sums (mc_0 hw) cls_X12 ⟨by omega, by omega⟩ rfl rfl (Nat.le_of_ble_eq_true rfl) dX12_test_32 ?_
  refine J_aload_n (q := 0) hX dX12_test_35 rfl rfl ?_
  refine J_iload_n (q := 2) hX dX12_test_36 rfl rfl ?_
  refine K_if_eq (tgt := 45) hX dX12_test_37 rfl h (fun h => ?_) (fun h => ?_)
  · refine J_bipush (v := (8 : Int32)) hX dX12_test_45 (by decide) ?_
    refine J_sub [] rfl ?_
    exact tM_test_47 hX hw hg hR hr htp (8 : Int32) σ_10 h
  · refine J_bipush (v := (7 : Int32)) hX dX12_test_40 (by decide) ?_
    refine J_goto (tgt := 47) hX dX12_test_42 rfl ?_
    refine J_sub [] rfl ?_
    exact tM_test_47 hX hw hg hR hr htp (7 : Int32) σ_10 h

def rM_test (tp : Int32 → St → Option (St)) (v1 : Int32) (σ : St) : Option (St) :=
  bnd1 (rM_sums tp v1 σ) fun σ_1 => bnd2 (rM_isSign (60 : Int32) σ_1) fun r_5 σ_3 => nm r_5 fun v2_6 => bnd2 (rM_hasSign (60 : Int32) σ_3) fun r_9 σ_7 => brc (¬ r_9 = 0) (rM_test_30 tp v1 v2_6 σ_7) (bnd2 (rM_hasSign (61 : Int32) σ_7) fun r_16 σ_14 => brc (r_16 = 0) (rM_test_51 tp σ_14) (rM_test_30 tp v1 v2_6 σ_14))
set_option maxRecDepth 100000 in
theorem tM_test {f lo : Nat} {X : CX} (hX : gd X cX12_test 3 RX12 none) (hw : (xw X).1 = mLy) (hg : nA X) (hR : xR X = rmOf (f + 4) (lo + 86) 0 0) {τ : St} (hr : xr X = (none, τ)) {tp : Int32 → St → Option (St)} (htp : ∀ (v1 : Int32) (σ τ : St), tp v1 σ = some τ → Ct yX12_takePart cX12_takePart 4 none f lo (xw X) [.ref (wad (xw X) 0), .int v1] σ none τ 0 0) (v1 : Int32) (σ : St) (h : rM_test tp v1 σ = some τ) : Jd X 3 0 [(0, .ref (wad (xw X) 0)), (1, .int v1)] [] σ := by
  unfold rM_test at h
  refine J_aload_n (q := 0) hX dX12_test_0 rfl rfl ?_
  refine J_iload_n (q := 1) hX dX12_test_1 rfl rfl ?_
  obtain ⟨σ_1, hc_2, h⟩ := bnd1_some h
  refine K_callV [.int v1] hX hg hR (ctM_sums hw htp hc_2) lk_X12_287_X12_sums md_X12_sums (mc_0 hw) cls_X12 ⟨by omega, by omega⟩ rfl rfl (Nat.le_of_ble_eq_true rfl) dX12_test_2 ?_
  refine J_aload_n (q := 0) hX dX12_test_5 rfl rfl ?_
  refine J_bipush (v := (60 : Int32)) hX dX12_test_6 (by decide) ?_
  obtain ⟨r_5, σ_3, hc_4, h⟩ := bnd2_some h
  refine K_callV [.int (60 : Int32)] hX hg hR (ctM_isSign hw hc_4) lk_X12_194_X12_isSign md_X12_isSign (mc_0 hw) cls_X12 ⟨by omega, by omega⟩ rfl rfl (Nat.le_of_ble_eq_true rfl) dX12_test_8 ?_
  refine K_istore_n (fun v2_6 => [(2, .int v2_6), (0, .ref (wad (xw X) 0)), (1, .int v1)]) hX dX12_test_11 rfl (by decide) (fun _ => rfl) h (fun v2_6 h => ?_)
  refine J_aload_n (q := 1) hX dX12_test_12 rfl rfl ?_
  refine J_bipush (v := (60 : Int32)) hX dX12_test_13 (by decide) ?_
  obtain ⟨r_9, σ_7, hc_8, h⟩ := bnd2_some h
  refine K_callV [.int (60 : Int32)] hX hg hR (ctM_hasSign hw hc_8) lk_X12_290_X12_hasSign md_X12_hasSign (mc_0 hw) cls_X12 ⟨by omega, by omega⟩ rfl rfl (Nat.le_of_ble_eq_true rfl) dX12_test_15 ?_
  refine K_if_ne (tgt := 30) hX dX12_test_18 rfl h (fun h => ?_) (fun h => ?_)
  · refine J_sub [1, 2, 0] rfl ?_
    exact tM_test_30 hX hw hg hR hr htp v1 v2_6 σ_7 h
  · refine J_aload_n (q := 1) hX dX12_test_21 rfl rfl ?_
    refine J_bipush (v := (61 : Int32)) hX dX12_test_22 (by decide) ?_
    obtain ⟨r_16, σ_14, hc_15, h⟩ := bnd2_some h
    refine K_callV [.int (61 : Int32)] hX hg hR (ctM_hasSign hw hc_15) lk_X12_290_X12_hasSign md_X12_hasSign (mc_0 hw) cls_X12 ⟨by omega, by omega⟩ rfl rfl (Nat.le_of_ble_eq_true rfl) dX12_test_24 ?_
    refine K_if_eq (tgt := 51) hX dX12_test_27 rfl h (fun h => ?_) (fun h => ?_)
    · refine J_sub [] rfl ?_
      exact tM_test_51 hX hw hg hR hr htp σ_14 h
    · refine J_sub [1, 2, 0] rfl ?_
      exact tM_test_30 hX hw hg hR hr htp v1 v2_6 σ_14 h
theorem ctM_test {f lo : Nat} {w : WT} (hw : w.1 = mLy) {v1 : Int32} {σ : St} {tp : Int32 → St → Option (St)} (htp : ∀ (v1 : Int32) (σ τ : St), tp v1 σ = some τ → Ct yX12_takePart cX12_takePart 4 none f lo w [.ref (wad w 0), .int v1] σ none τ 0 0) {τ : St} (h : rM_test tp v1 σ = some τ) : Ct yX12_test cX12_test 3 none (f + 4) (lo + 86) w [.ref (wad w 0), .int v1] σ none τ 0 0 :=
  Ct_intro (fun _ => (0, 0)) (by decide) rfl ⟨rfl, Nat.le_refl _⟩ (Nat.le_of_ble_eq_true rfl) (fun X hX hR hwX hg hr => by subst hwX; exact tM_test hX hw hg hR hr htp v1 σ h)

def rM_all_57 (tp : Int32 → St → Option (St)) (k5 : Int32 → St → Option (St)) (v1 : Int32) (s0 : Int32) (σ : St) : Option (St) :=
  bnd1 (rM_emit s0 (0 : Int32) σ) fun σ_13 => k5 v1 σ_13
set_option maxRecDepth 100000 in
theorem tM_all_57 {f lo : Nat} {X : CX} (hX : gd X cX12_all 3 RX12 none) (hw : (xw X).1 = mLy) (hg : nA X) (hR : xR X = rmOf (f + 5) (lo + 108) 0 0) {τ : St} (hr : xr X = (none, τ)) {tp : Int32 → St → Option (St)} (htp : ∀ (v1 : Int32) (σ τ : St), tp v1 σ = some τ → Ct yX12_takePart cX12_takePart 4 none f lo (xw X) [.ref (wad (xw X) 0), .int v1] σ none τ 0 0) {k5 : Int32 → St → Option (St)} (hk5 : (∀ (v1 : Int32) (σ : St), k5 v1 σ = some τ → Jd X 3 5 [(0, .ref (wad (xw X) 0)), (1, .int v1)] [] σ)) (v1 : Int32) (s0 : Int32) (σ : St) (h : rM_all_57 tp k5 v1 s0 σ = some τ) : Jd X 3 57 [(0, .ref (wad (xw X) 0)), (1, .int v1)] [.int s0, .ref (wad (xw X) 0)] σ := by
  unfold rM_all_57 at h
  refine J_iconst (v := (0 : Int32)) hX dX12_all_57 (by decide) ?_
  obtain ⟨σ_13, hc_14, h⟩ := bnd1_some h
  refine K_callV [.int s0, .int (0 : Int32)] hX hg hR (ctM_emit hw hc_14) lk_X12_280_X12_emit md_X12_emit (mc_0 hw) cls_X12 ⟨by omega, by omega⟩ rfl rfl (Nat.le_of_ble_eq_true rfl) dX12_all_58 ?_
  refine J_goto (tgt := 5) hX dX12_all_61 rfl ?_
  refine J_sub [0, 1] rfl ?_
  exact hk5 v1 σ_13 h

def rM_all_23 (tp : Int32 → St → Option (St)) (k5 : Int32 → St → Option (St)) (v1 : Int32) (σ : St) : Option (St) :=
  bnd2 (rM_isWord (23 : Int32) σ) fun r_8 σ_6 => nm r_8 fun v2_9 => nm (setI σ_6 0 7 ((σ_6.1 0 7) + (1 : Int32))) fun σ_10 => bnd1 (rM_test tp v1 σ_10) fun σ_11 => brc (v2_9 = 0) (rM_all_57 tp k5 v1 (10 : Int32) σ_11) (rM_all_57 tp k5 v1 (9 : Int32) σ_11)
set_option maxRecDepth 100000 in
theorem tM_all_23 {f lo : Nat} {X : CX} (hX : gd X cX12_all 3 RX12 none) (hw : (xw X).1 = mLy) (hg : nA X) (hR : xR X = rmOf (f + 5) (lo + 108) 0 0) {τ : St} (hr : xr X = (none, τ)) {tp : Int32 → St → Option (St)} (htp : ∀ (v1 : Int32) (σ τ : St), tp v1 σ = some τ → Ct yX12_takePart cX12_takePart 4 none f lo (xw X) [.ref (wad (xw X) 0), .int v1] σ none τ 0 0) {k5 : Int32 → St → Option (St)} (hk5 : (∀ (v1 : Int32) (σ : St), k5 v1 σ = some τ → Jd X 3 5 [(0, .ref (wad (xw X) 0)), (1, .int v1)] [] σ)) (v1 : Int32) (σ : St) (h : rM_all_23 tp k5 v1 σ = some τ) : Jd X 3 23 [(0, .ref (wad (xw X) 0)), (1, .int v1)] [] σ := by
  unfold rM_all_23 at h
  refine J_aload_n (q := 0) hX dX12_all_23 rfl rfl ?_
  refine J_bipush (v := (23 : Int32)) hX dX12_all_24 (by decide) ?_
  obtain ⟨r_8, σ_6, hc_7, h⟩ := bnd2_some h
  refine K_callV [.int (23 : Int32)] hX hg hR (ctM_isWord hw hc_7) lk_X12_200_X12_isWord md_X12_isWord (mc_0 hw) cls_X12 ⟨by omega, by omega⟩ rfl rfl (Nat.le_of_ble_eq_true rfl) dX12_all_26 ?_
  refine K_istore_n (fun v2_9 => [(2, .int v2_9), (0, .ref (wad (xw X) 0)), (1, .int v1)]) hX dX12_all_29 rfl (by decide) (fun _ => rfl) h (fun v2_9 h => ?_)
  refine J_aload_n (q := 1) hX dX12_all_30 rfl rfl ?_
  refine J_dup hX dX12_all_31 rfl ?_
  refine K_geti hX (mc_0 hw) cls_X12 (k := 7) (by decide) uw_6_54 rfl dX12_all_32 ?_
  refine J_iconst (v := (1 : Int32)) hX dX12_all_35 (by decide) ?_
  refine J_iadd hX dX12_all_36 ?_
  refine K_puti hX (mc_0 hw) cls_X12 (k := 7) (by decide) uw_6_54 rfl rfl rfl dX12_all_37 h (fun σ_10 h => ?_)
  refine J_aload_n (q := 1) hX dX12_all_40 rfl rfl ?_
  refine J_iload_n (q := 2) hX dX12_all_41 rfl rfl ?_
  obtain ⟨σ_11, hc_12, h⟩ := bnd1_some h
  refine K_callV [.int v1] hX hg hR (ctM_test hw htp hc_12) lk_X12_284_X12_test md_X12_test (mc_0 hw) cls_X12 ⟨by omega, by omega⟩ rfl rfl (Nat.le_of_ble_eq_true rfl) dX12_all_42 ?_
  refine J_aload_n (q := 1) hX dX12_all_45 rfl rfl ?_
  refine J_iload_n (q := 0) hX dX12_all_46 rfl rfl ?_
  refine K_if_eq (tgt := 55) hX dX12_all_47 rfl h (fun h => ?_) (fun h => ?_)
  · refine J_bipush (v := (10 : Int32)) hX dX12_all_55 (by decide) ?_
    refine J_sub [1, 2] rfl ?_
    exact tM_all_57 hX hw hg hR hr htp hk5 v1 (10 : Int32) σ_11 h
  · refine J_bipush (v := (9 : Int32)) hX dX12_all_50 (by decide) ?_
    refine J_goto (tgt := 57) hX dX12_all_52 rfl ?_
    refine J_sub [1, 2] rfl ?_
    exact tM_all_57 hX hw hg hR hr htp hk5 v1 (9 : Int32) σ_11 h

def rM_all_5 (tp : Int32 → St → Option (St)) (k5 : Int32 → St → Option (St)) (v1 : Int32) (σ : St) : Option (St) :=
  bnd2 (rM_isWord (23 : Int32) σ) fun r_5 σ_3 => brc (¬ r_5 = 0) (rM_all_23 tp k5 v1 σ_3) (bnd2 (rM_isWord (24 : Int32) σ_3) fun r_17 σ_15 => brc (r_17 = 0) (some σ_15) (rM_all_23 tp k5 v1 σ_15))
set_option maxRecDepth 100000 in
theorem tM_all_5b {f lo : Nat} {X : CX} (hX : gd X cX12_all 3 RX12 none) (hw : (xw X).1 = mLy) (hg : nA X) (hR : xR X = rmOf (f + 5) (lo + 108) 0 0) {τ : St} (hr : xr X = (none, τ)) {tp : Int32 → St → Option (St)} (htp : ∀ (v1 : Int32) (σ τ : St), tp v1 σ = some τ → Ct yX12_takePart cX12_takePart 4 none f lo (xw X) [.ref (wad (xw X) 0), .int v1] σ none τ 0 0) {k5 : Int32 → St → Option (St)} (hk5 : (∀ (v1 : Int32) (σ : St), k5 v1 σ = some τ → Jd X 3 5 [(0, .ref (wad (xw X) 0)), (1, .int v1)] [] σ)) (v1 : Int32) (σ : St) (h : rM_all_5 tp k5 v1 σ = some τ) : Jd X 3 5 [(0, .ref (wad (xw X) 0)), (1, .int v1)] [] σ := by
  unfold rM_all_5 at h
  refine J_aload_n (q := 0) hX dX12_all_5 rfl rfl ?_
  refine J_bipush (v := (23 : Int32)) hX dX12_all_6 (by decide) ?_
  obtain ⟨r_5, σ_3, hc_4, h⟩ := bnd2_some h
  refine K_callV [.int (23 : Int32)] hX hg hR (ctM_isWord hw hc_4) lk_X12_200_X12_isWord md_X12_isWord (mc_0 hw) cls_X12 ⟨by omega, by omega⟩ rfl rfl (Nat.le_of_ble_eq_true rfl) dX12_all_8 ?_
  refine K_if_ne (tgt := 23) hX dX12_all_11 rfl h (fun h => ?_) (fun h => ?_)
  · refine J_sub [0, 1] rfl ?_
    exact tM_all_23 hX hw hg hR hr htp hk5 v1 σ_3 h
  · refine J_aload_n (q := 0) hX dX12_all_14 rfl rfl ?_
    refine J_bipush (v := (24 : Int32)) hX dX12_all_15 (by decide) ?_
    obtain ⟨r_17, σ_15, hc_16, h⟩ := bnd2_some h
    refine K_callV [.int (24 : Int32)] hX hg hR (ctM_isWord hw hc_16) lk_X12_200_X12_isWord md_X12_isWord (mc_0 hw) cls_X12 ⟨by omega, by omega⟩ rfl rfl (Nat.le_of_ble_eq_true rfl) dX12_all_17 ?_
    refine K_if_eq (tgt := 64) hX dX12_all_20 rfl h (fun h => ?_) (fun h => ?_)
    · exact K_vret hX hr dX12_all_64 h
    · refine J_sub [0, 1] rfl ?_
      exact tM_all_23 hX hw hg hR hr htp hk5 v1 σ_15 h
def rM_all_5L (tp : Int32 → St → Option (St)) : ((Int32 × St) → Option (St)) → (Int32 × St) → Option (St) := fun k a => rM_all_5 tp (fun v1 σ => k (v1, σ)) a.1 a.2
theorem tM_all_5 {f lo : Nat} {X : CX} (hX : gd X cX12_all 3 RX12 none) (hw : (xw X).1 = mLy) (hg : nA X) (hR : xR X = rmOf (f + 5) (lo + 108) 0 0) {τ : St} (hr : xr X = (none, τ)) {tp : Int32 → St → Option (St)} (htp : ∀ (v1 : Int32) (σ τ : St), tp v1 σ = some τ → Ct yX12_takePart cX12_takePart 4 none f lo (xw X) [.ref (wad (xw X) 0), .int v1] σ none τ 0 0) (n : Nat) (v1 : Int32) (σ : St) (h : lp (rM_all_5L tp) n (v1, σ) = some τ) : Jd X 3 5 [(0, .ref (wad (xw X) 0)), (1, .int v1)] [] σ :=
  lp_ind (F := rM_all_5L tp) (P := fun a => Jd X 3 5 [(0, .ref (wad (xw X) 0)), (1, .int a.1)] [] a.2) (fun k a hk h => tM_all_5b hX hw hg hR hr htp (fun v1 σ h => hk (v1, σ) h) a.1 a.2 h) n (v1, σ) h

def rM_all (tp : Int32 → St → Option (St)) (v1 : Int32) (σ : St) : Option (St) :=
  bnd1 (rM_test tp v1 σ) fun σ_1 => lp (rM_all_5L tp) fu (v1, σ_1)
set_option maxRecDepth 100000 in
theorem tM_all {f lo : Nat} {X : CX} (hX : gd X cX12_all 3 RX12 none) (hw : (xw X).1 = mLy) (hg : nA X) (hR : xR X = rmOf (f + 5) (lo + 108) 0 0) {τ : St} (hr : xr X = (none, τ)) {tp : Int32 → St → Option (St)} (htp : ∀ (v1 : Int32) (σ τ : St), tp v1 σ = some τ → Ct yX12_takePart cX12_takePart 4 none f lo (xw X) [.ref (wad (xw X) 0), .int v1] σ none τ 0 0) (v1 : Int32) (σ : St) (h : rM_all tp v1 σ = some τ) : Jd X 3 0 [(0, .ref (wad (xw X) 0)), (1, .int v1)] [] σ := by
  unfold rM_all at h
  refine J_aload_n (q := 0) hX dX12_all_0 rfl rfl ?_
  refine J_iload_n (q := 1) hX dX12_all_1 rfl rfl ?_
  obtain ⟨σ_1, hc_2, h⟩ := bnd1_some h
  refine K_callV [.int v1] hX hg hR (ctM_test hw htp hc_2) lk_X12_284_X12_test md_X12_test (mc_0 hw) cls_X12 ⟨by omega, by omega⟩ rfl rfl (Nat.le_of_ble_eq_true rfl) dX12_all_2 ?_
  refine J_sub [0, 1] rfl ?_
  exact tM_all_5 hX hw hg hR hr htp fu v1 σ_1 h
theorem ctM_all {f lo : Nat} {w : WT} (hw : w.1 = mLy) {v1 : Int32} {σ : St} {tp : Int32 → St → Option (St)} (htp : ∀ (v1 : Int32) (σ τ : St), tp v1 σ = some τ → Ct yX12_takePart cX12_takePart 4 none f lo w [.ref (wad w 0), .int v1] σ none τ 0 0) {τ : St} (h : rM_all tp v1 σ = some τ) : Ct yX12_all cX12_all 3 none (f + 5) (lo + 108) w [.ref (wad w 0), .int v1] σ none τ 0 0 :=
  Ct_intro (fun _ => (0, 0)) (by decide) rfl ⟨rfl, Nat.le_refl _⟩ (Nat.le_of_ble_eq_true rfl) (fun X hX hR hwX hg hr => by subst hwX; exact tM_all hX hw hg hR hr htp v1 σ h)

def rM_takePartB_175 (tp : Int32 → St → Option (St)) (σ : St) : Option (St) :=
  some σ
set_option maxRecDepth 100000 in
theorem tM_takePartB_175 {f lo : Nat} {X : CX} (hX : gd X cX12_takePart 4 RX12 none) (hw : (xw X).1 = mLy) (hg : nA X) (hR : xR X = rmOf (f + 6) (lo + 130) 0 0) {τ : St} (hr : xr X = (none, τ)) {tp : Int32 → St → Option (St)} (htp : ∀ (v1 : Int32) (σ τ : St), tp v1 σ = some τ → Ct yX12_takePart cX12_takePart 4 none f lo (xw X) [.ref (wad (xw X) 0), .int v1] σ none τ 0 0) (σ : St) (h : rM_takePartB_175 tp σ = some τ) : Jd X 4 175 [] [] σ := by
  unfold rM_takePartB_175 at h
  exact K_vret hX hr dX12_takePart_175 h

def rM_takePartB_162 (tp : Int32 → St → Option (St)) (s0 : Int32) (s1 : Int32) (σ : St) : Option (St) :=
  bnd1 (rM_emit s1 s0 σ) fun σ_12 => nm (setI σ_12 0 7 ((σ_12.1 0 7) + (1 : Int32))) fun σ_14 => rM_takePartB_175 tp σ_14
set_option maxRecDepth 100000 in
theorem tM_takePartB_162 {f lo : Nat} {X : CX} (hX : gd X cX12_takePart 4 RX12 none) (hw : (xw X).1 = mLy) (hg : nA X) (hR : xR X = rmOf (f + 6) (lo + 130) 0 0) {τ : St} (hr : xr X = (none, τ)) {tp : Int32 → St → Option (St)} (htp : ∀ (v1 : Int32) (σ τ : St), tp v1 σ = some τ → Ct yX12_takePart cX12_takePart 4 none f lo (xw X) [.ref (wad (xw X) 0), .int v1] σ none τ 0 0) (s0 : Int32) (s1 : Int32) (σ : St) (h : rM_takePartB_162 tp s0 s1 σ = some τ) : Jd X 4 162 [(0, .ref (wad (xw X) 0))] [.int s0, .int s1, .ref (wad (xw X) 0)] σ := by
  unfold rM_takePartB_162 at h
  obtain ⟨σ_12, hc_13, h⟩ := bnd1_some h
  refine K_callV [.int s1, .int s0] hX hg hR (ctM_emit hw hc_13) lk_X12_280_X12_emit md_X12_emit (mc_0 hw) cls_X12 ⟨by omega, by omega⟩ rfl rfl (Nat.le_of_ble_eq_true rfl) dX12_takePart_162 ?_
  refine J_aload_n (q := 0) hX dX12_takePart_165 rfl rfl ?_
  refine J_dup hX dX12_takePart_166 rfl ?_
  refine K_geti hX (mc_0 hw) cls_X12 (k := 7) (by decide) uw_6_54 rfl dX12_takePart_167 ?_
  refine J_iconst (v := (1 : Int32)) hX dX12_takePart_170 (by decide) ?_
  refine J_iadd hX dX12_takePart_171 ?_
  refine K_puti hX (mc_0 hw) cls_X12 (k := 7) (by decide) uw_6_54 rfl rfl rfl dX12_takePart_172 h (fun σ_14 h => ?_)
  refine J_sub [] rfl ?_
  exact tM_takePartB_175 hX hw hg hR hr htp σ_14 h

def rM_takePartB_144 (tp : Int32 → St → Option (St)) (v2 : Int32) (v3 : Int32) (s0 : Int32) (σ : St) : Option (St) :=
  brc (v2 = 0) (rM_takePartB_162 tp v3 s0 σ) (chk (ib (σ.1 0 7) 1002) (rM_takePartB_162 tp ((σ.2.1 4 (σ.1 0 7).toNatClampNeg).toInt32) s0 σ))
set_option maxRecDepth 100000 in
theorem tM_takePartB_144 {f lo : Nat} {X : CX} (hX : gd X cX12_takePart 4 RX12 none) (hw : (xw X).1 = mLy) (hg : nA X) (hR : xR X = rmOf (f + 6) (lo + 130) 0 0) {τ : St} (hr : xr X = (none, τ)) {tp : Int32 → St → Option (St)} (htp : ∀ (v1 : Int32) (σ τ : St), tp v1 σ = some τ → Ct yX12_takePart cX12_takePart 4 none f lo (xw X) [.ref (wad (xw X) 0), .int v1] σ none τ 0 0) (v2 : Int32) (v3 : Int32) (s0 : Int32) (σ : St) (h : rM_takePartB_144 tp v2 v3 s0 σ = some τ) : Jd X 4 144 [(0, .ref (wad (xw X) 0)), (2, .int v2), (3, .int v3)] [.int s0, .ref (wad (xw X) 0)] σ := by
  unfold rM_takePartB_144 at h
  refine J_iload_n (q := 1) hX dX12_takePart_144 rfl rfl ?_
  refine K_if_eq (tgt := 161) hX dX12_takePart_145 rfl h (fun h => ?_) (fun h => ?_)
  · refine J_iload_n (q := 2) hX dX12_takePart_161 rfl rfl ?_
    refine J_sub [0] rfl ?_
    exact tM_takePartB_162 hX hw hg hR hr htp v3 s0 σ h
  · refine J_aload_n (q := 0) hX dX12_takePart_148 rfl rfl ?_
    refine K_getc 4 hX (mc_0 hw) cls_X12 (k := 6) (by decide) uw_6_53 rfl dX12_takePart_149 ?_
    refine J_aload_n (q := 0) hX dX12_takePart_152 rfl rfl ?_
    refine K_geti hX (mc_0 hw) cls_X12 (k := 7) (by decide) uw_6_54 rfl dX12_takePart_153 ?_
    refine K_lald hX (mc_4 hw) dX12_takePart_156 h (fun h => ?_)
    refine J_l2i hX dX12_takePart_157 ?_
    refine J_goto (tgt := 162) hX dX12_takePart_158 rfl ?_
    refine J_sub [0] rfl ?_
    exact tM_takePartB_162 hX hw hg hR hr htp ((σ.2.1 4 (σ.1 0 7).toNatClampNeg).toInt32) s0 σ h

def rM_takePartB_76 (tp : Int32 → St → Option (St)) (v1 : Int32) (v2 : Int32) (v3 : Int32) (σ : St) : Option (St) :=
  brc ((σ.1 0 8) ≤ 0) (bnd2 (rM_hasWord (22 : Int32) σ) fun r_8 σ_6 => brc (r_8 = 0) (bnd2 (rM_hasSign (40 : Int32) σ_6) fun r_11 σ_9 => brc (r_11 = 0) (brc (v2 = 0) (rM_takePartB_144 tp v2 v3 (2 : Int32) σ_9) (rM_takePartB_144 tp v2 v3 (1 : Int32) σ_9)) (bnd1 (rM_all tp (v1 + (1 : Int32)) σ_9) fun σ_15 => bnd1 (rM_takeSign (41 : Int32) σ_15) fun σ_17 => rM_takePartB_175 tp σ_17)) (bnd1 (tp (v1 + (1 : Int32)) σ_6) fun σ_19 => bnd1 (rM_emit (3 : Int32) (0 : Int32) σ_19) fun σ_21 => rM_takePartB_175 tp σ_21)) (some σ)
set_option maxRecDepth 100000 in
theorem tM_takePartB_76 {f lo : Nat} {X : CX} (hX : gd X cX12_takePart 4 RX12 none) (hw : (xw X).1 = mLy) (hg : nA X) (hR : xR X = rmOf (f + 6) (lo + 130) 0 0) {τ : St} (hr : xr X = (none, τ)) {tp : Int32 → St → Option (St)} (htp : ∀ (v1 : Int32) (σ τ : St), tp v1 σ = some τ → Ct yX12_takePart cX12_takePart 4 none f lo (xw X) [.ref (wad (xw X) 0), .int v1] σ none τ 0 0) (v1 : Int32) (v2 : Int32) (v3 : Int32) (σ : St) (h : rM_takePartB_76 tp v1 v2 v3 σ = some τ) : Jd X 4 76 [(0, .ref (wad (xw X) 0)), (1, .int v1), (2, .int v2), (3, .int v3)] [] σ := by
  unfold rM_takePartB_76 at h
  refine J_aload_n (q := 0) hX dX12_takePart_76 rfl rfl ?_
  refine K_geti hX (mc_0 hw) cls_X12 (k := 8) (by decide) uw_6_55 rfl dX12_takePart_77 ?_
  refine K_if_le (tgt := 84) hX dX12_takePart_80 rfl h (fun h => ?_) (fun h => ?_)
  · refine J_aload_n (q := 0) hX dX12_takePart_84 rfl rfl ?_
    refine J_bipush (v := (22 : Int32)) hX dX12_takePart_85 (by decide) ?_
    obtain ⟨r_8, σ_6, hc_7, h⟩ := bnd2_some h
    refine K_callV [.int (22 : Int32)] hX hg hR (ctM_hasWord hw hc_7) lk_X12_203_X12_hasWord md_X12_hasWord (mc_0 hw) cls_X12 ⟨by omega, by omega⟩ rfl rfl (Nat.le_of_ble_eq_true rfl) dX12_takePart_87 ?_
    refine K_if_eq (tgt := 109) hX dX12_takePart_90 rfl h (fun h => ?_) (fun h => ?_)
    · refine J_aload_n (q := 0) hX dX12_takePart_109 rfl rfl ?_
      refine J_bipush (v := (40 : Int32)) hX dX12_takePart_110 (by decide) ?_
      obtain ⟨r_11, σ_9, hc_10, h⟩ := bnd2_some h
      refine K_callV [.int (40 : Int32)] hX hg hR (ctM_hasSign hw hc_10) lk_X12_290_X12_hasSign md_X12_hasSign (mc_0 hw) cls_X12 ⟨by omega, by omega⟩ rfl rfl (Nat.le_of_ble_eq_true rfl) dX12_takePart_112 ?_
      refine K_if_eq (tgt := 134) hX dX12_takePart_115 rfl h (fun h => ?_) (fun h => ?_)
      · refine J_aload_n (q := 0) hX dX12_takePart_134 rfl rfl ?_
        refine J_iload_n (q := 2) hX dX12_takePart_135 rfl rfl ?_
        refine K_if_eq (tgt := 143) hX dX12_takePart_136 rfl h (fun h => ?_) (fun h => ?_)
        · refine J_iconst (v := (2 : Int32)) hX dX12_takePart_143 (by decide) ?_
          refine J_sub [0, 2, 3] rfl ?_
          exact tM_takePartB_144 hX hw hg hR hr htp v2 v3 (2 : Int32) σ_9 h
        · refine J_iconst (v := (1 : Int32)) hX dX12_takePart_139 (by decide) ?_
          refine J_goto (tgt := 144) hX dX12_takePart_140 rfl ?_
          refine J_sub [0, 2, 3] rfl ?_
          exact tM_takePartB_144 hX hw hg hR hr htp v2 v3 (1 : Int32) σ_9 h
      · refine J_aload_n (q := 0) hX dX12_takePart_118 rfl rfl ?_
        refine J_iload_n (q := 1) hX dX12_takePart_119 rfl rfl ?_
        refine J_iconst (v := (1 : Int32)) hX dX12_takePart_120 (by decide) ?_
        refine J_iadd hX dX12_takePart_121 ?_
        obtain ⟨σ_15, hc_16, h⟩ := bnd1_some h
        refine K_callV [.int (v1 + (1 : Int32))] hX hg hR (ctM_all hw htp hc_16) lk_X12_277_X12_all md_X12_all (mc_0 hw) cls_X12 ⟨by omega, by omega⟩ rfl rfl (Nat.le_of_ble_eq_true rfl) dX12_takePart_122 ?_
        refine J_aload_n (q := 0) hX dX12_takePart_125 rfl rfl ?_
        refine J_bipush (v := (41 : Int32)) hX dX12_takePart_126 (by decide) ?_
        obtain ⟨σ_17, hc_18, h⟩ := bnd1_some h
        refine K_callV [.int (41 : Int32)] hX hg hR (ctM_takeSign hw hc_18) lk_X12_228_X12_takeSign md_X12_takeSign (mc_0 hw) cls_X12 ⟨by omega, by omega⟩ rfl rfl (Nat.le_of_ble_eq_true rfl) dX12_takePart_128 ?_
        refine J_goto (tgt := 175) hX dX12_takePart_131 rfl ?_
        refine J_sub [] rfl ?_
        exact tM_takePartB_175 hX hw hg hR hr htp σ_17 h
    · refine J_aload_n (q := 0) hX dX12_takePart_93 rfl rfl ?_
      refine J_iload_n (q := 1) hX dX12_takePart_94 rfl rfl ?_
      refine J_iconst (v := (1 : Int32)) hX dX12_takePart_95 (by decide) ?_
      refine J_iadd hX dX12_takePart_96 ?_
      obtain ⟨σ_19, hc_20, h⟩ := bnd1_some h
      refine K_callV [.int (v1 + (1 : Int32))] hX hg hR (htp _ _ _ hc_20) lk_X12_296_X12_takePart md_X12_takePart (mc_0 hw) cls_X12 ⟨by omega, by omega⟩ rfl rfl (Nat.le_of_ble_eq_true rfl) dX12_takePart_97 ?_
      refine J_aload_n (q := 0) hX dX12_takePart_100 rfl rfl ?_
      refine J_iconst (v := (3 : Int32)) hX dX12_takePart_101 (by decide) ?_
      refine J_iconst (v := (0 : Int32)) hX dX12_takePart_102 (by decide) ?_
      obtain ⟨σ_21, hc_22, h⟩ := bnd1_some h
      refine K_callV [.int (3 : Int32), .int (0 : Int32)] hX hg hR (ctM_emit hw hc_22) lk_X12_280_X12_emit md_X12_emit (mc_0 hw) cls_X12 ⟨by omega, by omega⟩ rfl rfl (Nat.le_of_ble_eq_true rfl) dX12_takePart_103 ?_
      refine J_goto (tgt := 175) hX dX12_takePart_106 rfl ?_
      refine J_sub [] rfl ?_
      exact tM_takePartB_175 hX hw hg hR hr htp σ_21 h
  · exact K_vret hX hr dX12_takePart_83 h

def rM_takePartB_66 (tp : Int32 → St → Option (St)) (v1 : Int32) (v2 : Int32) (v3 : Int32) (σ : St) : Option (St) :=
  brc (¬ v1 = (5 : Int32)) (rM_takePartB_76 tp v1 v2 v3 σ) (bnd1 (rM_wrong (5 : Int32) σ) fun σ_23 => rM_takePartB_76 tp v1 v2 v3 σ_23)
set_option maxRecDepth 100000 in
theorem tM_takePartB_66 {f lo : Nat} {X : CX} (hX : gd X cX12_takePart 4 RX12 none) (hw : (xw X).1 = mLy) (hg : nA X) (hR : xR X = rmOf (f + 6) (lo + 130) 0 0) {τ : St} (hr : xr X = (none, τ)) {tp : Int32 → St → Option (St)} (htp : ∀ (v1 : Int32) (σ τ : St), tp v1 σ = some τ → Ct yX12_takePart cX12_takePart 4 none f lo (xw X) [.ref (wad (xw X) 0), .int v1] σ none τ 0 0) (v1 : Int32) (v2 : Int32) (v3 : Int32) (σ : St) (h : rM_takePartB_66 tp v1 v2 v3 σ = some τ) : Jd X 4 66 [(0, .ref (wad (xw X) 0)), (1, .int v1), (2, .int v2), (3, .int v3)] [] σ := by
  unfold rM_takePartB_66 at h
  refine J_iload_n (q := 1) hX dX12_takePart_66 rfl rfl ?_
  refine J_iconst (v := (5 : Int32)) hX dX12_takePart_67 (by decide) ?_
  refine K_icmp_ne (tgt := 76) hX dX12_takePart_68 rfl h (fun h => ?_) (fun h => ?_)
  · refine J_sub [0, 1, 2, 3] rfl ?_
    exact tM_takePartB_76 hX hw hg hR hr htp v1 v2 v3 σ h
  · refine J_aload_n (q := 0) hX dX12_takePart_71 rfl rfl ?_
    refine J_iconst (v := (5 : Int32)) hX dX12_takePart_72 (by decide) ?_
    obtain ⟨σ_23, hc_24, h⟩ := bnd1_some h
    refine K_callV [.int (5 : Int32)] hX hg hR (ctM_wrong hw hc_24) lk_X12_197_X12_wrong md_X12_wrong (mc_0 hw) cls_X12 ⟨by omega, by omega⟩ rfl rfl (Nat.le_of_ble_eq_true rfl) dX12_takePart_73 ?_
    refine J_sub [0, 1, 2, 3] rfl ?_
    exact tM_takePartB_76 hX hw hg hR hr htp v1 v2 v3 σ_23 h

def rM_takePartB_26 (tp : Int32 → St → Option (St)) (v1 : Int32) (s0 : Int32) (σ : St) : Option (St) :=
  nm s0 fun v2_1 => bnd2 (rM_factHere σ) fun r_4 σ_2 => nm r_4 fun v3_5 => brc (0 ≤ v3_5) (rM_takePartB_66 tp v1 v2_1 v3_5 σ_2) (brc (¬ v2_1 = 0) (rM_takePartB_66 tp v1 v2_1 v3_5 σ_2) (bnd2 (rM_isSign (40 : Int32) σ_2) fun r_27 σ_25 => brc (¬ r_27 = 0) (rM_takePartB_66 tp v1 v2_1 v3_5 σ_25) (bnd2 (rM_isWord (22 : Int32) σ_25) fun r_30 σ_28 => brc (¬ r_30 = 0) (rM_takePartB_66 tp v1 v2_1 v3_5 σ_28) (bnd1 (rM_wrong (1 : Int32) σ_28) fun σ_31 => rM_takePartB_76 tp v1 v2_1 v3_5 σ_31))))
set_option maxRecDepth 100000 in
theorem tM_takePartB_26 {f lo : Nat} {X : CX} (hX : gd X cX12_takePart 4 RX12 none) (hw : (xw X).1 = mLy) (hg : nA X) (hR : xR X = rmOf (f + 6) (lo + 130) 0 0) {τ : St} (hr : xr X = (none, τ)) {tp : Int32 → St → Option (St)} (htp : ∀ (v1 : Int32) (σ τ : St), tp v1 σ = some τ → Ct yX12_takePart cX12_takePart 4 none f lo (xw X) [.ref (wad (xw X) 0), .int v1] σ none τ 0 0) (v1 : Int32) (s0 : Int32) (σ : St) (h : rM_takePartB_26 tp v1 s0 σ = some τ) : Jd X 4 26 [(0, .ref (wad (xw X) 0)), (1, .int v1)] [.int s0] σ := by
  unfold rM_takePartB_26 at h
  refine K_istore_n (fun v2_1 => [(2, .int v2_1), (0, .ref (wad (xw X) 0)), (1, .int v1)]) hX dX12_takePart_26 rfl (by decide) (fun _ => rfl) h (fun v2_1 h => ?_)
  refine J_aload_n (q := 1) hX dX12_takePart_27 rfl rfl ?_
  obtain ⟨r_4, σ_2, hc_3, h⟩ := bnd2_some h
  refine K_callV [] hX hg hR (ctM_factHere hw hc_3) lk_X12_299_X12_factHere md_X12_factHere (mc_0 hw) cls_X12 ⟨by omega, by omega⟩ rfl rfl (Nat.le_of_ble_eq_true rfl) dX12_takePart_28 ?_
  refine K_istore_n (fun v3_5 => [(3, .int v3_5), (2, .int v2_1), (0, .ref (wad (xw X) 0)), (1, .int v1)]) hX dX12_takePart_31 rfl (by decide) (fun _ => rfl) h (fun v3_5 h => ?_)
  refine J_iload_n (q := 0) hX dX12_takePart_32 rfl rfl ?_
  refine K_if_ge (tgt := 66) hX dX12_takePart_33 rfl h (fun h => ?_) (fun h => ?_)
  · refine J_sub [2, 3, 1, 0] rfl ?_
    exact tM_takePartB_66 hX hw hg hR hr htp v1 v2_1 v3_5 σ_2 h
  · refine J_iload_n (q := 1) hX dX12_takePart_36 rfl rfl ?_
    refine K_if_ne (tgt := 66) hX dX12_takePart_37 rfl h (fun h => ?_) (fun h => ?_)
    · refine J_sub [2, 3, 1, 0] rfl ?_
      exact tM_takePartB_66 hX hw hg hR hr htp v1 v2_1 v3_5 σ_2 h
    · refine J_aload_n (q := 2) hX dX12_takePart_40 rfl rfl ?_
      refine J_bipush (v := (40 : Int32)) hX dX12_takePart_41 (by decide) ?_
      obtain ⟨r_27, σ_25, hc_26, h⟩ := bnd2_some h
      refine K_callV [.int (40 : Int32)] hX hg hR (ctM_isSign hw hc_26) lk_X12_194_X12_isSign md_X12_isSign (mc_0 hw) cls_X12 ⟨by omega, by omega⟩ rfl rfl (Nat.le_of_ble_eq_true rfl) dX12_takePart_43 ?_
      refine K_if_ne (tgt := 66) hX dX12_takePart_46 rfl h (fun h => ?_) (fun h => ?_)
      · refine J_sub [2, 3, 1, 0] rfl ?_
        exact tM_takePartB_66 hX hw hg hR hr htp v1 v2_1 v3_5 σ_25 h
      · refine J_aload_n (q := 2) hX dX12_takePart_49 rfl rfl ?_
        refine J_bipush (v := (22 : Int32)) hX dX12_takePart_50 (by decide) ?_
        obtain ⟨r_30, σ_28, hc_29, h⟩ := bnd2_some h
        refine K_callV [.int (22 : Int32)] hX hg hR (ctM_isWord hw hc_29) lk_X12_200_X12_isWord md_X12_isWord (mc_0 hw) cls_X12 ⟨by omega, by omega⟩ rfl rfl (Nat.le_of_ble_eq_true rfl) dX12_takePart_52 ?_
        refine K_if_ne (tgt := 66) hX dX12_takePart_55 rfl h (fun h => ?_) (fun h => ?_)
        · refine J_sub [2, 3, 1, 0] rfl ?_
          exact tM_takePartB_66 hX hw hg hR hr htp v1 v2_1 v3_5 σ_28 h
        · refine J_aload_n (q := 2) hX dX12_takePart_58 rfl rfl ?_
          refine J_iconst (v := (1 : Int32)) hX dX12_takePart_59 (by decide) ?_
          obtain ⟨σ_31, hc_32, h⟩ := bnd1_some h
          refine K_callV [.int (1 : Int32)] hX hg hR (ctM_wrong hw hc_32) lk_X12_197_X12_wrong md_X12_wrong (mc_0 hw) cls_X12 ⟨by omega, by omega⟩ rfl rfl (Nat.le_of_ble_eq_true rfl) dX12_takePart_60 ?_
          refine J_goto (tgt := 76) hX dX12_takePart_63 rfl ?_
          refine J_sub [2, 3, 1, 0] rfl ?_
          exact tM_takePartB_76 hX hw hg hR hr htp v1 v2_1 v3_5 σ_31 h

def rM_takePartB (tp : Int32 → St → Option (St)) (v1 : Int32) (σ : St) : Option (St) :=
  brc ((σ.1 0 8) ≤ 0) (chk (ib (σ.1 0 7) 1002) (brc (¬ (σ.1 2 (σ.1 0 7).toNatClampNeg) = (2 : Int32)) (rM_takePartB_26 tp v1 (0 : Int32) σ) (rM_takePartB_26 tp v1 (1 : Int32) σ))) (some σ)
set_option maxRecDepth 100000 in
theorem tM_takePartB {f lo : Nat} {X : CX} (hX : gd X cX12_takePart 4 RX12 none) (hw : (xw X).1 = mLy) (hg : nA X) (hR : xR X = rmOf (f + 6) (lo + 130) 0 0) {τ : St} (hr : xr X = (none, τ)) {tp : Int32 → St → Option (St)} (htp : ∀ (v1 : Int32) (σ τ : St), tp v1 σ = some τ → Ct yX12_takePart cX12_takePart 4 none f lo (xw X) [.ref (wad (xw X) 0), .int v1] σ none τ 0 0) (v1 : Int32) (σ : St) (h : rM_takePartB tp v1 σ = some τ) : Jd X 4 0 [(0, .ref (wad (xw X) 0)), (1, .int v1)] [] σ := by
  unfold rM_takePartB at h
  refine J_aload_n (q := 0) hX dX12_takePart_0 rfl rfl ?_
  refine K_geti hX (mc_0 hw) cls_X12 (k := 8) (by decide) uw_6_55 rfl dX12_takePart_1 ?_
  refine K_if_le (tgt := 8) hX dX12_takePart_4 rfl h (fun h => ?_) (fun h => ?_)
  · refine J_aload_n (q := 0) hX dX12_takePart_8 rfl rfl ?_
    refine K_getc 2 hX (mc_0 hw) cls_X12 (k := 4) (by decide) uw_6_51 rfl dX12_takePart_9 ?_
    refine J_aload_n (q := 0) hX dX12_takePart_12 rfl rfl ?_
    refine K_geti hX (mc_0 hw) cls_X12 (k := 7) (by decide) uw_6_54 rfl dX12_takePart_13 ?_
    refine K_iald hX (mc_2 hw) dX12_takePart_16 h (fun h => ?_)
    refine J_iconst (v := (2 : Int32)) hX dX12_takePart_17 (by decide) ?_
    refine K_icmp_ne (tgt := 25) hX dX12_takePart_18 rfl h (fun h => ?_) (fun h => ?_)
    · refine J_iconst (v := (0 : Int32)) hX dX12_takePart_25 (by decide) ?_
      refine J_sub [0, 1] rfl ?_
      exact tM_takePartB_26 hX hw hg hR hr htp v1 (0 : Int32) σ h
    · refine J_iconst (v := (1 : Int32)) hX dX12_takePart_21 (by decide) ?_
      refine J_goto (tgt := 26) hX dX12_takePart_22 rfl ?_
      refine J_sub [0, 1] rfl ?_
      exact tM_takePartB_26 hX hw hg hR hr htp v1 (1 : Int32) σ h
  · exact K_vret hX hr dX12_takePart_7 h
theorem ctM_takePartB {f lo : Nat} {w : WT} (hw : w.1 = mLy) {v1 : Int32} {σ : St} {tp : Int32 → St → Option (St)} (htp : ∀ (v1 : Int32) (σ τ : St), tp v1 σ = some τ → Ct yX12_takePart cX12_takePart 4 none f lo w [.ref (wad w 0), .int v1] σ none τ 0 0) {τ : St} (h : rM_takePartB tp v1 σ = some τ) : Ct yX12_takePart cX12_takePart 4 none (f + 6) (lo + 130) w [.ref (wad w 0), .int v1] σ none τ 0 0 :=
  Ct_intro (fun _ => (0, 0)) (by decide) rfl ⟨rfl, Nat.le_refl _⟩ (Nat.le_of_ble_eq_true rfl) (fun X hX hR hwX hg hr => by subst hwX; exact tM_takePartB hX hw hg hR hr htp v1 σ h)

def rM_takePart_F : ((Int32 × St) → Option St) → (Int32 × St) → Option St := fun self a => rM_takePartB (fun v1 σ => self (v1, σ)) a.1 a.2
def rM_takePart (d : Nat) (v1 : Int32) (σ : St) : Option St := lp rM_takePart_F d (v1, σ)
theorem ctM_takePart {w : WT} (hw : w.1 = mLy) (d : Nat) (v1 : Int32) (σ τ : St) (h : rM_takePart d v1 σ = some τ) : Ct yX12_takePart cX12_takePart 4 none (6 * d) (130 * d) w [.ref (wad w 0), .int v1] σ none τ 0 0 :=
  lp_ind2 (F := rM_takePart_F) (P := fun d a τ => Ct yX12_takePart cX12_takePart 4 none (6 * d) (130 * d) w [.ref (wad w 0), .int a.1] a.2 none τ 0 0) (fun n a r ih h => by rw [Nat.mul_succ, Nat.mul_succ]; exact ctM_takePartB (f := 6 * n) (lo := 130 * n) hw (tp := fun v1 σ => lp rM_takePart_F n (v1, σ)) (fun v1 σ τ h => ih (v1, σ) τ h) h) d (v1, σ) τ h

def rM_goesOnB_130 (self : Int32 → Int32 → St → Option (St)) (k78 : Int32 → Int32 → Int32 → St → Option (St)) (v1 : Int32) (v2 : Int32) (v3 : Int32) (σ : St) : Option (St) :=
  nm (v3 + Int32.ofInt 1) fun v3_8 => k78 v1 v2 v3_8 σ
set_option maxRecDepth 100000 in
theorem tM_goesOnB_130 {f lo : Nat} {X : CX} (hX : gd X cX12_goesOn 4 RX12 none) (hw : (xw X).1 = mLy) (hg : nA X) (hR : xR X = rmOf (f + 1) (lo + 23) 0 0) {τ : St} (hr : xr X = (none, τ)) {self : Int32 → Int32 → St → Option (St)} (hself : ∀ (v1 : Int32) (v2 : Int32) (σ τ : St), self v1 v2 σ = some τ → Ct yX12_goesOn cX12_goesOn 4 none f lo (xw X) [.ref (wad (xw X) 0), .int v1, .int v2] σ none τ 0 0) {k78 : Int32 → Int32 → Int32 → St → Option (St)} (hk78 : (∀ (v1 : Int32) (v2 : Int32) (v3 : Int32) (σ : St), k78 v1 v2 v3 σ = some τ → Jd X 4 78 [(0, .ref (wad (xw X) 0)), (1, .int v1), (2, .int v2), (3, .int v3)] [] σ)) (v1 : Int32) (v2 : Int32) (v3 : Int32) (σ : St) (h : rM_goesOnB_130 self k78 v1 v2 v3 σ = some τ) : Jd X 4 130 [(0, .ref (wad (xw X) 0)), (1, .int v1), (2, .int v2), (3, .int v3)] [] σ := by
  unfold rM_goesOnB_130 at h
  refine K_iinc (q := 3) (fun v3_8 => [(3, .int v3_8), (0, .ref (wad (xw X) 0)), (1, .int v1), (2, .int v2)]) hX dX12_goesOn_130 rfl (by decide) (fun _ => rfl) h (fun v3_8 h => ?_)
  refine J_goto (tgt := 78) hX dX12_goesOn_133 rfl ?_
  refine J_sub [1, 2, 3, 0] rfl ?_
  exact hk78 v1 v2 v3_8 σ h

def rM_goesOnB_78 (self : Int32 → Int32 → St → Option (St)) (k78 : Int32 → Int32 → Int32 → St → Option (St)) (v1 : Int32) (v2 : Int32) (v3 : Int32) (σ : St) : Option (St) :=
  bnd2 (rM_stations σ) fun r_7 σ_5 => brc (r_7 ≤ v3) (some σ_5) (brc (¬ ((v2 >>> (v3 &&& 31)) &&& (1 : Int32)) = 0) (rM_goesOnB_130 self k78 v1 v2 v3 σ_5) (chk (ib (v1 - (1 : Int32)) 7) (bnd2 (rM_wayOf (σ_5.1 19 (v1 - (1 : Int32)).toNatClampNeg) v3 (0 : Int32) σ_5) fun r_11 σ_9 => brc (r_11 ≤ 0) (rM_goesOnB_130 self k78 v1 v2 v3 σ_9) (chk (ib v1 7) (nm (setI σ_9 19 v1.toNatClampNeg v3) fun σ_12 => bnd1 (self (v1 + (1 : Int32)) (v2 ||| ((1 : Int32) <<< (v3 &&& 31))) σ_12) fun σ_13 => rM_goesOnB_130 self k78 v1 v2 v3 σ_13)))))
set_option maxRecDepth 100000 in
theorem tM_goesOnB_78b {f lo : Nat} {X : CX} (hX : gd X cX12_goesOn 4 RX12 none) (hw : (xw X).1 = mLy) (hg : nA X) (hR : xR X = rmOf (f + 1) (lo + 23) 0 0) {τ : St} (hr : xr X = (none, τ)) {self : Int32 → Int32 → St → Option (St)} (hself : ∀ (v1 : Int32) (v2 : Int32) (σ τ : St), self v1 v2 σ = some τ → Ct yX12_goesOn cX12_goesOn 4 none f lo (xw X) [.ref (wad (xw X) 0), .int v1, .int v2] σ none τ 0 0) {k78 : Int32 → Int32 → Int32 → St → Option (St)} (hk78 : (∀ (v1 : Int32) (v2 : Int32) (v3 : Int32) (σ : St), k78 v1 v2 v3 σ = some τ → Jd X 4 78 [(0, .ref (wad (xw X) 0)), (1, .int v1), (2, .int v2), (3, .int v3)] [] σ)) (v1 : Int32) (v2 : Int32) (v3 : Int32) (σ : St) (h : rM_goesOnB_78 self k78 v1 v2 v3 σ = some τ) : Jd X 4 78 [(0, .ref (wad (xw X) 0)), (1, .int v1), (2, .int v2), (3, .int v3)] [] σ := by
  unfold rM_goesOnB_78 at h
  refine J_iload_n (q := 3) hX dX12_goesOn_78 rfl rfl ?_
  refine J_aload_n (q := 0) hX dX12_goesOn_79 rfl rfl ?_
  obtain ⟨r_7, σ_5, hc_6, h⟩ := bnd2_some h
  refine K_callV [] hX hg hR (ctM_stations hw hc_6) lk_X12_309_X12_stations md_X12_stations (mc_0 hw) cls_X12 ⟨by omega, by omega⟩ rfl rfl (Nat.le_of_ble_eq_true rfl) dX12_goesOn_80 ?_
  refine K_icmp_ge (tgt := 136) hX dX12_goesOn_83 rfl h (fun h => ?_) (fun h => ?_)
  · exact K_vret hX hr dX12_goesOn_136 h
  · refine J_iload_n (q := 2) hX dX12_goesOn_86 rfl rfl ?_
    refine J_iload_n (q := 3) hX dX12_goesOn_87 rfl rfl ?_
    refine J_ishr hX dX12_goesOn_88 ?_
    refine J_iconst (v := (1 : Int32)) hX dX12_goesOn_89 (by decide) ?_
    refine J_iand hX dX12_goesOn_90 ?_
    refine K_if_ne (tgt := 130) hX dX12_goesOn_91 rfl h (fun h => ?_) (fun h => ?_)
    · refine J_sub [0, 1, 2, 3] rfl ?_
      exact tM_goesOnB_130 hX hw hg hR hr hself hk78 v1 v2 v3 σ_5 h
    · refine J_aload_n (q := 0) hX dX12_goesOn_94 rfl rfl ?_
      refine J_aload_n (q := 0) hX dX12_goesOn_95 rfl rfl ?_
      refine K_getc 19 hX (mc_0 hw) cls_X12 (k := 29) (by decide) uw_6_76 rfl dX12_goesOn_96 ?_
      refine J_iload_n (q := 1) hX dX12_goesOn_99 rfl rfl ?_
      refine J_iconst (v := (1 : Int32)) hX dX12_goesOn_100 (by decide) ?_
      refine J_isub hX dX12_goesOn_101 ?_
      refine K_iald hX (mc_19 hw) dX12_goesOn_102 h (fun h => ?_)
      refine J_iload_n (q := 3) hX dX12_goesOn_103 rfl rfl ?_
      refine J_iconst (v := (0 : Int32)) hX dX12_goesOn_104 (by decide) ?_
      obtain ⟨r_11, σ_9, hc_10, h⟩ := bnd2_some h
      refine K_callV [.int (σ_5.1 19 (v1 - (1 : Int32)).toNatClampNeg), .int v3, .int (0 : Int32)] hX hg hR (ctM_wayOf hw hc_10) lk_X12_324_X12_wayOf md_X12_wayOf (mc_0 hw) cls_X12 ⟨by omega, by omega⟩ rfl rfl (Nat.le_of_ble_eq_true rfl) dX12_goesOn_105 ?_
      refine K_if_le (tgt := 130) hX dX12_goesOn_108 rfl h (fun h => ?_) (fun h => ?_)
      · refine J_sub [0, 1, 2, 3] rfl ?_
        exact tM_goesOnB_130 hX hw hg hR hr hself hk78 v1 v2 v3 σ_9 h
      · refine J_aload_n (q := 0) hX dX12_goesOn_111 rfl rfl ?_
        refine K_getc 19 hX (mc_0 hw) cls_X12 (k := 29) (by decide) uw_6_76 rfl dX12_goesOn_112 ?_
        refine J_iload_n (q := 1) hX dX12_goesOn_115 rfl rfl ?_
        refine J_iload_n (q := 3) hX dX12_goesOn_116 rfl rfl ?_
        refine K_iast hX (mc_19 hw) dX12_goesOn_117 h (fun σ_12 h => ?_)
        refine J_aload_n (q := 0) hX dX12_goesOn_118 rfl rfl ?_
        refine J_iload_n (q := 1) hX dX12_goesOn_119 rfl rfl ?_
        refine J_iconst (v := (1 : Int32)) hX dX12_goesOn_120 (by decide) ?_
        refine J_iadd hX dX12_goesOn_121 ?_
        refine J_iload_n (q := 2) hX dX12_goesOn_122 rfl rfl ?_
        refine J_iconst (v := (1 : Int32)) hX dX12_goesOn_123 (by decide) ?_
        refine J_iload_n (q := 3) hX dX12_goesOn_124 rfl rfl ?_
        refine J_ishl hX dX12_goesOn_125 ?_
        refine J_ior hX dX12_goesOn_126 ?_
        obtain ⟨σ_13, hc_14, h⟩ := bnd1_some h
        refine K_callV [.int (v1 + (1 : Int32)), .int (v2 ||| ((1 : Int32) <<< (v3 &&& 31)))] hX hg hR (hself _ _ _ _ hc_14) lk_X12_321_X12_goesOn md_X12_goesOn (mc_0 hw) cls_X12 ⟨by omega, by omega⟩ rfl rfl (Nat.le_of_ble_eq_true rfl) dX12_goesOn_127 ?_
        refine J_sub [0, 1, 2, 3] rfl ?_
        exact tM_goesOnB_130 hX hw hg hR hr hself hk78 v1 v2 v3 σ_13 h
def rM_goesOnB_78L (self : Int32 → Int32 → St → Option (St)) : ((Int32 × Int32 × Int32 × St) → Option (St)) → (Int32 × Int32 × Int32 × St) → Option (St) := fun k a => rM_goesOnB_78 self (fun v1 v2 v3 σ => k (v1, v2, v3, σ)) a.1 a.2.1 a.2.2.1 a.2.2.2
theorem tM_goesOnB_78 {f lo : Nat} {X : CX} (hX : gd X cX12_goesOn 4 RX12 none) (hw : (xw X).1 = mLy) (hg : nA X) (hR : xR X = rmOf (f + 1) (lo + 23) 0 0) {τ : St} (hr : xr X = (none, τ)) {self : Int32 → Int32 → St → Option (St)} (hself : ∀ (v1 : Int32) (v2 : Int32) (σ τ : St), self v1 v2 σ = some τ → Ct yX12_goesOn cX12_goesOn 4 none f lo (xw X) [.ref (wad (xw X) 0), .int v1, .int v2] σ none τ 0 0) (n : Nat) (v1 : Int32) (v2 : Int32) (v3 : Int32) (σ : St) (h : lp (rM_goesOnB_78L self) n (v1, v2, v3, σ) = some τ) : Jd X 4 78 [(0, .ref (wad (xw X) 0)), (1, .int v1), (2, .int v2), (3, .int v3)] [] σ :=
  lp_ind (F := rM_goesOnB_78L self) (P := fun a => Jd X 4 78 [(0, .ref (wad (xw X) 0)), (1, .int a.1), (2, .int a.2.1), (3, .int a.2.2.1)] [] a.2.2.2) (fun k a hk h => tM_goesOnB_78b hX hw hg hR hr hself (fun v1 v2 v3 σ h => hk (v1, v2, v3, σ) h) a.1 a.2.1 a.2.2.1 a.2.2.2 h) n (v1, v2, v3, σ) h

def rM_goesOnB_32 (self : Int32 → Int32 → St → Option (St)) (k32 : Int32 → Int32 → St → Option (St)) (v1 : Int32) (v3 : Int32) (σ : St) : Option (St) :=
  brc (v1 ≤ v3) (nm (setI σ 0 27 ((σ.1 0 27) + (1 : Int32))) fun σ_17 => some σ_17) (chk (ib v3 7) (chk (ib ((((8 : Int32) * (σ.1 0 27)) + (1 : Int32)) + v3) 3200) (nm (setI σ 18 ((((8 : Int32) * (σ.1 0 27)) + (1 : Int32)) + v3).toNatClampNeg (σ.1 19 v3.toNatClampNeg)) fun σ_18 => nm (v3 + Int32.ofInt 1) fun v3_19 => k32 v1 v3_19 σ_18)))
set_option maxRecDepth 100000 in
theorem tM_goesOnB_32b {f lo : Nat} {X : CX} (hX : gd X cX12_goesOn 4 RX12 none) (hw : (xw X).1 = mLy) (hg : nA X) (hR : xR X = rmOf (f + 1) (lo + 23) 0 0) {τ : St} (hr : xr X = (none, τ)) {self : Int32 → Int32 → St → Option (St)} (hself : ∀ (v1 : Int32) (v2 : Int32) (σ τ : St), self v1 v2 σ = some τ → Ct yX12_goesOn cX12_goesOn 4 none f lo (xw X) [.ref (wad (xw X) 0), .int v1, .int v2] σ none τ 0 0) {k32 : Int32 → Int32 → St → Option (St)} (hk32 : (∀ (v1 : Int32) (v3 : Int32) (σ : St), k32 v1 v3 σ = some τ → Jd X 4 32 [(0, .ref (wad (xw X) 0)), (1, .int v1), (3, .int v3)] [] σ)) (v1 : Int32) (v3 : Int32) (σ : St) (h : rM_goesOnB_32 self k32 v1 v3 σ = some τ) : Jd X 4 32 [(0, .ref (wad (xw X) 0)), (1, .int v1), (3, .int v3)] [] σ := by
  unfold rM_goesOnB_32 at h
  refine J_iload_n (q := 2) hX dX12_goesOn_32 rfl rfl ?_
  refine J_iload_n (q := 1) hX dX12_goesOn_33 rfl rfl ?_
  refine K_icmp_ge (tgt := 65) hX dX12_goesOn_34 rfl h (fun h => ?_) (fun h => ?_)
  · refine J_aload_n (q := 0) hX dX12_goesOn_65 rfl rfl ?_
    refine J_dup hX dX12_goesOn_66 rfl ?_
    refine K_geti hX (mc_0 hw) cls_X12 (k := 27) (by decide) uw_6_74 rfl dX12_goesOn_67 ?_
    refine J_iconst (v := (1 : Int32)) hX dX12_goesOn_70 (by decide) ?_
    refine J_iadd hX dX12_goesOn_71 ?_
    refine K_puti hX (mc_0 hw) cls_X12 (k := 27) (by decide) uw_6_74 rfl rfl rfl dX12_goesOn_72 h (fun σ_17 h => ?_)
    exact K_vret hX hr dX12_goesOn_75 h
  · refine J_aload_n (q := 0) hX dX12_goesOn_37 rfl rfl ?_
    refine K_getc 18 hX (mc_0 hw) cls_X12 (k := 28) (by decide) uw_6_75 rfl dX12_goesOn_38 ?_
    refine J_bipush (v := (8 : Int32)) hX dX12_goesOn_41 (by decide) ?_
    refine J_aload_n (q := 0) hX dX12_goesOn_43 rfl rfl ?_
    refine K_geti hX (mc_0 hw) cls_X12 (k := 27) (by decide) uw_6_74 rfl dX12_goesOn_44 ?_
    refine J_imul hX dX12_goesOn_47 ?_
    refine J_iconst (v := (1 : Int32)) hX dX12_goesOn_48 (by decide) ?_
    refine J_iadd hX dX12_goesOn_49 ?_
    refine J_iload_n (q := 2) hX dX12_goesOn_50 rfl rfl ?_
    refine J_iadd hX dX12_goesOn_51 ?_
    refine J_aload_n (q := 0) hX dX12_goesOn_52 rfl rfl ?_
    refine K_getc 19 hX (mc_0 hw) cls_X12 (k := 29) (by decide) uw_6_76 rfl dX12_goesOn_53 ?_
    refine J_iload_n (q := 2) hX dX12_goesOn_56 rfl rfl ?_
    refine K_iald hX (mc_19 hw) dX12_goesOn_57 h (fun h => ?_)
    refine K_iast hX (mc_18 hw) dX12_goesOn_58 h (fun σ_18 h => ?_)
    refine K_iinc (q := 2) (fun v3_19 => [(3, .int v3_19), (0, .ref (wad (xw X) 0)), (1, .int v1)]) hX dX12_goesOn_59 rfl (by decide) (fun _ => rfl) h (fun v3_19 h => ?_)
    refine J_goto (tgt := 32) hX dX12_goesOn_62 rfl ?_
    refine J_sub [1, 2, 0] rfl ?_
    exact hk32 v1 v3_19 σ_18 h
def rM_goesOnB_32L (self : Int32 → Int32 → St → Option (St)) : ((Int32 × Int32 × St) → Option (St)) → (Int32 × Int32 × St) → Option (St) := fun k a => rM_goesOnB_32 self (fun v1 v3 σ => k (v1, v3, σ)) a.1 a.2.1 a.2.2
theorem tM_goesOnB_32 {f lo : Nat} {X : CX} (hX : gd X cX12_goesOn 4 RX12 none) (hw : (xw X).1 = mLy) (hg : nA X) (hR : xR X = rmOf (f + 1) (lo + 23) 0 0) {τ : St} (hr : xr X = (none, τ)) {self : Int32 → Int32 → St → Option (St)} (hself : ∀ (v1 : Int32) (v2 : Int32) (σ τ : St), self v1 v2 σ = some τ → Ct yX12_goesOn cX12_goesOn 4 none f lo (xw X) [.ref (wad (xw X) 0), .int v1, .int v2] σ none τ 0 0) (n : Nat) (v1 : Int32) (v3 : Int32) (σ : St) (h : lp (rM_goesOnB_32L self) n (v1, v3, σ) = some τ) : Jd X 4 32 [(0, .ref (wad (xw X) 0)), (1, .int v1), (3, .int v3)] [] σ :=
  lp_ind (F := rM_goesOnB_32L self) (P := fun a => Jd X 4 32 [(0, .ref (wad (xw X) 0)), (1, .int a.1), (3, .int a.2.1)] [] a.2.2) (fun k a hk h => tM_goesOnB_32b hX hw hg hR hr hself (fun v1 v3 σ h => hk (v1, v3, σ) h) a.1 a.2.1 a.2.2 h) n (v1, v3, σ) h

def rM_goesOnB (self : Int32 → Int32 → St → Option (St)) (v1 : Int32) (v2 : Int32) (σ : St) : Option (St) :=
  chk (ib (v1 - (1 : Int32)) 7) (bnd2 (rM_stations σ) fun r_3 σ_1 => brc (¬ (σ.1 19 (v1 - (1 : Int32)).toNatClampNeg) = (r_3 - (1 : Int32))) (nm (0 : Int32) fun v3_4 => lp (rM_goesOnB_78L self) fu (v1, v2, v3_4, σ_1)) (chk (ib ((8 : Int32) * (σ_1.1 0 27)) 3200) (nm (setI σ_1 18 ((8 : Int32) * (σ_1.1 0 27)).toNatClampNeg v1) fun σ_15 => nm (0 : Int32) fun v3_16 => lp (rM_goesOnB_32L self) fu (v1, v3_16, σ_15))))
set_option maxRecDepth 100000 in
theorem tM_goesOnB {f lo : Nat} {X : CX} (hX : gd X cX12_goesOn 4 RX12 none) (hw : (xw X).1 = mLy) (hg : nA X) (hR : xR X = rmOf (f + 1) (lo + 23) 0 0) {τ : St} (hr : xr X = (none, τ)) {self : Int32 → Int32 → St → Option (St)} (hself : ∀ (v1 : Int32) (v2 : Int32) (σ τ : St), self v1 v2 σ = some τ → Ct yX12_goesOn cX12_goesOn 4 none f lo (xw X) [.ref (wad (xw X) 0), .int v1, .int v2] σ none τ 0 0) (v1 : Int32) (v2 : Int32) (σ : St) (h : rM_goesOnB self v1 v2 σ = some τ) : Jd X 4 0 [(0, .ref (wad (xw X) 0)), (1, .int v1), (2, .int v2)] [] σ := by
  unfold rM_goesOnB at h
  refine J_aload_n (q := 0) hX dX12_goesOn_0 rfl rfl ?_
  refine K_getc 19 hX (mc_0 hw) cls_X12 (k := 29) (by decide) uw_6_76 rfl dX12_goesOn_1 ?_
  refine J_iload_n (q := 1) hX dX12_goesOn_4 rfl rfl ?_
  refine J_iconst (v := (1 : Int32)) hX dX12_goesOn_5 (by decide) ?_
  refine J_isub hX dX12_goesOn_6 ?_
  refine K_iald hX (mc_19 hw) dX12_goesOn_7 h (fun h => ?_)
  refine J_aload_n (q := 0) hX dX12_goesOn_8 rfl rfl ?_
  obtain ⟨r_3, σ_1, hc_2, h⟩ := bnd2_some h
  refine K_callV [] hX hg hR (ctM_stations hw hc_2) lk_X12_309_X12_stations md_X12_stations (mc_0 hw) cls_X12 ⟨by omega, by omega⟩ rfl rfl (Nat.le_of_ble_eq_true rfl) dX12_goesOn_9 ?_
  refine J_iconst (v := (1 : Int32)) hX dX12_goesOn_12 (by decide) ?_
  refine J_isub hX dX12_goesOn_13 ?_
  refine K_icmp_ne (tgt := 76) hX dX12_goesOn_14 rfl h (fun h => ?_) (fun h => ?_)
  · refine J_iconst (v := (0 : Int32)) hX dX12_goesOn_76 (by decide) ?_
    refine K_istore_n (fun v3_4 => [(3, .int v3_4), (0, .ref (wad (xw X) 0)), (1, .int v1), (2, .int v2)]) hX dX12_goesOn_77 rfl (by decide) (fun _ => rfl) h (fun v3_4 h => ?_)
    refine J_sub [1, 2, 3, 0] rfl ?_
    exact tM_goesOnB_78 hX hw hg hR hr hself fu v1 v2 v3_4 σ_1 h
  · refine J_aload_n (q := 0) hX dX12_goesOn_17 rfl rfl ?_
    refine K_getc 18 hX (mc_0 hw) cls_X12 (k := 28) (by decide) uw_6_75 rfl dX12_goesOn_18 ?_
    refine J_bipush (v := (8 : Int32)) hX dX12_goesOn_21 (by decide) ?_
    refine J_aload_n (q := 0) hX dX12_goesOn_23 rfl rfl ?_
    refine K_geti hX (mc_0 hw) cls_X12 (k := 27) (by decide) uw_6_74 rfl dX12_goesOn_24 ?_
    refine J_imul hX dX12_goesOn_27 ?_
    refine J_iload_n (q := 1) hX dX12_goesOn_28 rfl rfl ?_
    refine K_iast hX (mc_18 hw) dX12_goesOn_29 h (fun σ_15 h => ?_)
    refine J_iconst (v := (0 : Int32)) hX dX12_goesOn_30 (by decide) ?_
    refine K_istore_n (fun v3_16 => [(3, .int v3_16), (0, .ref (wad (xw X) 0)), (1, .int v1), (2, .int v2)]) hX dX12_goesOn_31 rfl (by decide) (fun _ => rfl) h (fun v3_16 h => ?_)
    refine J_sub [1, 2, 0] rfl ?_
    exact tM_goesOnB_32 hX hw hg hR hr hself fu v1 v3_16 σ_15 h
theorem ctM_goesOnB {f lo : Nat} {w : WT} (hw : w.1 = mLy) {v1 : Int32} {v2 : Int32} {σ : St} {self : Int32 → Int32 → St → Option (St)} (hself : ∀ (v1 : Int32) (v2 : Int32) (σ τ : St), self v1 v2 σ = some τ → Ct yX12_goesOn cX12_goesOn 4 none f lo w [.ref (wad w 0), .int v1, .int v2] σ none τ 0 0) {τ : St} (h : rM_goesOnB self v1 v2 σ = some τ) : Ct yX12_goesOn cX12_goesOn 4 none (f + 1) (lo + 23) w [.ref (wad w 0), .int v1, .int v2] σ none τ 0 0 :=
  Ct_intro (fun _ => (0, 0)) (by decide) rfl ⟨rfl, Nat.le_refl _⟩ (Nat.le_of_ble_eq_true rfl) (fun X hX hR hwX hg hr => by subst hwX; exact tM_goesOnB hX hw hg hR hr hself v1 v2 σ h)

def rM_goesOn_F : ((Int32 × Int32 × St) → Option St) → (Int32 × Int32 × St) → Option St := fun self a => rM_goesOnB (fun v1 v2 σ => self (v1, v2, σ)) a.1 a.2.1 a.2.2
def rM_goesOn (d : Nat) (v1 : Int32) (v2 : Int32) (σ : St) : Option St := lp rM_goesOn_F d (v1, v2, σ)
theorem ctM_goesOn {w : WT} (hw : w.1 = mLy) (d : Nat) (v1 : Int32) (v2 : Int32) (σ τ : St) (h : rM_goesOn d v1 v2 σ = some τ) : Ct yX12_goesOn cX12_goesOn 4 none (1 * d) (23 * d) w [.ref (wad w 0), .int v1, .int v2] σ none τ 0 0 :=
  lp_ind2 (F := rM_goesOn_F) (P := fun d a τ => Ct yX12_goesOn cX12_goesOn 4 none (1 * d) (23 * d) w [.ref (wad w 0), .int a.1, .int a.2.1] a.2.2 none τ 0 0) (fun n a r ih h => by rw [Nat.mul_succ, Nat.mul_succ]; exact ctM_goesOnB (f := 1 * n) (lo := 23 * n) hw (self := fun v1 v2 σ => lp rM_goesOn_F n (v1, v2, σ)) (fun v1 v2 σ τ h => ih (v1, v2, σ) τ h) h) d (v1, v2, σ) τ h

def rM_handsB_229 (self : Int32 → Int32 → Int32 → Int32 → Int32 → St → Option (St)) (k75 : Int32 → Int32 → Int32 → Int32 → Int32 → Int32 → St → Option (St)) (v1 : Int32) (v2 : Int32) (v3 : Int32) (v4 : Int32) (v5 : Int32) (v6 : Int32) (σ : St) : Option (St) :=
  nm (v6 + Int32.ofInt 1) fun v6_28 => k75 v1 v2 v3 v4 v5 v6_28 σ
set_option maxRecDepth 100000 in
theorem tM_handsB_229 {f lo : Nat} {X : CX} (hX : gd X cX12_hands 8 RX12 none) (hw : (xw X).1 = mLy) (hg : nA X) (hR : xR X = rmOf (f + 3) (lo + 69) 0 0) {τ : St} (hr : xr X = (none, τ)) {self : Int32 → Int32 → Int32 → Int32 → Int32 → St → Option (St)} (hself : ∀ (v1 : Int32) (v2 : Int32) (v3 : Int32) (v4 : Int32) (v5 : Int32) (σ τ : St), self v1 v2 v3 v4 v5 σ = some τ → Ct yX12_hands cX12_hands 8 none f lo (xw X) [.ref (wad (xw X) 0), .int v1, .int v2, .int v3, .int v4, .int v5] σ none τ 0 0) {k75 : Int32 → Int32 → Int32 → Int32 → Int32 → Int32 → St → Option (St)} (hk75 : (∀ (v1 : Int32) (v2 : Int32) (v3 : Int32) (v4 : Int32) (v5 : Int32) (v6 : Int32) (σ : St), k75 v1 v2 v3 v4 v5 v6 σ = some τ → Jd X 8 75 [(0, .ref (wad (xw X) 0)), (1, .int v1), (2, .int v2), (3, .int v3), (4, .int v4), (5, .int v5), (6, .int v6)] [] σ)) (v1 : Int32) (v2 : Int32) (v3 : Int32) (v4 : Int32) (v5 : Int32) (v6 : Int32) (σ : St) (h : rM_handsB_229 self k75 v1 v2 v3 v4 v5 v6 σ = some τ) : Jd X 8 229 [(0, .ref (wad (xw X) 0)), (1, .int v1), (2, .int v2), (3, .int v3), (4, .int v4), (5, .int v5), (6, .int v6)] [] σ := by
  unfold rM_handsB_229 at h
  refine K_iinc (q := 6) (fun v6_28 => [(6, .int v6_28), (0, .ref (wad (xw X) 0)), (1, .int v1), (2, .int v2), (3, .int v3), (4, .int v4), (5, .int v5)]) hX dX12_hands_229 rfl (by decide) (fun _ => rfl) h (fun v6_28 h => ?_)
  refine J_goto (tgt := 75) hX dX12_hands_232 rfl ?_
  refine J_sub [1, 2, 3, 4, 5, 6, 0] rfl ?_
  exact hk75 v1 v2 v3 v4 v5 v6_28 σ h

def rM_handsB_207 (self : Int32 → Int32 → Int32 → Int32 → Int32 → St → Option (St)) (k75 : Int32 → Int32 → Int32 → Int32 → Int32 → Int32 → St → Option (St)) (v1 : Int32) (v2 : Int32) (v3 : Int32) (v4 : Int32) (v5 : Int32) (v6 : Int32) (σ : St) : Option (St) :=
  bnd1 (self v1 (v2 + (1 : Int32)) (v3 ||| ((1 : Int32) <<< (v6 &&& 31))) (σ.1 0 30) (σ.1 0 31) σ) fun σ_26 => rM_handsB_229 self k75 v1 v2 v3 v4 v5 v6 σ_26
set_option maxRecDepth 100000 in
theorem tM_handsB_207 {f lo : Nat} {X : CX} (hX : gd X cX12_hands 8 RX12 none) (hw : (xw X).1 = mLy) (hg : nA X) (hR : xR X = rmOf (f + 3) (lo + 69) 0 0) {τ : St} (hr : xr X = (none, τ)) {self : Int32 → Int32 → Int32 → Int32 → Int32 → St → Option (St)} (hself : ∀ (v1 : Int32) (v2 : Int32) (v3 : Int32) (v4 : Int32) (v5 : Int32) (σ τ : St), self v1 v2 v3 v4 v5 σ = some τ → Ct yX12_hands cX12_hands 8 none f lo (xw X) [.ref (wad (xw X) 0), .int v1, .int v2, .int v3, .int v4, .int v5] σ none τ 0 0) {k75 : Int32 → Int32 → Int32 → Int32 → Int32 → Int32 → St → Option (St)} (hk75 : (∀ (v1 : Int32) (v2 : Int32) (v3 : Int32) (v4 : Int32) (v5 : Int32) (v6 : Int32) (σ : St), k75 v1 v2 v3 v4 v5 v6 σ = some τ → Jd X 8 75 [(0, .ref (wad (xw X) 0)), (1, .int v1), (2, .int v2), (3, .int v3), (4, .int v4), (5, .int v5), (6, .int v6)] [] σ)) (v1 : Int32) (v2 : Int32) (v3 : Int32) (v4 : Int32) (v5 : Int32) (v6 : Int32) (σ : St) (h : rM_handsB_207 self k75 v1 v2 v3 v4 v5 v6 σ = some τ) : Jd X 8 207 [(0, .ref (wad (xw X) 0)), (1, .int v1), (2, .int v2), (3, .int v3), (4, .int v4), (5, .int v5), (6, .int v6)] [] σ := by
  unfold rM_handsB_207 at h
  refine J_aload_n (q := 0) hX dX12_hands_207 rfl rfl ?_
  refine J_iload_n (q := 1) hX dX12_hands_208 rfl rfl ?_
  refine J_iload_n (q := 2) hX dX12_hands_209 rfl rfl ?_
  refine J_iconst (v := (1 : Int32)) hX dX12_hands_210 (by decide) ?_
  refine J_iadd hX dX12_hands_211 ?_
  refine J_iload_n (q := 3) hX dX12_hands_212 rfl rfl ?_
  refine J_iconst (v := (1 : Int32)) hX dX12_hands_213 (by decide) ?_
  refine J_iload (q := 6) hX dX12_hands_214 rfl ?_
  refine J_ishl hX dX12_hands_216 ?_
  refine J_ior hX dX12_hands_217 ?_
  refine J_aload_n (q := 0) hX dX12_hands_218 rfl rfl ?_
  refine K_geti hX (mc_0 hw) cls_X12 (k := 30) (by decide) uw_6_77 rfl dX12_hands_219 ?_
  refine J_aload_n (q := 0) hX dX12_hands_222 rfl rfl ?_
  refine K_geti hX (mc_0 hw) cls_X12 (k := 31) (by decide) uw_6_78 rfl dX12_hands_223 ?_
  obtain ⟨σ_26, hc_27, h⟩ := bnd1_some h
  refine K_callV [.int v1, .int (v2 + (1 : Int32)), .int (v3 ||| ((1 : Int32) <<< (v6 &&& 31))), .int (σ.1 0 30), .int (σ.1 0 31)] hX hg hR (hself _ _ _ _ _ _ _ hc_27) lk_X12_424_X12_hands md_X12_hands (mc_0 hw) cls_X12 ⟨by omega, by omega⟩ rfl rfl (Nat.le_of_ble_eq_true rfl) dX12_hands_226 ?_
  refine J_sub [0, 1, 2, 3, 4, 5, 6] rfl ?_
  exact tM_handsB_229 hX hw hg hR hr hself hk75 v1 v2 v3 v4 v5 v6 σ_26 h

def rM_handsB_154 (self : Int32 → Int32 → Int32 → Int32 → Int32 → St → Option (St)) (k75 : Int32 → Int32 → Int32 → Int32 → Int32 → Int32 → St → Option (St)) (v1 : Int32) (v2 : Int32) (v3 : Int32) (v4 : Int32) (v5 : Int32) (v6 : Int32) (s0 : Int32) (σ : St) : Option (St) :=
  nm (setI σ 0 30 s0) fun σ_13 => nm (setI σ_13 0 31 v5) fun σ_14 => bnd2 (rM_stationOf v1 (v2 - (1 : Int32)) σ_14) fun r_17 σ_15 => bnd2 (rM_stationOf v1 v2 σ_15) fun r_20 σ_18 => bnd1 (rM_goesWay v6 r_17 r_20 σ_18) fun σ_21 => bnd2 (rM_lengthOf v1 σ_21) fun r_25 σ_23 => brc ((r_25 - (1 : Int32)) ≤ v2) (rM_handsB_207 self k75 v1 v2 v3 v4 v5 v6 σ_23) (bnd2 (rM_stationOf v1 v2 σ_23) fun r_31 σ_29 => bnd2 (rM_drinksAt v6 r_31 σ_29) fun r_34 σ_32 => rM_handsB_207 self k75 v1 v2 v3 v4 v5 v6 σ_32)
set_option maxRecDepth 100000 in
theorem tM_handsB_154 {f lo : Nat} {X : CX} (hX : gd X cX12_hands 8 RX12 none) (hw : (xw X).1 = mLy) (hg : nA X) (hR : xR X = rmOf (f + 3) (lo + 69) 0 0) {τ : St} (hr : xr X = (none, τ)) {self : Int32 → Int32 → Int32 → Int32 → Int32 → St → Option (St)} (hself : ∀ (v1 : Int32) (v2 : Int32) (v3 : Int32) (v4 : Int32) (v5 : Int32) (σ τ : St), self v1 v2 v3 v4 v5 σ = some τ → Ct yX12_hands cX12_hands 8 none f lo (xw X) [.ref (wad (xw X) 0), .int v1, .int v2, .int v3, .int v4, .int v5] σ none τ 0 0) {k75 : Int32 → Int32 → Int32 → Int32 → Int32 → Int32 → St → Option (St)} (hk75 : (∀ (v1 : Int32) (v2 : Int32) (v3 : Int32) (v4 : Int32) (v5 : Int32) (v6 : Int32) (σ : St), k75 v1 v2 v3 v4 v5 v6 σ = some τ → Jd X 8 75 [(0, .ref (wad (xw X) 0)), (1, .int v1), (2, .int v2), (3, .int v3), (4, .int v4), (5, .int v5), (6, .int v6)] [] σ)) (v1 : Int32) (v2 : Int32) (v3 : Int32) (v4 : Int32) (v5 : Int32) (v6 : Int32) (s0 : Int32) (σ : St) (h : rM_handsB_154 self k75 v1 v2 v3 v4 v5 v6 s0 σ = some τ) : Jd X 8 154 [(0, .ref (wad (xw X) 0)), (1, .int v1), (2, .int v2), (3, .int v3), (4, .int v4), (5, .int v5), (6, .int v6)] [.int s0, .ref (wad (xw X) 0)] σ := by
  unfold rM_handsB_154 at h
  refine K_puti hX (mc_0 hw) cls_X12 (k := 30) (by decide) uw_6_77 rfl rfl rfl dX12_hands_154 h (fun σ_13 h => ?_)
  refine J_aload_n (q := 0) hX dX12_hands_157 rfl rfl ?_
  refine J_iload (q := 5) hX dX12_hands_158 rfl ?_
  refine K_puti hX (mc_0 hw) cls_X12 (k := 31) (by decide) uw_6_78 rfl rfl rfl dX12_hands_160 h (fun σ_14 h => ?_)
  refine J_aload_n (q := 0) hX dX12_hands_163 rfl rfl ?_
  refine J_iload (q := 6) hX dX12_hands_164 rfl ?_
  refine J_aload_n (q := 0) hX dX12_hands_166 rfl rfl ?_
  refine J_iload_n (q := 1) hX dX12_hands_167 rfl rfl ?_
  refine J_iload_n (q := 2) hX dX12_hands_168 rfl rfl ?_
  refine J_iconst (v := (1 : Int32)) hX dX12_hands_169 (by decide) ?_
  refine J_isub hX dX12_hands_170 ?_
  obtain ⟨r_17, σ_15, hc_16, h⟩ := bnd2_some h
  refine K_callV [.int v1, .int (v2 - (1 : Int32))] hX hg hR (ctM_stationOf hw hc_16) lk_X12_354_X12_stationOf md_X12_stationOf (mc_0 hw) cls_X12 ⟨by omega, by omega⟩ rfl rfl (Nat.le_of_ble_eq_true rfl) dX12_hands_171 ?_
  refine J_aload_n (q := 0) hX dX12_hands_174 rfl rfl ?_
  refine J_iload_n (q := 1) hX dX12_hands_175 rfl rfl ?_
  refine J_iload_n (q := 2) hX dX12_hands_176 rfl rfl ?_
  obtain ⟨r_20, σ_18, hc_19, h⟩ := bnd2_some h
  refine K_callV [.int v1, .int v2] hX hg hR (ctM_stationOf hw hc_19) lk_X12_354_X12_stationOf md_X12_stationOf (mc_0 hw) cls_X12 ⟨by omega, by omega⟩ rfl rfl (Nat.le_of_ble_eq_true rfl) dX12_hands_177 ?_
  obtain ⟨σ_21, hc_22, h⟩ := bnd1_some h
  refine K_callV [.int v6, .int r_17, .int r_20] hX hg hR (ctM_goesWay hw hc_22) lk_X12_357_X12_goesWay md_X12_goesWay (mc_0 hw) cls_X12 ⟨by omega, by omega⟩ rfl rfl (Nat.le_of_ble_eq_true rfl) dX12_hands_180 ?_
  refine J_iload_n (q := 2) hX dX12_hands_183 rfl rfl ?_
  refine J_aload_n (q := 0) hX dX12_hands_184 rfl rfl ?_
  refine J_iload_n (q := 1) hX dX12_hands_185 rfl rfl ?_
  obtain ⟨r_25, σ_23, hc_24, h⟩ := bnd2_some h
  refine K_callV [.int v1] hX hg hR (ctM_lengthOf hw hc_24) lk_X12_351_X12_lengthOf md_X12_lengthOf (mc_0 hw) cls_X12 ⟨by omega, by omega⟩ rfl rfl (Nat.le_of_ble_eq_true rfl) dX12_hands_186 ?_
  refine J_iconst (v := (1 : Int32)) hX dX12_hands_189 (by decide) ?_
  refine J_isub hX dX12_hands_190 ?_
  refine K_icmp_ge (tgt := 207) hX dX12_hands_191 rfl h (fun h => ?_) (fun h => ?_)
  · refine J_sub [0, 1, 2, 3, 4, 5, 6] rfl ?_
    exact tM_handsB_207 hX hw hg hR hr hself hk75 v1 v2 v3 v4 v5 v6 σ_23 h
  · refine J_aload_n (q := 0) hX dX12_hands_194 rfl rfl ?_
    refine J_iload (q := 6) hX dX12_hands_195 rfl ?_
    refine J_aload_n (q := 0) hX dX12_hands_197 rfl rfl ?_
    refine J_iload_n (q := 1) hX dX12_hands_198 rfl rfl ?_
    refine J_iload_n (q := 2) hX dX12_hands_199 rfl rfl ?_
    obtain ⟨r_31, σ_29, hc_30, h⟩ := bnd2_some h
    refine K_callV [.int v1, .int v2] hX hg hR (ctM_stationOf hw hc_30) lk_X12_354_X12_stationOf md_X12_stationOf (mc_0 hw) cls_X12 ⟨by omega, by omega⟩ rfl rfl (Nat.le_of_ble_eq_true rfl) dX12_hands_200 ?_
    obtain ⟨r_34, σ_32, hc_33, h⟩ := bnd2_some h
    refine K_callV [.int v6, .int r_31] hX hg hR (ctM_drinksAt hw hc_33) lk_X12_360_X12_drinksAt md_X12_drinksAt (mc_0 hw) cls_X12 ⟨by omega, by omega⟩ rfl rfl (Nat.le_of_ble_eq_true rfl) dX12_hands_203 ?_
    refine J_pop hX dX12_hands_206 rfl ?_
    refine J_sub [0, 1, 2, 3, 4, 5, 6] rfl ?_
    exact tM_handsB_207 hX hw hg hR hr hself hk75 v1 v2 v3 v4 v5 v6 σ_32 h

def rM_handsB_123 (self : Int32 → Int32 → Int32 → Int32 → Int32 → St → Option (St)) (k75 : Int32 → Int32 → Int32 → Int32 → Int32 → Int32 → St → Option (St)) (v1 : Int32) (v2 : Int32) (v3 : Int32) (v4 : Int32) (v5 : Int32) (v6 : Int32) (σ : St) : Option (St) :=
  chk (ib v2 7) (nm (setI σ 23 v2.toNatClampNeg v6) fun σ_9 => bnd2 (rM_holds v6 σ_9) fun r_12 σ_10 => brc (v4 ≤ r_12) (rM_handsB_154 self k75 v1 v2 v3 v4 v5 v6 v4 σ_10) (bnd2 (rM_holds v6 σ_10) fun r_37 σ_35 => rM_handsB_154 self k75 v1 v2 v3 v4 v5 v6 r_37 σ_35))
set_option maxRecDepth 100000 in
theorem tM_handsB_123 {f lo : Nat} {X : CX} (hX : gd X cX12_hands 8 RX12 none) (hw : (xw X).1 = mLy) (hg : nA X) (hR : xR X = rmOf (f + 3) (lo + 69) 0 0) {τ : St} (hr : xr X = (none, τ)) {self : Int32 → Int32 → Int32 → Int32 → Int32 → St → Option (St)} (hself : ∀ (v1 : Int32) (v2 : Int32) (v3 : Int32) (v4 : Int32) (v5 : Int32) (σ τ : St), self v1 v2 v3 v4 v5 σ = some τ → Ct yX12_hands cX12_hands 8 none f lo (xw X) [.ref (wad (xw X) 0), .int v1, .int v2, .int v3, .int v4, .int v5] σ none τ 0 0) {k75 : Int32 → Int32 → Int32 → Int32 → Int32 → Int32 → St → Option (St)} (hk75 : (∀ (v1 : Int32) (v2 : Int32) (v3 : Int32) (v4 : Int32) (v5 : Int32) (v6 : Int32) (σ : St), k75 v1 v2 v3 v4 v5 v6 σ = some τ → Jd X 8 75 [(0, .ref (wad (xw X) 0)), (1, .int v1), (2, .int v2), (3, .int v3), (4, .int v4), (5, .int v5), (6, .int v6)] [] σ)) (v1 : Int32) (v2 : Int32) (v3 : Int32) (v4 : Int32) (v5 : Int32) (v6 : Int32) (σ : St) (h : rM_handsB_123 self k75 v1 v2 v3 v4 v5 v6 σ = some τ) : Jd X 8 123 [(0, .ref (wad (xw X) 0)), (1, .int v1), (2, .int v2), (3, .int v3), (4, .int v4), (5, .int v5), (6, .int v6)] [] σ := by
  unfold rM_handsB_123 at h
  refine J_aload_n (q := 0) hX dX12_hands_123 rfl rfl ?_
  refine K_getc 23 hX (mc_0 hw) cls_X12 (k := 39) (by decide) uw_6_86 rfl dX12_hands_124 ?_
  refine J_iload_n (q := 2) hX dX12_hands_127 rfl rfl ?_
  refine J_iload (q := 6) hX dX12_hands_128 rfl ?_
  refine K_iast hX (mc_23 hw) dX12_hands_130 h (fun σ_9 h => ?_)
  refine J_aload_n (q := 0) hX dX12_hands_131 rfl rfl ?_
  refine J_iload (q := 4) hX dX12_hands_132 rfl ?_
  refine J_aload_n (q := 0) hX dX12_hands_134 rfl rfl ?_
  refine J_iload (q := 6) hX dX12_hands_135 rfl ?_
  obtain ⟨r_12, σ_10, hc_11, h⟩ := bnd2_some h
  refine K_callV [.int v6] hX hg hR (ctM_holds hw hc_11) lk_X12_366_X12_holds md_X12_holds (mc_0 hw) cls_X12 ⟨by omega, by omega⟩ rfl rfl (Nat.le_of_ble_eq_true rfl) dX12_hands_137 ?_
  refine K_icmp_le (tgt := 152) hX dX12_hands_140 rfl h (fun h => ?_) (fun h => ?_)
  · refine J_iload (q := 4) hX dX12_hands_152 rfl ?_
    refine J_sub [0, 1, 2, 3, 4, 5, 6] rfl ?_
    exact tM_handsB_154 hX hw hg hR hr hself hk75 v1 v2 v3 v4 v5 v6 v4 σ_10 h
  · refine J_aload_n (q := 0) hX dX12_hands_143 rfl rfl ?_
    refine J_iload (q := 6) hX dX12_hands_144 rfl ?_
    obtain ⟨r_37, σ_35, hc_36, h⟩ := bnd2_some h
    refine K_callV [.int v6] hX hg hR (ctM_holds hw hc_36) lk_X12_366_X12_holds md_X12_holds (mc_0 hw) cls_X12 ⟨by omega, by omega⟩ rfl rfl (Nat.le_of_ble_eq_true rfl) dX12_hands_146 ?_
    refine J_goto (tgt := 154) hX dX12_hands_149 rfl ?_
    refine J_sub [0, 1, 2, 3, 4, 5, 6] rfl ?_
    exact tM_handsB_154 hX hw hg hR hr hself hk75 v1 v2 v3 v4 v5 v6 r_37 σ_35 h

def rM_handsB_107 (self : Int32 → Int32 → Int32 → Int32 → Int32 → St → Option (St)) (k75 : Int32 → Int32 → Int32 → Int32 → Int32 → Int32 → St → Option (St)) (v1 : Int32) (v2 : Int32) (v3 : Int32) (v4 : Int32) (v5 : Int32) (v6 : Int32) (s0 : Int32) (σ : St) : Option (St) :=
  nm s0 fun v7_8 => brc (¬ v7_8 = 0) (rM_handsB_123 self k75 v1 v2 v3 v4 v5 v6 σ) (brc (¬ ((v3 >>> (v6 &&& 31)) &&& (1 : Int32)) = 0) (rM_handsB_229 self k75 v1 v2 v3 v4 v5 v6 σ) (rM_handsB_123 self k75 v1 v2 v3 v4 v5 v6 σ))
set_option maxRecDepth 100000 in
theorem tM_handsB_107 {f lo : Nat} {X : CX} (hX : gd X cX12_hands 8 RX12 none) (hw : (xw X).1 = mLy) (hg : nA X) (hR : xR X = rmOf (f + 3) (lo + 69) 0 0) {τ : St} (hr : xr X = (none, τ)) {self : Int32 → Int32 → Int32 → Int32 → Int32 → St → Option (St)} (hself : ∀ (v1 : Int32) (v2 : Int32) (v3 : Int32) (v4 : Int32) (v5 : Int32) (σ τ : St), self v1 v2 v3 v4 v5 σ = some τ → Ct yX12_hands cX12_hands 8 none f lo (xw X) [.ref (wad (xw X) 0), .int v1, .int v2, .int v3, .int v4, .int v5] σ none τ 0 0) {k75 : Int32 → Int32 → Int32 → Int32 → Int32 → Int32 → St → Option (St)} (hk75 : (∀ (v1 : Int32) (v2 : Int32) (v3 : Int32) (v4 : Int32) (v5 : Int32) (v6 : Int32) (σ : St), k75 v1 v2 v3 v4 v5 v6 σ = some τ → Jd X 8 75 [(0, .ref (wad (xw X) 0)), (1, .int v1), (2, .int v2), (3, .int v3), (4, .int v4), (5, .int v5), (6, .int v6)] [] σ)) (v1 : Int32) (v2 : Int32) (v3 : Int32) (v4 : Int32) (v5 : Int32) (v6 : Int32) (s0 : Int32) (σ : St) (h : rM_handsB_107 self k75 v1 v2 v3 v4 v5 v6 s0 σ = some τ) : Jd X 8 107 [(0, .ref (wad (xw X) 0)), (1, .int v1), (2, .int v2), (3, .int v3), (4, .int v4), (5, .int v5), (6, .int v6)] [.int s0] σ := by
  unfold rM_handsB_107 at h
  refine K_istore (fun v7_8 => [(7, .int v7_8), (0, .ref (wad (xw X) 0)), (1, .int v1), (2, .int v2), (3, .int v3), (4, .int v4), (5, .int v5), (6, .int v6)]) hX dX12_hands_107 (by decide) (fun _ => rfl) h (fun v7_8 h => ?_)
  refine J_iload (q := 0) hX dX12_hands_109 rfl ?_
  refine K_if_ne (tgt := 123) hX dX12_hands_111 rfl h (fun h => ?_) (fun h => ?_)
  · refine J_sub [1, 2, 3, 4, 5, 6, 7] rfl ?_
    exact tM_handsB_123 hX hw hg hR hr hself hk75 v1 v2 v3 v4 v5 v6 σ h
  · refine J_iload_n (q := 4) hX dX12_hands_114 rfl rfl ?_
    refine J_iload (q := 7) hX dX12_hands_115 rfl ?_
    refine J_ishr hX dX12_hands_117 ?_
    refine J_iconst (v := (1 : Int32)) hX dX12_hands_118 (by decide) ?_
    refine J_iand hX dX12_hands_119 ?_
    refine K_if_ne (tgt := 229) hX dX12_hands_120 rfl h (fun h => ?_) (fun h => ?_)
    · refine J_sub [1, 2, 3, 4, 5, 6, 7] rfl ?_
      exact tM_handsB_229 hX hw hg hR hr hself hk75 v1 v2 v3 v4 v5 v6 σ h
    · refine J_sub [1, 2, 3, 4, 5, 6, 7] rfl ?_
      exact tM_handsB_123 hX hw hg hR hr hself hk75 v1 v2 v3 v4 v5 v6 σ h

def rM_handsB_106 (self : Int32 → Int32 → Int32 → Int32 → Int32 → St → Option (St)) (k75 : Int32 → Int32 → Int32 → Int32 → Int32 → Int32 → St → Option (St)) (v1 : Int32) (v2 : Int32) (v3 : Int32) (v4 : Int32) (v5 : Int32) (v6 : Int32) (σ : St) : Option (St) :=
  rM_handsB_107 self k75 v1 v2 v3 v4 v5 v6 (0 : Int32) σ
set_option maxRecDepth 100000 in
theorem tM_handsB_106 {f lo : Nat} {X : CX} (hX : gd X cX12_hands 8 RX12 none) (hw : (xw X).1 = mLy) (hg : nA X) (hR : xR X = rmOf (f + 3) (lo + 69) 0 0) {τ : St} (hr : xr X = (none, τ)) {self : Int32 → Int32 → Int32 → Int32 → Int32 → St → Option (St)} (hself : ∀ (v1 : Int32) (v2 : Int32) (v3 : Int32) (v4 : Int32) (v5 : Int32) (σ τ : St), self v1 v2 v3 v4 v5 σ = some τ → Ct yX12_hands cX12_hands 8 none f lo (xw X) [.ref (wad (xw X) 0), .int v1, .int v2, .int v3, .int v4, .int v5] σ none τ 0 0) {k75 : Int32 → Int32 → Int32 → Int32 → Int32 → Int32 → St → Option (St)} (hk75 : (∀ (v1 : Int32) (v2 : Int32) (v3 : Int32) (v4 : Int32) (v5 : Int32) (v6 : Int32) (σ : St), k75 v1 v2 v3 v4 v5 v6 σ = some τ → Jd X 8 75 [(0, .ref (wad (xw X) 0)), (1, .int v1), (2, .int v2), (3, .int v3), (4, .int v4), (5, .int v5), (6, .int v6)] [] σ)) (v1 : Int32) (v2 : Int32) (v3 : Int32) (v4 : Int32) (v5 : Int32) (v6 : Int32) (σ : St) (h : rM_handsB_106 self k75 v1 v2 v3 v4 v5 v6 σ = some τ) : Jd X 8 106 [(0, .ref (wad (xw X) 0)), (1, .int v1), (2, .int v2), (3, .int v3), (4, .int v4), (5, .int v5), (6, .int v6)] [] σ := by
  unfold rM_handsB_106 at h
  refine J_iconst (v := (0 : Int32)) hX dX12_hands_106 (by decide) ?_
  refine J_sub [0, 1, 2, 3, 4, 5, 6] rfl ?_
  exact tM_handsB_107 hX hw hg hR hr hself hk75 v1 v2 v3 v4 v5 v6 (0 : Int32) σ h

def rM_handsB_75 (self : Int32 → Int32 → Int32 → Int32 → Int32 → St → Option (St)) (k75 : Int32 → Int32 → Int32 → Int32 → Int32 → Int32 → St → Option (St)) (v1 : Int32) (v2 : Int32) (v3 : Int32) (v4 : Int32) (v5 : Int32) (v6 : Int32) (σ : St) : Option (St) :=
  bnd2 (rM_carriers σ) fun r_7 σ_5 => brc (r_7 ≤ v6) (some σ_5) (brc (v2 ≤ (1 : Int32)) (rM_handsB_106 self k75 v1 v2 v3 v4 v5 v6 σ_5) (chk (ib (v2 - (1 : Int32)) 7) (brc (¬ (σ_5.1 23 (v2 - (1 : Int32)).toNatClampNeg) = v6) (rM_handsB_106 self k75 v1 v2 v3 v4 v5 v6 σ_5) (rM_handsB_107 self k75 v1 v2 v3 v4 v5 v6 (1 : Int32) σ_5))))
set_option maxRecDepth 100000 in
theorem tM_handsB_75b {f lo : Nat} {X : CX} (hX : gd X cX12_hands 8 RX12 none) (hw : (xw X).1 = mLy) (hg : nA X) (hR : xR X = rmOf (f + 3) (lo + 69) 0 0) {τ : St} (hr : xr X = (none, τ)) {self : Int32 → Int32 → Int32 → Int32 → Int32 → St → Option (St)} (hself : ∀ (v1 : Int32) (v2 : Int32) (v3 : Int32) (v4 : Int32) (v5 : Int32) (σ τ : St), self v1 v2 v3 v4 v5 σ = some τ → Ct yX12_hands cX12_hands 8 none f lo (xw X) [.ref (wad (xw X) 0), .int v1, .int v2, .int v3, .int v4, .int v5] σ none τ 0 0) {k75 : Int32 → Int32 → Int32 → Int32 → Int32 → Int32 → St → Option (St)} (hk75 : (∀ (v1 : Int32) (v2 : Int32) (v3 : Int32) (v4 : Int32) (v5 : Int32) (v6 : Int32) (σ : St), k75 v1 v2 v3 v4 v5 v6 σ = some τ → Jd X 8 75 [(0, .ref (wad (xw X) 0)), (1, .int v1), (2, .int v2), (3, .int v3), (4, .int v4), (5, .int v5), (6, .int v6)] [] σ)) (v1 : Int32) (v2 : Int32) (v3 : Int32) (v4 : Int32) (v5 : Int32) (v6 : Int32) (σ : St) (h : rM_handsB_75 self k75 v1 v2 v3 v4 v5 v6 σ = some τ) : Jd X 8 75 [(0, .ref (wad (xw X) 0)), (1, .int v1), (2, .int v2), (3, .int v3), (4, .int v4), (5, .int v5), (6, .int v6)] [] σ := by
  unfold rM_handsB_75 at h
  refine J_iload (q := 6) hX dX12_hands_75 rfl ?_
  refine J_aload_n (q := 0) hX dX12_hands_77 rfl rfl ?_
  obtain ⟨r_7, σ_5, hc_6, h⟩ := bnd2_some h
  refine K_callV [] hX hg hR (ctM_carriers hw hc_6) lk_X12_312_X12_carriers md_X12_carriers (mc_0 hw) cls_X12 ⟨by omega, by omega⟩ rfl rfl (Nat.le_of_ble_eq_true rfl) dX12_hands_78 ?_
  refine K_icmp_ge (tgt := 235) hX dX12_hands_81 rfl h (fun h => ?_) (fun h => ?_)
  · exact K_vret hX hr dX12_hands_235 h
  · refine J_iload_n (q := 2) hX dX12_hands_84 rfl rfl ?_
    refine J_iconst (v := (1 : Int32)) hX dX12_hands_85 (by decide) ?_
    refine K_icmp_le (tgt := 106) hX dX12_hands_86 rfl h (fun h => ?_) (fun h => ?_)
    · refine J_sub [0, 1, 2, 3, 4, 5, 6] rfl ?_
      exact tM_handsB_106 hX hw hg hR hr hself hk75 v1 v2 v3 v4 v5 v6 σ_5 h
    · refine J_aload_n (q := 0) hX dX12_hands_89 rfl rfl ?_
      refine K_getc 23 hX (mc_0 hw) cls_X12 (k := 39) (by decide) uw_6_86 rfl dX12_hands_90 ?_
      refine J_iload_n (q := 2) hX dX12_hands_93 rfl rfl ?_
      refine J_iconst (v := (1 : Int32)) hX dX12_hands_94 (by decide) ?_
      refine J_isub hX dX12_hands_95 ?_
      refine K_iald hX (mc_23 hw) dX12_hands_96 h (fun h => ?_)
      refine J_iload (q := 6) hX dX12_hands_97 rfl ?_
      refine K_icmp_ne (tgt := 106) hX dX12_hands_99 rfl h (fun h => ?_) (fun h => ?_)
      · refine J_sub [0, 1, 2, 3, 4, 5, 6] rfl ?_
        exact tM_handsB_106 hX hw hg hR hr hself hk75 v1 v2 v3 v4 v5 v6 σ_5 h
      · refine J_iconst (v := (1 : Int32)) hX dX12_hands_102 (by decide) ?_
        refine J_goto (tgt := 107) hX dX12_hands_103 rfl ?_
        refine J_sub [0, 1, 2, 3, 4, 5, 6] rfl ?_
        exact tM_handsB_107 hX hw hg hR hr hself hk75 v1 v2 v3 v4 v5 v6 (1 : Int32) σ_5 h
def rM_handsB_75L (self : Int32 → Int32 → Int32 → Int32 → Int32 → St → Option (St)) : ((Int32 × Int32 × Int32 × Int32 × Int32 × Int32 × St) → Option (St)) → (Int32 × Int32 × Int32 × Int32 × Int32 × Int32 × St) → Option (St) := fun k a => rM_handsB_75 self (fun v1 v2 v3 v4 v5 v6 σ => k (v1, v2, v3, v4, v5, v6, σ)) a.1 a.2.1 a.2.2.1 a.2.2.2.1 a.2.2.2.2.1 a.2.2.2.2.2.1 a.2.2.2.2.2.2
theorem tM_handsB_75 {f lo : Nat} {X : CX} (hX : gd X cX12_hands 8 RX12 none) (hw : (xw X).1 = mLy) (hg : nA X) (hR : xR X = rmOf (f + 3) (lo + 69) 0 0) {τ : St} (hr : xr X = (none, τ)) {self : Int32 → Int32 → Int32 → Int32 → Int32 → St → Option (St)} (hself : ∀ (v1 : Int32) (v2 : Int32) (v3 : Int32) (v4 : Int32) (v5 : Int32) (σ τ : St), self v1 v2 v3 v4 v5 σ = some τ → Ct yX12_hands cX12_hands 8 none f lo (xw X) [.ref (wad (xw X) 0), .int v1, .int v2, .int v3, .int v4, .int v5] σ none τ 0 0) (n : Nat) (v1 : Int32) (v2 : Int32) (v3 : Int32) (v4 : Int32) (v5 : Int32) (v6 : Int32) (σ : St) (h : lp (rM_handsB_75L self) n (v1, v2, v3, v4, v5, v6, σ) = some τ) : Jd X 8 75 [(0, .ref (wad (xw X) 0)), (1, .int v1), (2, .int v2), (3, .int v3), (4, .int v4), (5, .int v5), (6, .int v6)] [] σ :=
  lp_ind (F := rM_handsB_75L self) (P := fun a => Jd X 8 75 [(0, .ref (wad (xw X) 0)), (1, .int a.1), (2, .int a.2.1), (3, .int a.2.2.1), (4, .int a.2.2.2.1), (5, .int a.2.2.2.2.1), (6, .int a.2.2.2.2.2.1)] [] a.2.2.2.2.2.2) (fun k a hk h => tM_handsB_75b hX hw hg hR hr hself (fun v1 v2 v3 v4 v5 v6 σ h => hk (v1, v2, v3, v4, v5, v6, σ) h) a.1 a.2.1 a.2.2.1 a.2.2.2.1 a.2.2.2.2.1 a.2.2.2.2.2.1 a.2.2.2.2.2.2 h) n (v1, v2, v3, v4, v5, v6, σ) h

def rM_handsB_71 (self : Int32 → Int32 → Int32 → Int32 → Int32 → St → Option (St)) (σ : St) : Option (St) :=
  some σ
set_option maxRecDepth 100000 in
theorem tM_handsB_71 {f lo : Nat} {X : CX} (hX : gd X cX12_hands 8 RX12 none) (hw : (xw X).1 = mLy) (hg : nA X) (hR : xR X = rmOf (f + 3) (lo + 69) 0 0) {τ : St} (hr : xr X = (none, τ)) {self : Int32 → Int32 → Int32 → Int32 → Int32 → St → Option (St)} (hself : ∀ (v1 : Int32) (v2 : Int32) (v3 : Int32) (v4 : Int32) (v5 : Int32) (σ τ : St), self v1 v2 v3 v4 v5 σ = some τ → Ct yX12_hands cX12_hands 8 none f lo (xw X) [.ref (wad (xw X) 0), .int v1, .int v2, .int v3, .int v4, .int v5] σ none τ 0 0) (σ : St) (h : rM_handsB_71 self σ = some τ) : Jd X 8 71 [] [] σ := by
  unfold rM_handsB_71 at h
  exact K_vret hX hr dX12_hands_71 h

def rM_handsB_43 (self : Int32 → Int32 → Int32 → Int32 → Int32 → St → Option (St)) (k43 : Int32 → Int32 → St → Option (St)) (v2 : Int32) (v6 : Int32) (σ : St) : Option (St) :=
  brc (v2 ≤ v6) (rM_handsB_71 self σ) (chk (ib v6 7) (chk (ib (v6 - (1 : Int32)) 7) (nm (setI σ 24 (v6 - (1 : Int32)).toNatClampNeg (σ.1 23 v6.toNatClampNeg)) fun σ_41 => nm (v6 + Int32.ofInt 1) fun v6_42 => k43 v2 v6_42 σ_41)))
set_option maxRecDepth 100000 in
theorem tM_handsB_43b {f lo : Nat} {X : CX} (hX : gd X cX12_hands 8 RX12 none) (hw : (xw X).1 = mLy) (hg : nA X) (hR : xR X = rmOf (f + 3) (lo + 69) 0 0) {τ : St} (hr : xr X = (none, τ)) {self : Int32 → Int32 → Int32 → Int32 → Int32 → St → Option (St)} (hself : ∀ (v1 : Int32) (v2 : Int32) (v3 : Int32) (v4 : Int32) (v5 : Int32) (σ τ : St), self v1 v2 v3 v4 v5 σ = some τ → Ct yX12_hands cX12_hands 8 none f lo (xw X) [.ref (wad (xw X) 0), .int v1, .int v2, .int v3, .int v4, .int v5] σ none τ 0 0) {k43 : Int32 → Int32 → St → Option (St)} (hk43 : (∀ (v2 : Int32) (v6 : Int32) (σ : St), k43 v2 v6 σ = some τ → Jd X 8 43 [(0, .ref (wad (xw X) 0)), (2, .int v2), (6, .int v6)] [] σ)) (v2 : Int32) (v6 : Int32) (σ : St) (h : rM_handsB_43 self k43 v2 v6 σ = some τ) : Jd X 8 43 [(0, .ref (wad (xw X) 0)), (2, .int v2), (6, .int v6)] [] σ := by
  unfold rM_handsB_43 at h
  refine J_iload (q := 2) hX dX12_hands_43 rfl ?_
  refine J_iload_n (q := 1) hX dX12_hands_45 rfl rfl ?_
  refine K_icmp_ge (tgt := 71) hX dX12_hands_46 rfl h (fun h => ?_) (fun h => ?_)
  · refine J_sub [] rfl ?_
    exact tM_handsB_71 hX hw hg hR hr hself σ h
  · refine J_aload_n (q := 0) hX dX12_hands_49 rfl rfl ?_
    refine K_getc 24 hX (mc_0 hw) cls_X12 (k := 40) (by decide) uw_6_87 rfl dX12_hands_50 ?_
    refine J_iload (q := 2) hX dX12_hands_53 rfl ?_
    refine J_iconst (v := (1 : Int32)) hX dX12_hands_55 (by decide) ?_
    refine J_isub hX dX12_hands_56 ?_
    refine J_aload_n (q := 0) hX dX12_hands_57 rfl rfl ?_
    refine K_getc 23 hX (mc_0 hw) cls_X12 (k := 39) (by decide) uw_6_86 rfl dX12_hands_58 ?_
    refine J_iload (q := 2) hX dX12_hands_61 rfl ?_
    refine K_iald hX (mc_23 hw) dX12_hands_63 h (fun h => ?_)
    refine K_iast hX (mc_24 hw) dX12_hands_64 h (fun σ_41 h => ?_)
    refine K_iinc (q := 2) (fun v6_42 => [(6, .int v6_42), (0, .ref (wad (xw X) 0)), (2, .int v2)]) hX dX12_hands_65 rfl (by decide) (fun _ => rfl) h (fun v6_42 h => ?_)
    refine J_goto (tgt := 43) hX dX12_hands_68 rfl ?_
    refine J_sub [1, 2, 0] rfl ?_
    exact hk43 v2 v6_42 σ_41 h
def rM_handsB_43L (self : Int32 → Int32 → Int32 → Int32 → Int32 → St → Option (St)) : ((Int32 × Int32 × St) → Option (St)) → (Int32 × Int32 × St) → Option (St) := fun k a => rM_handsB_43 self (fun v2 v6 σ => k (v2, v6, σ)) a.1 a.2.1 a.2.2
theorem tM_handsB_43 {f lo : Nat} {X : CX} (hX : gd X cX12_hands 8 RX12 none) (hw : (xw X).1 = mLy) (hg : nA X) (hR : xR X = rmOf (f + 3) (lo + 69) 0 0) {τ : St} (hr : xr X = (none, τ)) {self : Int32 → Int32 → Int32 → Int32 → Int32 → St → Option (St)} (hself : ∀ (v1 : Int32) (v2 : Int32) (v3 : Int32) (v4 : Int32) (v5 : Int32) (σ τ : St), self v1 v2 v3 v4 v5 σ = some τ → Ct yX12_hands cX12_hands 8 none f lo (xw X) [.ref (wad (xw X) 0), .int v1, .int v2, .int v3, .int v4, .int v5] σ none τ 0 0) (n : Nat) (v2 : Int32) (v6 : Int32) (σ : St) (h : lp (rM_handsB_43L self) n (v2, v6, σ) = some τ) : Jd X 8 43 [(0, .ref (wad (xw X) 0)), (2, .int v2), (6, .int v6)] [] σ :=
  lp_ind (F := rM_handsB_43L self) (P := fun a => Jd X 8 43 [(0, .ref (wad (xw X) 0)), (2, .int a.1), (6, .int a.2.1)] [] a.2.2) (fun k a hk h => tM_handsB_43b hX hw hg hR hr hself (fun v2 v6 σ h => hk (v2, v6, σ) h) a.1 a.2.1 a.2.2 h) n (v2, v6, σ) h

def rM_handsB (self : Int32 → Int32 → Int32 → Int32 → Int32 → St → Option (St)) (v1 : Int32) (v2 : Int32) (v3 : Int32) (v4 : Int32) (v5 : Int32) (σ : St) : Option (St) :=
  bnd2 (rM_lengthOf v1 σ) fun r_3 σ_1 => brc (¬ v2 = r_3) (nm (0 : Int32) fun v6_4 => lp (rM_handsB_75L self) fu (v1, v2, v3, v4, v5, v6_4, σ_1)) (chk (ib (5 : Int32) 320) (brc ((σ_1.1 6 (5 : Int32).toNatClampNeg) < v5) (rM_handsB_71 self σ_1) (brc (v4 ≤ (σ_1.1 0 42)) (rM_handsB_71 self σ_1) (nm (setI σ_1 0 42 v4) fun σ_38 => nm (setI σ_38 0 41 v1) fun σ_39 => nm (1 : Int32) fun v6_40 => lp (rM_handsB_43L self) fu (v2, v6_40, σ_39)))))
set_option maxRecDepth 100000 in
theorem tM_handsB {f lo : Nat} {X : CX} (hX : gd X cX12_hands 8 RX12 none) (hw : (xw X).1 = mLy) (hg : nA X) (hR : xR X = rmOf (f + 3) (lo + 69) 0 0) {τ : St} (hr : xr X = (none, τ)) {self : Int32 → Int32 → Int32 → Int32 → Int32 → St → Option (St)} (hself : ∀ (v1 : Int32) (v2 : Int32) (v3 : Int32) (v4 : Int32) (v5 : Int32) (σ τ : St), self v1 v2 v3 v4 v5 σ = some τ → Ct yX12_hands cX12_hands 8 none f lo (xw X) [.ref (wad (xw X) 0), .int v1, .int v2, .int v3, .int v4, .int v5] σ none τ 0 0) (v1 : Int32) (v2 : Int32) (v3 : Int32) (v4 : Int32) (v5 : Int32) (σ : St) (h : rM_handsB self v1 v2 v3 v4 v5 σ = some τ) : Jd X 8 0 [(0, .ref (wad (xw X) 0)), (1, .int v1), (2, .int v2), (3, .int v3), (4, .int v4), (5, .int v5)] [] σ := by
  unfold rM_handsB at h
  refine J_iload_n (q := 2) hX dX12_hands_0 rfl rfl ?_
  refine J_aload_n (q := 0) hX dX12_hands_1 rfl rfl ?_
  refine J_iload_n (q := 1) hX dX12_hands_2 rfl rfl ?_
  obtain ⟨r_3, σ_1, hc_2, h⟩ := bnd2_some h
  refine K_callV [.int v1] hX hg hR (ctM_lengthOf hw hc_2) lk_X12_351_X12_lengthOf md_X12_lengthOf (mc_0 hw) cls_X12 ⟨by omega, by omega⟩ rfl rfl (Nat.le_of_ble_eq_true rfl) dX12_hands_3 ?_
  refine K_icmp_ne (tgt := 72) hX dX12_hands_6 rfl h (fun h => ?_) (fun h => ?_)
  · refine J_iconst (v := (0 : Int32)) hX dX12_hands_72 (by decide) ?_
    refine K_istore (fun v6_4 => [(6, .int v6_4), (0, .ref (wad (xw X) 0)), (1, .int v1), (2, .int v2), (3, .int v3), (4, .int v4), (5, .int v5)]) hX dX12_hands_73 (by decide) (fun _ => rfl) h (fun v6_4 h => ?_)
    refine J_sub [1, 2, 3, 4, 5, 6, 0] rfl ?_
    exact tM_handsB_75 hX hw hg hR hr hself fu v1 v2 v3 v4 v5 v6_4 σ_1 h
  · refine J_iload (q := 5) hX dX12_hands_9 rfl ?_
    refine J_aload_n (q := 0) hX dX12_hands_11 rfl rfl ?_
    refine K_getc 6 hX (mc_0 hw) cls_X12 (k := 10) (by decide) uw_6_57 rfl dX12_hands_12 ?_
    refine J_iconst (v := (5 : Int32)) hX dX12_hands_15 (by decide) ?_
    refine K_iald hX (mc_6 hw) dX12_hands_16 h (fun h => ?_)
    refine K_icmp_gt (tgt := 71) hX dX12_hands_17 rfl h (fun h => ?_) (fun h => ?_)
    · refine J_sub [] rfl ?_
      exact tM_handsB_71 hX hw hg hR hr hself σ_1 h
    · refine J_iload (q := 4) hX dX12_hands_20 rfl ?_
      refine J_aload_n (q := 0) hX dX12_hands_22 rfl rfl ?_
      refine K_geti hX (mc_0 hw) cls_X12 (k := 42) (by decide) uw_6_89 rfl dX12_hands_23 ?_
      refine K_icmp_le (tgt := 71) hX dX12_hands_26 rfl h (fun h => ?_) (fun h => ?_)
      · refine J_sub [] rfl ?_
        exact tM_handsB_71 hX hw hg hR hr hself σ_1 h
      · refine J_aload_n (q := 0) hX dX12_hands_29 rfl rfl ?_
        refine J_iload (q := 4) hX dX12_hands_30 rfl ?_
        refine K_puti hX (mc_0 hw) cls_X12 (k := 42) (by decide) uw_6_89 rfl rfl rfl dX12_hands_32 h (fun σ_38 h => ?_)
        refine J_aload_n (q := 0) hX dX12_hands_35 rfl rfl ?_
        refine J_iload_n (q := 1) hX dX12_hands_36 rfl rfl ?_
        refine K_puti hX (mc_0 hw) cls_X12 (k := 41) (by decide) uw_6_88 rfl rfl rfl dX12_hands_37 h (fun σ_39 h => ?_)
        refine J_iconst (v := (1 : Int32)) hX dX12_hands_40 (by decide) ?_
        refine K_istore (fun v6_40 => [(6, .int v6_40), (0, .ref (wad (xw X) 0)), (1, .int v1), (2, .int v2), (3, .int v3), (4, .int v4), (5, .int v5)]) hX dX12_hands_41 (by decide) (fun _ => rfl) h (fun v6_40 h => ?_)
        refine J_sub [1, 3, 0] rfl ?_
        exact tM_handsB_43 hX hw hg hR hr hself fu v2 v6_40 σ_39 h
theorem ctM_handsB {f lo : Nat} {w : WT} (hw : w.1 = mLy) {v1 : Int32} {v2 : Int32} {v3 : Int32} {v4 : Int32} {v5 : Int32} {σ : St} {self : Int32 → Int32 → Int32 → Int32 → Int32 → St → Option (St)} (hself : ∀ (v1 : Int32) (v2 : Int32) (v3 : Int32) (v4 : Int32) (v5 : Int32) (σ τ : St), self v1 v2 v3 v4 v5 σ = some τ → Ct yX12_hands cX12_hands 8 none f lo w [.ref (wad w 0), .int v1, .int v2, .int v3, .int v4, .int v5] σ none τ 0 0) {τ : St} (h : rM_handsB self v1 v2 v3 v4 v5 σ = some τ) : Ct yX12_hands cX12_hands 8 none (f + 3) (lo + 69) w [.ref (wad w 0), .int v1, .int v2, .int v3, .int v4, .int v5] σ none τ 0 0 :=
  Ct_intro (fun _ => (0, 0)) (by decide) rfl ⟨rfl, Nat.le_refl _⟩ (Nat.le_of_ble_eq_true rfl) (fun X hX hR hwX hg hr => by subst hwX; exact tM_handsB hX hw hg hR hr hself v1 v2 v3 v4 v5 σ h)

def rM_hands_F : ((Int32 × Int32 × Int32 × Int32 × Int32 × St) → Option St) → (Int32 × Int32 × Int32 × Int32 × Int32 × St) → Option St := fun self a => rM_handsB (fun v1 v2 v3 v4 v5 σ => self (v1, v2, v3, v4, v5, σ)) a.1 a.2.1 a.2.2.1 a.2.2.2.1 a.2.2.2.2.1 a.2.2.2.2.2
def rM_hands (d : Nat) (v1 : Int32) (v2 : Int32) (v3 : Int32) (v4 : Int32) (v5 : Int32) (σ : St) : Option St := lp rM_hands_F d (v1, v2, v3, v4, v5, σ)
theorem ctM_hands {w : WT} (hw : w.1 = mLy) (d : Nat) (v1 : Int32) (v2 : Int32) (v3 : Int32) (v4 : Int32) (v5 : Int32) (σ τ : St) (h : rM_hands d v1 v2 v3 v4 v5 σ = some τ) : Ct yX12_hands cX12_hands 8 none (3 * d) (69 * d) w [.ref (wad w 0), .int v1, .int v2, .int v3, .int v4, .int v5] σ none τ 0 0 :=
  lp_ind2 (F := rM_hands_F) (P := fun d a τ => Ct yX12_hands cX12_hands 8 none (3 * d) (69 * d) w [.ref (wad w 0), .int a.1, .int a.2.1, .int a.2.2.1, .int a.2.2.2.1, .int a.2.2.2.2.1] a.2.2.2.2.2 none τ 0 0) (fun n a r ih h => by rw [Nat.mul_succ, Nat.mul_succ]; exact ctM_handsB (f := 3 * n) (lo := 69 * n) hw (self := fun v1 v2 v3 v4 v5 σ => lp rM_hands_F n (v1, v2, v3, v4, v5, σ)) (fun v1 v2 v3 v4 v5 σ τ h => ih (v1, v2, v3, v4, v5, σ) τ h) h) d (v1, v2, v3, v4, v5, σ) τ h

def rM_readRule_25 (s0 : Int32) (s1 : Int32) (σ : St) : Option (St) :=
  nm (s1 + s0) fun v1_5 => chk (ib v1_5 320) (brc ((σ.1 6 v1_5.toNatClampNeg) < 0) (nm (setI σ 0 7 ((σ.1 0 7) + (1 : Int32))) fun σ_6 => chk (ib v1_5 320) (nm (setI σ_6 6 v1_5.toNatClampNeg (σ_6.1 0 14)) fun σ_7 => bnd1 (rM_all (rM_takePart 8) (0 : Int32) σ_7) fun σ_8 => bnd1 (rM_emit (0 : Int32) (0 : Int32) σ_8) fun σ_10 => some σ_10)) (bnd1 (rM_wrong (3 : Int32) σ) fun σ_12 => some σ_12))
set_option maxRecDepth 100000 in
theorem tM_readRule_25 {X : CX} (hX : gd X cX12_readRule 2 RX12 none) (hw : (xw X).1 = mLy) (hg : nA X) (hR : xR X = rmOf 54 1170 0 0) {τ : St} (hr : xr X = (none, τ)) (s0 : Int32) (s1 : Int32) (σ : St) (h : rM_readRule_25 s0 s1 σ = some τ) : Jd X 2 25 [(0, .ref (wad (xw X) 0))] [.int s0, .int s1] σ := by
  unfold rM_readRule_25 at h
  refine J_iadd hX dX12_readRule_25 ?_
  refine K_istore_n (fun v1_5 => [(1, .int v1_5), (0, .ref (wad (xw X) 0))]) hX dX12_readRule_26 rfl (by decide) (fun _ => rfl) h (fun v1_5 h => ?_)
  refine J_aload_n (q := 1) hX dX12_readRule_27 rfl rfl ?_
  refine K_getc 6 hX (mc_0 hw) cls_X12 (k := 10) (by decide) uw_6_57 rfl dX12_readRule_28 ?_
  refine J_iload_n (q := 0) hX dX12_readRule_31 rfl rfl ?_
  refine K_iald hX (mc_6 hw) dX12_readRule_32 h (fun h => ?_)
  refine K_if_lt (tgt := 42) hX dX12_readRule_33 rfl h (fun h => ?_) (fun h => ?_)
  · refine J_aload_n (q := 1) hX dX12_readRule_42 rfl rfl ?_
    refine J_dup hX dX12_readRule_43 rfl ?_
    refine K_geti hX (mc_0 hw) cls_X12 (k := 7) (by decide) uw_6_54 rfl dX12_readRule_44 ?_
    refine J_iconst (v := (1 : Int32)) hX dX12_readRule_47 (by decide) ?_
    refine J_iadd hX dX12_readRule_48 ?_
    refine K_puti hX (mc_0 hw) cls_X12 (k := 7) (by decide) uw_6_54 rfl rfl rfl dX12_readRule_49 h (fun σ_6 h => ?_)
    refine J_aload_n (q := 1) hX dX12_readRule_52 rfl rfl ?_
    refine K_getc 6 hX (mc_0 hw) cls_X12 (k := 10) (by decide) uw_6_57 rfl dX12_readRule_53 ?_
    refine J_iload_n (q := 0) hX dX12_readRule_56 rfl rfl ?_
    refine J_aload_n (q := 1) hX dX12_readRule_57 rfl rfl ?_
    refine K_geti hX (mc_0 hw) cls_X12 (k := 14) (by decide) uw_6_61 rfl dX12_readRule_58 ?_
    refine K_iast hX (mc_6 hw) dX12_readRule_61 h (fun σ_7 h => ?_)
    refine J_aload_n (q := 1) hX dX12_readRule_62 rfl rfl ?_
    refine J_iconst (v := (0 : Int32)) hX dX12_readRule_63 (by decide) ?_
    obtain ⟨σ_8, hc_9, h⟩ := bnd1_some h
    refine K_callV [.int (0 : Int32)] hX hg hR (ctM_all hw (ctM_takePart hw 8) hc_9) lk_X12_277_X12_all md_X12_all (mc_0 hw) cls_X12 ⟨by decide, by decide⟩ rfl rfl (Nat.le_of_ble_eq_true rfl) dX12_readRule_64 ?_
    refine J_aload_n (q := 1) hX dX12_readRule_67 rfl rfl ?_
    refine J_iconst (v := (0 : Int32)) hX dX12_readRule_68 (by decide) ?_
    refine J_iconst (v := (0 : Int32)) hX dX12_readRule_69 (by decide) ?_
    obtain ⟨σ_10, hc_11, h⟩ := bnd1_some h
    refine K_callV [.int (0 : Int32), .int (0 : Int32)] hX hg hR (ctM_emit hw hc_11) lk_X12_280_X12_emit md_X12_emit (mc_0 hw) cls_X12 ⟨by decide, by decide⟩ rfl rfl (Nat.le_of_ble_eq_true rfl) dX12_readRule_70 ?_
    exact K_vret hX hr dX12_readRule_73 h
  · refine J_aload_n (q := 1) hX dX12_readRule_36 rfl rfl ?_
    refine J_iconst (v := (3 : Int32)) hX dX12_readRule_37 (by decide) ?_
    obtain ⟨σ_12, hc_13, h⟩ := bnd1_some h
    refine K_callV [.int (3 : Int32)] hX hg hR (ctM_wrong hw hc_13) lk_X12_197_X12_wrong md_X12_wrong (mc_0 hw) cls_X12 ⟨by decide, by decide⟩ rfl rfl (Nat.le_of_ble_eq_true rfl) dX12_readRule_38 ?_
    exact K_vret hX hr dX12_readRule_41 h

def rM_readRule (σ : St) : Option (St) :=
  bnd2 (rM_isWord (12 : Int32) σ) fun r_3 σ_1 => chk (decide (r_3 = 0 ∨ r_3 = 1)) (nm (setI σ_1 0 19 r_3) fun σ_4 => brc ((σ_4.1 0 19) = 0) (rM_readRule_25 (0 : Int32) (166 : Int32) σ_4) (rM_readRule_25 (1 : Int32) (166 : Int32) σ_4))
set_option maxRecDepth 100000 in
theorem tM_readRule {X : CX} (hX : gd X cX12_readRule 2 RX12 none) (hw : (xw X).1 = mLy) (hg : nA X) (hR : xR X = rmOf 54 1170 0 0) {τ : St} (hr : xr X = (none, τ)) (σ : St) (h : rM_readRule σ = some τ) : Jd X 2 0 [(0, .ref (wad (xw X) 0))] [] σ := by
  unfold rM_readRule at h
  refine J_aload_n (q := 0) hX dX12_readRule_0 rfl rfl ?_
  refine J_aload_n (q := 0) hX dX12_readRule_1 rfl rfl ?_
  refine J_bipush (v := (12 : Int32)) hX dX12_readRule_2 (by decide) ?_
  obtain ⟨r_3, σ_1, hc_2, h⟩ := bnd2_some h
  refine K_callV [.int (12 : Int32)] hX hg hR (ctM_isWord hw hc_2) lk_X12_200_X12_isWord md_X12_isWord (mc_0 hw) cls_X12 ⟨by decide, by decide⟩ rfl rfl (Nat.le_of_ble_eq_true rfl) dX12_readRule_4 ?_
  refine K_putz hX (mc_0 hw) cls_X12 (k := 19) (by decide) uw_6_66 rfl rfl rfl dX12_readRule_7 h (fun σ_4 h => ?_)
  refine J_sipush (v := (166 : Int32)) hX dX12_readRule_10 (by decide) ?_
  refine J_aload_n (q := 0) hX dX12_readRule_13 rfl rfl ?_
  refine K_geti hX (mc_0 hw) cls_X12 (k := 19) (by decide) uw_6_66 rfl dX12_readRule_14 ?_
  refine K_if_eq (tgt := 24) hX dX12_readRule_17 rfl h (fun h => ?_) (fun h => ?_)
  · refine J_iconst (v := (0 : Int32)) hX dX12_readRule_24 (by decide) ?_
    refine J_sub [0] rfl ?_
    exact tM_readRule_25 hX hw hg hR hr (0 : Int32) (166 : Int32) σ_4 h
  · refine J_iconst (v := (1 : Int32)) hX dX12_readRule_20 (by decide) ?_
    refine J_goto (tgt := 25) hX dX12_readRule_21 rfl ?_
    refine J_sub [0] rfl ?_
    exact tM_readRule_25 hX hw hg hR hr (1 : Int32) (166 : Int32) σ_4 h
theorem ctM_readRule {w : WT} (hw : w.1 = mLy) {σ : St} {τ : St} (h : rM_readRule σ = some τ) : Ct yX12_readRule cX12_readRule 2 none 54 1170 w [.ref (wad w 0)] σ none τ 0 0 :=
  Ct_intro (fun _ => (0, 0)) (by decide) rfl ⟨rfl, Nat.le_refl _⟩ (Nat.le_of_ble_eq_true rfl) (fun X hX hR hwX hg hr => by subst hwX; exact tM_readRule hX hw hg hR hr  σ h)

def rM_readLine_91 (σ : St) : Option (St) :=
  some σ
set_option maxRecDepth 100000 in
theorem tM_readLine_91 {X : CX} (hX : gd X cX12_readLine 1 RX12 none) (hw : (xw X).1 = mLy) (hg : nA X) (hR : xR X = rmOf 55 1191 0 0) {τ : St} (hr : xr X = (none, τ)) (σ : St) (h : rM_readLine_91 σ = some τ) : Jd X 1 91 [] [] σ := by
  unfold rM_readLine_91 at h
  exact K_vret hX hr dX12_readLine_91 h

def rM_readLine_80 (σ : St) : Option (St) :=
  bnd1 (rM_readRule σ) fun σ_16 => rM_readLine_91 σ_16
set_option maxRecDepth 100000 in
theorem tM_readLine_80 {X : CX} (hX : gd X cX12_readLine 1 RX12 none) (hw : (xw X).1 = mLy) (hg : nA X) (hR : xR X = rmOf 55 1191 0 0) {τ : St} (hr : xr X = (none, τ)) (σ : St) (h : rM_readLine_80 σ = some τ) : Jd X 1 80 [(0, .ref (wad (xw X) 0))] [] σ := by
  unfold rM_readLine_80 at h
  refine J_aload_n (q := 0) hX dX12_readLine_80 rfl rfl ?_
  obtain ⟨σ_16, hc_17, h⟩ := bnd1_some h
  refine K_callV [] hX hg hR (ctM_readRule hw hc_17) lk_X12_249_X12_readRule md_X12_readRule (mc_0 hw) cls_X12 ⟨by decide, by decide⟩ rfl rfl (Nat.le_of_ble_eq_true rfl) dX12_readLine_81 ?_
  refine J_goto (tgt := 91) hX dX12_readLine_84 rfl ?_
  refine J_sub [] rfl ?_
  exact tM_readLine_91 hX hw hg hR hr σ_16 h

def rM_readLine (σ : St) : Option (St) :=
  bnd2 (rM_isWord (0 : Int32) σ) fun r_3 σ_1 => brc (r_3 = 0) (bnd2 (rM_isWord (3 : Int32) σ_1) fun r_6 σ_4 => brc (r_6 = 0) (bnd2 (rM_isWord (6 : Int32) σ_4) fun r_9 σ_7 => brc (r_9 = 0) (bnd2 (rM_isWord (10 : Int32) σ_7) fun r_12 σ_10 => brc (r_12 = 0) (bnd2 (rM_isWord (11 : Int32) σ_10) fun r_15 σ_13 => brc (¬ r_15 = 0) (rM_readLine_80 σ_13) (bnd2 (rM_isWord (12 : Int32) σ_13) fun r_20 σ_18 => brc (r_20 = 0) (bnd1 (rM_readOnce σ_18) fun σ_21 => rM_readLine_91 σ_21) (rM_readLine_80 σ_18))) (bnd1 (rM_readOwe σ_10) fun σ_23 => rM_readLine_91 σ_23)) (bnd1 (rM_readCarrier σ_7) fun σ_25 => rM_readLine_91 σ_25)) (bnd1 (rM_readWay σ_4) fun σ_27 => rM_readLine_91 σ_27)) (bnd1 (rM_readStation σ_1) fun σ_29 => rM_readLine_91 σ_29)
set_option maxRecDepth 100000 in
theorem tM_readLine {X : CX} (hX : gd X cX12_readLine 1 RX12 none) (hw : (xw X).1 = mLy) (hg : nA X) (hR : xR X = rmOf 55 1191 0 0) {τ : St} (hr : xr X = (none, τ)) (σ : St) (h : rM_readLine σ = some τ) : Jd X 1 0 [(0, .ref (wad (xw X) 0))] [] σ := by
  unfold rM_readLine at h
  refine J_aload_n (q := 0) hX dX12_readLine_0 rfl rfl ?_
  refine J_iconst (v := (0 : Int32)) hX dX12_readLine_1 (by decide) ?_
  obtain ⟨r_3, σ_1, hc_2, h⟩ := bnd2_some h
  refine K_callV [.int (0 : Int32)] hX hg hR (ctM_isWord hw hc_2) lk_X12_200_X12_isWord md_X12_isWord (mc_0 hw) cls_X12 ⟨by decide, by decide⟩ rfl rfl (Nat.le_of_ble_eq_true rfl) dX12_readLine_2 ?_
  refine K_if_eq (tgt := 15) hX dX12_readLine_5 rfl h (fun h => ?_) (fun h => ?_)
  · refine J_aload_n (q := 0) hX dX12_readLine_15 rfl rfl ?_
    refine J_iconst (v := (3 : Int32)) hX dX12_readLine_16 (by decide) ?_
    obtain ⟨r_6, σ_4, hc_5, h⟩ := bnd2_some h
    refine K_callV [.int (3 : Int32)] hX hg hR (ctM_isWord hw hc_5) lk_X12_200_X12_isWord md_X12_isWord (mc_0 hw) cls_X12 ⟨by decide, by decide⟩ rfl rfl (Nat.le_of_ble_eq_true rfl) dX12_readLine_17 ?_
    refine K_if_eq (tgt := 30) hX dX12_readLine_20 rfl h (fun h => ?_) (fun h => ?_)
    · refine J_aload_n (q := 0) hX dX12_readLine_30 rfl rfl ?_
      refine J_bipush (v := (6 : Int32)) hX dX12_readLine_31 (by decide) ?_
      obtain ⟨r_9, σ_7, hc_8, h⟩ := bnd2_some h
      refine K_callV [.int (6 : Int32)] hX hg hR (ctM_isWord hw hc_8) lk_X12_200_X12_isWord md_X12_isWord (mc_0 hw) cls_X12 ⟨by decide, by decide⟩ rfl rfl (Nat.le_of_ble_eq_true rfl) dX12_readLine_33 ?_
      refine K_if_eq (tgt := 46) hX dX12_readLine_36 rfl h (fun h => ?_) (fun h => ?_)
      · refine J_aload_n (q := 0) hX dX12_readLine_46 rfl rfl ?_
        refine J_bipush (v := (10 : Int32)) hX dX12_readLine_47 (by decide) ?_
        obtain ⟨r_12, σ_10, hc_11, h⟩ := bnd2_some h
        refine K_callV [.int (10 : Int32)] hX hg hR (ctM_isWord hw hc_11) lk_X12_200_X12_isWord md_X12_isWord (mc_0 hw) cls_X12 ⟨by decide, by decide⟩ rfl rfl (Nat.le_of_ble_eq_true rfl) dX12_readLine_49 ?_
        refine K_if_eq (tgt := 62) hX dX12_readLine_52 rfl h (fun h => ?_) (fun h => ?_)
        · refine J_aload_n (q := 0) hX dX12_readLine_62 rfl rfl ?_
          refine J_bipush (v := (11 : Int32)) hX dX12_readLine_63 (by decide) ?_
          obtain ⟨r_15, σ_13, hc_14, h⟩ := bnd2_some h
          refine K_callV [.int (11 : Int32)] hX hg hR (ctM_isWord hw hc_14) lk_X12_200_X12_isWord md_X12_isWord (mc_0 hw) cls_X12 ⟨by decide, by decide⟩ rfl rfl (Nat.le_of_ble_eq_true rfl) dX12_readLine_65 ?_
          refine K_if_ne (tgt := 80) hX dX12_readLine_68 rfl h (fun h => ?_) (fun h => ?_)
          · refine J_sub [0] rfl ?_
            exact tM_readLine_80 hX hw hg hR hr σ_13 h
          · refine J_aload_n (q := 0) hX dX12_readLine_71 rfl rfl ?_
            refine J_bipush (v := (12 : Int32)) hX dX12_readLine_72 (by decide) ?_
            obtain ⟨r_20, σ_18, hc_19, h⟩ := bnd2_some h
            refine K_callV [.int (12 : Int32)] hX hg hR (ctM_isWord hw hc_19) lk_X12_200_X12_isWord md_X12_isWord (mc_0 hw) cls_X12 ⟨by decide, by decide⟩ rfl rfl (Nat.le_of_ble_eq_true rfl) dX12_readLine_74 ?_
            refine K_if_eq (tgt := 87) hX dX12_readLine_77 rfl h (fun h => ?_) (fun h => ?_)
            · refine J_aload_n (q := 0) hX dX12_readLine_87 rfl rfl ?_
              obtain ⟨σ_21, hc_22, h⟩ := bnd1_some h
              refine K_callV [] hX hg hR (ctM_readOnce hw hc_22) lk_X12_252_X12_readOnce md_X12_readOnce (mc_0 hw) cls_X12 ⟨by decide, by decide⟩ rfl rfl (Nat.le_of_ble_eq_true rfl) dX12_readLine_88 ?_
              refine J_sub [] rfl ?_
              exact tM_readLine_91 hX hw hg hR hr σ_21 h
            · refine J_sub [0] rfl ?_
              exact tM_readLine_80 hX hw hg hR hr σ_18 h
        · refine J_aload_n (q := 0) hX dX12_readLine_55 rfl rfl ?_
          obtain ⟨σ_23, hc_24, h⟩ := bnd1_some h
          refine K_callV [] hX hg hR (ctM_readOwe hw hc_24) lk_X12_246_X12_readOwe md_X12_readOwe (mc_0 hw) cls_X12 ⟨by decide, by decide⟩ rfl rfl (Nat.le_of_ble_eq_true rfl) dX12_readLine_56 ?_
          refine J_goto (tgt := 91) hX dX12_readLine_59 rfl ?_
          refine J_sub [] rfl ?_
          exact tM_readLine_91 hX hw hg hR hr σ_23 h
      · refine J_aload_n (q := 0) hX dX12_readLine_39 rfl rfl ?_
        obtain ⟨σ_25, hc_26, h⟩ := bnd1_some h
        refine K_callV [] hX hg hR (ctM_readCarrier hw hc_26) lk_X12_243_X12_readCarrier md_X12_readCarrier (mc_0 hw) cls_X12 ⟨by decide, by decide⟩ rfl rfl (Nat.le_of_ble_eq_true rfl) dX12_readLine_40 ?_
        refine J_goto (tgt := 91) hX dX12_readLine_43 rfl ?_
        refine J_sub [] rfl ?_
        exact tM_readLine_91 hX hw hg hR hr σ_25 h
    · refine J_aload_n (q := 0) hX dX12_readLine_23 rfl rfl ?_
      obtain ⟨σ_27, hc_28, h⟩ := bnd1_some h
      refine K_callV [] hX hg hR (ctM_readWay hw hc_28) lk_X12_240_X12_readWay md_X12_readWay (mc_0 hw) cls_X12 ⟨by decide, by decide⟩ rfl rfl (Nat.le_of_ble_eq_true rfl) dX12_readLine_24 ?_
      refine J_goto (tgt := 91) hX dX12_readLine_27 rfl ?_
      refine J_sub [] rfl ?_
      exact tM_readLine_91 hX hw hg hR hr σ_27 h
  · refine J_aload_n (q := 0) hX dX12_readLine_8 rfl rfl ?_
    obtain ⟨σ_29, hc_30, h⟩ := bnd1_some h
    refine K_callV [] hX hg hR (ctM_readStation hw hc_30) lk_X12_237_X12_readStation md_X12_readStation (mc_0 hw) cls_X12 ⟨by decide, by decide⟩ rfl rfl (Nat.le_of_ble_eq_true rfl) dX12_readLine_9 ?_
    refine J_goto (tgt := 91) hX dX12_readLine_12 rfl ?_
    refine J_sub [] rfl ?_
    exact tM_readLine_91 hX hw hg hR hr σ_29 h
theorem ctM_readLine {w : WT} (hw : w.1 = mLy) {σ : St} {τ : St} (h : rM_readLine σ = some τ) : Ct yX12_readLine cX12_readLine 1 none 55 1191 w [.ref (wad w 0)] σ none τ 0 0 :=
  Ct_intro (fun _ => (0, 0)) (by decide) rfl ⟨rfl, Nat.le_refl _⟩ (Nat.le_of_ble_eq_true rfl) (fun X hX hR hwX hg hr => by subst hwX; exact tM_readLine hX hw hg hR hr  σ h)

def rM_findPaths_25 (σ : St) : Option (St) :=
  some σ
set_option maxRecDepth 100000 in
theorem tM_findPaths_25 {X : CX} (hX : gd X cX12_findPaths 1 RX12 none) (hw : (xw X).1 = mLy) (hg : nA X) (hR : xR X = rmOf 10 230 0 0) {τ : St} (hr : xr X = (none, τ)) (σ : St) (h : rM_findPaths_25 σ = some τ) : Jd X 1 25 [] [] σ := by
  unfold rM_findPaths_25 at h
  exact K_vret hX hr dX12_findPaths_25 h

def rM_findPaths (σ : St) : Option (St) :=
  nm (setI σ 0 27 (0 : Int32)) fun σ_1 => bnd2 (rM_stations σ_1) fun r_4 σ_2 => brc (r_4 ≤ 0) (rM_findPaths_25 σ_2) (chk (ib (0 : Int32) 7) (nm (setI σ_2 19 (0 : Int32).toNatClampNeg (0 : Int32)) fun σ_5 => bnd1 (rM_goesOn 9 (1 : Int32) (1 : Int32) σ_5) fun σ_6 => rM_findPaths_25 σ_6))
set_option maxRecDepth 100000 in
theorem tM_findPaths {X : CX} (hX : gd X cX12_findPaths 1 RX12 none) (hw : (xw X).1 = mLy) (hg : nA X) (hR : xR X = rmOf 10 230 0 0) {τ : St} (hr : xr X = (none, τ)) (σ : St) (h : rM_findPaths σ = some τ) : Jd X 1 0 [(0, .ref (wad (xw X) 0))] [] σ := by
  unfold rM_findPaths at h
  refine J_aload_n (q := 0) hX dX12_findPaths_0 rfl rfl ?_
  refine J_iconst (v := (0 : Int32)) hX dX12_findPaths_1 (by decide) ?_
  refine K_puti hX (mc_0 hw) cls_X12 (k := 27) (by decide) uw_6_74 rfl rfl rfl dX12_findPaths_2 h (fun σ_1 h => ?_)
  refine J_aload_n (q := 0) hX dX12_findPaths_5 rfl rfl ?_
  obtain ⟨r_4, σ_2, hc_3, h⟩ := bnd2_some h
  refine K_callV [] hX hg hR (ctM_stations hw hc_3) lk_X12_309_X12_stations md_X12_stations (mc_0 hw) cls_X12 ⟨by decide, by decide⟩ rfl rfl (Nat.le_of_ble_eq_true rfl) dX12_findPaths_6 ?_
  refine K_if_le (tgt := 25) hX dX12_findPaths_9 rfl h (fun h => ?_) (fun h => ?_)
  · refine J_sub [] rfl ?_
    exact tM_findPaths_25 hX hw hg hR hr σ_2 h
  · refine J_aload_n (q := 0) hX dX12_findPaths_12 rfl rfl ?_
    refine K_getc 19 hX (mc_0 hw) cls_X12 (k := 29) (by decide) uw_6_76 rfl dX12_findPaths_13 ?_
    refine J_iconst (v := (0 : Int32)) hX dX12_findPaths_16 (by decide) ?_
    refine J_iconst (v := (0 : Int32)) hX dX12_findPaths_17 (by decide) ?_
    refine K_iast hX (mc_19 hw) dX12_findPaths_18 h (fun σ_5 h => ?_)
    refine J_aload_n (q := 0) hX dX12_findPaths_19 rfl rfl ?_
    refine J_iconst (v := (1 : Int32)) hX dX12_findPaths_20 (by decide) ?_
    refine J_iconst (v := (1 : Int32)) hX dX12_findPaths_21 (by decide) ?_
    obtain ⟨σ_6, hc_7, h⟩ := bnd1_some h
    refine K_callV [.int (1 : Int32), .int (1 : Int32)] hX hg hR (ctM_goesOn hw 9 _ _ _ _ hc_7) lk_X12_321_X12_goesOn md_X12_goesOn (mc_0 hw) cls_X12 ⟨by decide, by decide⟩ rfl rfl (Nat.le_of_ble_eq_true rfl) dX12_findPaths_22 ?_
    refine J_sub [] rfl ?_
    exact tM_findPaths_25 hX hw hg hR hr σ_6 h
theorem ctM_findPaths {w : WT} (hw : w.1 = mLy) {σ : St} {τ : St} (h : rM_findPaths σ = some τ) : Ct yX12_findPaths cX12_findPaths 1 none 10 230 w [.ref (wad w 0)] σ none τ 0 0 :=
  Ct_intro (fun _ => (0, 0)) (by decide) rfl ⟨rfl, Nat.le_refl _⟩ (Nat.le_of_ble_eq_true rfl) (fun X hX hR hwX hg hr => by subst hwX; exact tM_findPaths hX hw hg hR hr  σ h)

def rM_mountain_223 (k223 : Int32 → St → Option (Int32 × St)) (v1 : Int32) (σ : St) : Option (Int32 × St) :=
  brc ((4 : Int32) ≤ v1) (bnd1 (rM_findPaths σ) fun σ_17 => some ((0 : Int32), σ_17)) (chk (ib v1 4) (nm (setI σ 17 v1.toNatClampNeg (vp_nar .boolean (0 : Int32))) fun σ_19 => nm (v1 + Int32.ofInt 1) fun v1_20 => k223 v1_20 σ_19))
set_option maxRecDepth 100000 in
theorem tM_mountain_223b {X : CX} (hX : gd X cX12_mountain 2 RX12 (some .int)) (hw : (xw X).1 = mLy) (hg : nA X) (hR : xR X = rmOf 56 1211 0 0) {r : Int32} {τ : St} (hr : xr X = (some (.int r), τ)) {k223 : Int32 → St → Option (Int32 × St)} (hk223 : (∀ (v1 : Int32) (σ : St), k223 v1 σ = some (r, τ) → Jd X 2 223 [(0, .ref (wad (xw X) 0)), (1, .int v1)] [] σ)) (v1 : Int32) (σ : St) (h : rM_mountain_223 k223 v1 σ = some (r, τ)) : Jd X 2 223 [(0, .ref (wad (xw X) 0)), (1, .int v1)] [] σ := by
  unfold rM_mountain_223 at h
  refine J_iload_n (q := 1) hX dX12_mountain_223 rfl rfl ?_
  refine J_iconst (v := (4 : Int32)) hX dX12_mountain_224 (by decide) ?_
  refine K_icmp_ge (tgt := 241) hX dX12_mountain_225 rfl h (fun h => ?_) (fun h => ?_)
  · refine J_aload_n (q := 0) hX dX12_mountain_241 rfl rfl ?_
    obtain ⟨σ_17, hc_18, h⟩ := bnd1_some h
    refine K_callV [] hX hg hR (ctM_findPaths hw hc_18) lk_X12_234_X12_findPaths md_X12_findPaths (mc_0 hw) cls_X12 ⟨by decide, by decide⟩ rfl rfl (Nat.le_of_ble_eq_true rfl) dX12_mountain_242 ?_
    refine J_iconst (v := (0 : Int32)) hX dX12_mountain_245 (by decide) ?_
    exact K_iret hX hr dX12_mountain_246 h
  · refine J_aload_n (q := 0) hX dX12_mountain_228 rfl rfl ?_
    refine K_getc 17 hX (mc_0 hw) cls_X12 (k := 26) (by decide) uw_6_73 rfl dX12_mountain_229 ?_
    refine J_iload_n (q := 1) hX dX12_mountain_232 rfl rfl ?_
    refine J_iconst (v := (0 : Int32)) hX dX12_mountain_233 (by decide) ?_
    refine K_zast hX (mc_17 hw) dX12_mountain_234 h (fun σ_19 h => ?_)
    refine K_iinc (q := 1) (fun v1_20 => [(1, .int v1_20), (0, .ref (wad (xw X) 0))]) hX dX12_mountain_235 rfl (by decide) (fun _ => rfl) h (fun v1_20 h => ?_)
    refine J_goto (tgt := 223) hX dX12_mountain_238 rfl ?_
    refine J_sub [1, 0] rfl ?_
    exact hk223 v1_20 σ_19 h
def rM_mountain_223L : ((Int32 × St) → Option (Int32 × St)) → (Int32 × St) → Option (Int32 × St) := fun k a => rM_mountain_223 (fun v1 σ => k (v1, σ)) a.1 a.2
theorem tM_mountain_223 {X : CX} (hX : gd X cX12_mountain 2 RX12 (some .int)) (hw : (xw X).1 = mLy) (hg : nA X) (hR : xR X = rmOf 56 1211 0 0) {r : Int32} {τ : St} (hr : xr X = (some (.int r), τ)) (n : Nat) (v1 : Int32) (σ : St) (h : lp (rM_mountain_223L) n (v1, σ) = some (r, τ)) : Jd X 2 223 [(0, .ref (wad (xw X) 0)), (1, .int v1)] [] σ :=
  lp_ind (F := rM_mountain_223L) (P := fun a => Jd X 2 223 [(0, .ref (wad (xw X) 0)), (1, .int a.1)] [] a.2) (fun k a hk h => tM_mountain_223b hX hw hg hR hr (fun v1 σ h => hk (v1, σ) h) a.1 a.2 h) n (v1, σ) h

def rM_mountain_205 (k177 : Int32 → St → Option (Int32 × St)) (v1 : Int32) (s0 : Int32) (s1 : Int32) (σ : St) : Option (Int32 × St) :=
  chk (ib s1 6000) (nm (setI σ 16 s1.toNatClampNeg s0) fun σ_21 => nm (v1 + Int32.ofInt 1) fun v1_22 => k177 v1_22 σ_21)
set_option maxRecDepth 100000 in
theorem tM_mountain_205 {X : CX} (hX : gd X cX12_mountain 2 RX12 (some .int)) (hw : (xw X).1 = mLy) (hg : nA X) (hR : xR X = rmOf 56 1211 0 0) {r : Int32} {τ : St} (hr : xr X = (some (.int r), τ)) {k177 : Int32 → St → Option (Int32 × St)} (hk177 : (∀ (v1 : Int32) (σ : St), k177 v1 σ = some (r, τ) → Jd X 2 177 [(0, .ref (wad (xw X) 0)), (1, .int v1)] [] σ)) (v1 : Int32) (s0 : Int32) (s1 : Int32) (σ : St) (h : rM_mountain_205 k177 v1 s0 s1 σ = some (r, τ)) : Jd X 2 205 [(0, .ref (wad (xw X) 0)), (1, .int v1)] [.int s0, .int s1, .ref (wad (xw X) 16)] σ := by
  unfold rM_mountain_205 at h
  refine K_iast hX (mc_16 hw) dX12_mountain_205 h (fun σ_21 h => ?_)
  refine K_iinc (q := 1) (fun v1_22 => [(1, .int v1_22), (0, .ref (wad (xw X) 0))]) hX dX12_mountain_206 rfl (by decide) (fun _ => rfl) h (fun v1_22 h => ?_)
  refine J_goto (tgt := 177) hX dX12_mountain_209 rfl ?_
  refine J_sub [1, 0] rfl ?_
  exact hk177 v1_22 σ_21 h

def rM_mountain_177 (k177 : Int32 → St → Option (Int32 × St)) (v1 : Int32) (σ : St) : Option (Int32 × St) :=
  brc ((240 : Int32) ≤ v1) (bnd1 (rM_rests σ) fun σ_13 => nm (setI σ_13 0 25 (0 : Int32)) fun σ_15 => nm (0 : Int32) fun v1_16 => lp (rM_mountain_223L) fu (v1_16, σ_15)) (brc ((36 : Int32) ≤ v1) (rM_mountain_205 k177 v1 (0 : Int32) v1 σ) (chk (ib v1 36) (rM_mountain_205 k177 v1 (σ.1 7 v1.toNatClampNeg) v1 σ)))
set_option maxRecDepth 100000 in
theorem tM_mountain_177b {X : CX} (hX : gd X cX12_mountain 2 RX12 (some .int)) (hw : (xw X).1 = mLy) (hg : nA X) (hR : xR X = rmOf 56 1211 0 0) {r : Int32} {τ : St} (hr : xr X = (some (.int r), τ)) {k177 : Int32 → St → Option (Int32 × St)} (hk177 : (∀ (v1 : Int32) (σ : St), k177 v1 σ = some (r, τ) → Jd X 2 177 [(0, .ref (wad (xw X) 0)), (1, .int v1)] [] σ)) (v1 : Int32) (σ : St) (h : rM_mountain_177 k177 v1 σ = some (r, τ)) : Jd X 2 177 [(0, .ref (wad (xw X) 0)), (1, .int v1)] [] σ := by
  unfold rM_mountain_177 at h
  refine J_iload_n (q := 1) hX dX12_mountain_177 rfl rfl ?_
  refine J_sipush (v := (240 : Int32)) hX dX12_mountain_178 (by decide) ?_
  refine K_icmp_ge (tgt := 212) hX dX12_mountain_181 rfl h (fun h => ?_) (fun h => ?_)
  · refine J_aload_n (q := 0) hX dX12_mountain_212 rfl rfl ?_
    obtain ⟨σ_13, hc_14, h⟩ := bnd1_some h
    refine K_callV [] hX hg hR (ctM_rests hw hc_14) lk_X12_162_X12_rests md_X12_rests (mc_0 hw) cls_X12 ⟨by decide, by decide⟩ rfl rfl (Nat.le_of_ble_eq_true rfl) dX12_mountain_213 ?_
    refine J_aload_n (q := 0) hX dX12_mountain_216 rfl rfl ?_
    refine J_iconst (v := (0 : Int32)) hX dX12_mountain_217 (by decide) ?_
    refine K_puti hX (mc_0 hw) cls_X12 (k := 25) (by decide) uw_6_72 rfl rfl rfl dX12_mountain_218 h (fun σ_15 h => ?_)
    refine J_iconst (v := (0 : Int32)) hX dX12_mountain_221 (by decide) ?_
    refine K_istore_n (fun v1_16 => [(1, .int v1_16), (0, .ref (wad (xw X) 0))]) hX dX12_mountain_222 rfl (by decide) (fun _ => rfl) h (fun v1_16 h => ?_)
    refine J_sub [1, 0] rfl ?_
    exact tM_mountain_223 hX hw hg hR hr fu v1_16 σ_15 h
  · refine J_aload_n (q := 0) hX dX12_mountain_184 rfl rfl ?_
    refine K_getc 16 hX (mc_0 hw) cls_X12 (k := 24) (by decide) uw_6_71 rfl dX12_mountain_185 ?_
    refine J_iload_n (q := 1) hX dX12_mountain_188 rfl rfl ?_
    refine J_iload_n (q := 1) hX dX12_mountain_189 rfl rfl ?_
    refine J_bipush (v := (36 : Int32)) hX dX12_mountain_190 (by decide) ?_
    refine K_icmp_ge (tgt := 204) hX dX12_mountain_192 rfl h (fun h => ?_) (fun h => ?_)
    · refine J_iconst (v := (0 : Int32)) hX dX12_mountain_204 (by decide) ?_
      refine J_sub [0, 1] rfl ?_
      exact tM_mountain_205 hX hw hg hR hr hk177 v1 (0 : Int32) v1 σ h
    · refine J_aload_n (q := 0) hX dX12_mountain_195 rfl rfl ?_
      refine K_getc 7 hX (mc_0 hw) cls_X12 (k := 11) (by decide) uw_6_58 rfl dX12_mountain_196 ?_
      refine J_iload_n (q := 1) hX dX12_mountain_199 rfl rfl ?_
      refine K_iald hX (mc_7 hw) dX12_mountain_200 h (fun h => ?_)
      refine J_goto (tgt := 205) hX dX12_mountain_201 rfl ?_
      refine J_sub [0, 1] rfl ?_
      exact tM_mountain_205 hX hw hg hR hr hk177 v1 (σ.1 7 v1.toNatClampNeg) v1 σ h
def rM_mountain_177L : ((Int32 × St) → Option (Int32 × St)) → (Int32 × St) → Option (Int32 × St) := fun k a => rM_mountain_177 (fun v1 σ => k (v1, σ)) a.1 a.2
theorem tM_mountain_177 {X : CX} (hX : gd X cX12_mountain 2 RX12 (some .int)) (hw : (xw X).1 = mLy) (hg : nA X) (hR : xR X = rmOf 56 1211 0 0) {r : Int32} {τ : St} (hr : xr X = (some (.int r), τ)) (n : Nat) (v1 : Int32) (σ : St) (h : lp (rM_mountain_177L) n (v1, σ) = some (r, τ)) : Jd X 2 177 [(0, .ref (wad (xw X) 0)), (1, .int v1)] [] σ :=
  lp_ind (F := rM_mountain_177L) (P := fun a => Jd X 2 177 [(0, .ref (wad (xw X) 0)), (1, .int a.1)] [] a.2) (fun k a hk h => tM_mountain_177b hX hw hg hR hr (fun v1 σ h => hk (v1, σ) h) a.1 a.2 h) n (v1, σ) h

def rM_mountain_129 (k129 : Int32 → St → Option (Int32 × St)) (v1 : Int32) (σ : St) : Option (Int32 × St) :=
  brc ((σ.1 0 14) ≤ v1) (nm (0 : Int32) fun v1_12 => lp (rM_mountain_177L) fu (v1_12, σ)) (chk (ib ((1100 : Int32) + v1) 2200) (chk (ib v1 2200) (nm (setI σ 8 v1.toNatClampNeg (σ.1 8 ((1100 : Int32) + v1).toNatClampNeg)) fun σ_23 => chk (ib ((1100 : Int32) + v1) 2200) (chk (ib v1 2200) (nm (setI σ_23 9 v1.toNatClampNeg (σ_23.1 9 ((1100 : Int32) + v1).toNatClampNeg)) fun σ_24 => nm (v1 + Int32.ofInt 1) fun v1_25 => k129 v1_25 σ_24)))))
set_option maxRecDepth 100000 in
theorem tM_mountain_129b {X : CX} (hX : gd X cX12_mountain 2 RX12 (some .int)) (hw : (xw X).1 = mLy) (hg : nA X) (hR : xR X = rmOf 56 1211 0 0) {r : Int32} {τ : St} (hr : xr X = (some (.int r), τ)) {k129 : Int32 → St → Option (Int32 × St)} (hk129 : (∀ (v1 : Int32) (σ : St), k129 v1 σ = some (r, τ) → Jd X 2 129 [(0, .ref (wad (xw X) 0)), (1, .int v1)] [] σ)) (v1 : Int32) (σ : St) (h : rM_mountain_129 k129 v1 σ = some (r, τ)) : Jd X 2 129 [(0, .ref (wad (xw X) 0)), (1, .int v1)] [] σ := by
  unfold rM_mountain_129 at h
  refine J_iload_n (q := 1) hX dX12_mountain_129 rfl rfl ?_
  refine J_aload_n (q := 0) hX dX12_mountain_130 rfl rfl ?_
  refine K_geti hX (mc_0 hw) cls_X12 (k := 14) (by decide) uw_6_61 rfl dX12_mountain_131 ?_
  refine K_icmp_ge (tgt := 175) hX dX12_mountain_134 rfl h (fun h => ?_) (fun h => ?_)
  · refine J_iconst (v := (0 : Int32)) hX dX12_mountain_175 (by decide) ?_
    refine K_istore_n (fun v1_12 => [(1, .int v1_12), (0, .ref (wad (xw X) 0))]) hX dX12_mountain_176 rfl (by decide) (fun _ => rfl) h (fun v1_12 h => ?_)
    refine J_sub [1, 0] rfl ?_
    exact tM_mountain_177 hX hw hg hR hr fu v1_12 σ h
  · refine J_aload_n (q := 0) hX dX12_mountain_137 rfl rfl ?_
    refine K_getc 8 hX (mc_0 hw) cls_X12 (k := 12) (by decide) uw_6_59 rfl dX12_mountain_138 ?_
    refine J_iload_n (q := 1) hX dX12_mountain_141 rfl rfl ?_
    refine J_aload_n (q := 0) hX dX12_mountain_142 rfl rfl ?_
    refine K_getc 8 hX (mc_0 hw) cls_X12 (k := 12) (by decide) uw_6_59 rfl dX12_mountain_143 ?_
    refine J_sipush (v := (1100 : Int32)) hX dX12_mountain_146 (by decide) ?_
    refine J_iload_n (q := 1) hX dX12_mountain_149 rfl rfl ?_
    refine J_iadd hX dX12_mountain_150 ?_
    refine K_iald hX (mc_8 hw) dX12_mountain_151 h (fun h => ?_)
    refine K_iast hX (mc_8 hw) dX12_mountain_152 h (fun σ_23 h => ?_)
    refine J_aload_n (q := 0) hX dX12_mountain_153 rfl rfl ?_
    refine K_getc 9 hX (mc_0 hw) cls_X12 (k := 13) (by decide) uw_6_60 rfl dX12_mountain_154 ?_
    refine J_iload_n (q := 1) hX dX12_mountain_157 rfl rfl ?_
    refine J_aload_n (q := 0) hX dX12_mountain_158 rfl rfl ?_
    refine K_getc 9 hX (mc_0 hw) cls_X12 (k := 13) (by decide) uw_6_60 rfl dX12_mountain_159 ?_
    refine J_sipush (v := (1100 : Int32)) hX dX12_mountain_162 (by decide) ?_
    refine J_iload_n (q := 1) hX dX12_mountain_165 rfl rfl ?_
    refine J_iadd hX dX12_mountain_166 ?_
    refine K_iald hX (mc_9 hw) dX12_mountain_167 h (fun h => ?_)
    refine K_iast hX (mc_9 hw) dX12_mountain_168 h (fun σ_24 h => ?_)
    refine K_iinc (q := 1) (fun v1_25 => [(1, .int v1_25), (0, .ref (wad (xw X) 0))]) hX dX12_mountain_169 rfl (by decide) (fun _ => rfl) h (fun v1_25 h => ?_)
    refine J_goto (tgt := 129) hX dX12_mountain_172 rfl ?_
    refine J_sub [1, 0] rfl ?_
    exact hk129 v1_25 σ_24 h
def rM_mountain_129L : ((Int32 × St) → Option (Int32 × St)) → (Int32 × St) → Option (Int32 × St) := fun k a => rM_mountain_129 (fun v1 σ => k (v1, σ)) a.1 a.2
theorem tM_mountain_129 {X : CX} (hX : gd X cX12_mountain 2 RX12 (some .int)) (hw : (xw X).1 = mLy) (hg : nA X) (hR : xR X = rmOf 56 1211 0 0) {r : Int32} {τ : St} (hr : xr X = (some (.int r), τ)) (n : Nat) (v1 : Int32) (σ : St) (h : lp (rM_mountain_129L) n (v1, σ) = some (r, τ)) : Jd X 2 129 [(0, .ref (wad (xw X) 0)), (1, .int v1)] [] σ :=
  lp_ind (F := rM_mountain_129L) (P := fun a => Jd X 2 129 [(0, .ref (wad (xw X) 0)), (1, .int a.1)] [] a.2) (fun k a hk h => tM_mountain_129b hX hw hg hR hr (fun v1 σ h => hk (v1, σ) h) a.1 a.2 h) n (v1, σ) h

def rM_mountain_98 (k98 : Int32 → St → Option (Int32 × St)) (v1 : Int32) (σ : St) : Option (Int32 × St) :=
  brc ((160 : Int32) ≤ v1) (nm (0 : Int32) fun v1_11 => lp (rM_mountain_129L) fu (v1_11, σ)) (chk (ib ((160 : Int32) + v1) 320) (chk (ib v1 320) (nm (setI σ 6 v1.toNatClampNeg (σ.1 6 ((160 : Int32) + v1).toNatClampNeg)) fun σ_26 => nm (v1 + Int32.ofInt 1) fun v1_27 => k98 v1_27 σ_26)))
set_option maxRecDepth 100000 in
theorem tM_mountain_98b {X : CX} (hX : gd X cX12_mountain 2 RX12 (some .int)) (hw : (xw X).1 = mLy) (hg : nA X) (hR : xR X = rmOf 56 1211 0 0) {r : Int32} {τ : St} (hr : xr X = (some (.int r), τ)) {k98 : Int32 → St → Option (Int32 × St)} (hk98 : (∀ (v1 : Int32) (σ : St), k98 v1 σ = some (r, τ) → Jd X 2 98 [(0, .ref (wad (xw X) 0)), (1, .int v1)] [] σ)) (v1 : Int32) (σ : St) (h : rM_mountain_98 k98 v1 σ = some (r, τ)) : Jd X 2 98 [(0, .ref (wad (xw X) 0)), (1, .int v1)] [] σ := by
  unfold rM_mountain_98 at h
  refine J_iload_n (q := 1) hX dX12_mountain_98 rfl rfl ?_
  refine J_sipush (v := (160 : Int32)) hX dX12_mountain_99 (by decide) ?_
  refine K_icmp_ge (tgt := 127) hX dX12_mountain_102 rfl h (fun h => ?_) (fun h => ?_)
  · refine J_iconst (v := (0 : Int32)) hX dX12_mountain_127 (by decide) ?_
    refine K_istore_n (fun v1_11 => [(1, .int v1_11), (0, .ref (wad (xw X) 0))]) hX dX12_mountain_128 rfl (by decide) (fun _ => rfl) h (fun v1_11 h => ?_)
    refine J_sub [1, 0] rfl ?_
    exact tM_mountain_129 hX hw hg hR hr fu v1_11 σ h
  · refine J_aload_n (q := 0) hX dX12_mountain_105 rfl rfl ?_
    refine K_getc 6 hX (mc_0 hw) cls_X12 (k := 10) (by decide) uw_6_57 rfl dX12_mountain_106 ?_
    refine J_iload_n (q := 1) hX dX12_mountain_109 rfl rfl ?_
    refine J_aload_n (q := 0) hX dX12_mountain_110 rfl rfl ?_
    refine K_getc 6 hX (mc_0 hw) cls_X12 (k := 10) (by decide) uw_6_57 rfl dX12_mountain_111 ?_
    refine J_sipush (v := (160 : Int32)) hX dX12_mountain_114 (by decide) ?_
    refine J_iload_n (q := 1) hX dX12_mountain_117 rfl rfl ?_
    refine J_iadd hX dX12_mountain_118 ?_
    refine K_iald hX (mc_6 hw) dX12_mountain_119 h (fun h => ?_)
    refine K_iast hX (mc_6 hw) dX12_mountain_120 h (fun σ_26 h => ?_)
    refine K_iinc (q := 1) (fun v1_27 => [(1, .int v1_27), (0, .ref (wad (xw X) 0))]) hX dX12_mountain_121 rfl (by decide) (fun _ => rfl) h (fun v1_27 h => ?_)
    refine J_goto (tgt := 98) hX dX12_mountain_124 rfl ?_
    refine J_sub [1, 0] rfl ?_
    exact hk98 v1_27 σ_26 h
def rM_mountain_98L : ((Int32 × St) → Option (Int32 × St)) → (Int32 × St) → Option (Int32 × St) := fun k a => rM_mountain_98 (fun v1 σ => k (v1, σ)) a.1 a.2
theorem tM_mountain_98 {X : CX} (hX : gd X cX12_mountain 2 RX12 (some .int)) (hw : (xw X).1 = mLy) (hg : nA X) (hR : xR X = rmOf 56 1211 0 0) {r : Int32} {τ : St} (hr : xr X = (some (.int r), τ)) (n : Nat) (v1 : Int32) (σ : St) (h : lp (rM_mountain_98L) n (v1, σ) = some (r, τ)) : Jd X 2 98 [(0, .ref (wad (xw X) 0)), (1, .int v1)] [] σ :=
  lp_ind (F := rM_mountain_98L) (P := fun a => Jd X 2 98 [(0, .ref (wad (xw X) 0)), (1, .int a.1)] [] a.2) (fun k a hk h => tM_mountain_98b hX hw hg hR hr (fun v1 σ h => hk (v1, σ) h) a.1 a.2 h) n (v1, σ) h

def rM_mountain_84 (σ : St) : Option (Int32 × St) :=
  brc ((σ.1 0 8) ≤ 0) (nm (0 : Int32) fun v1_10 => lp (rM_mountain_98L) fu (v1_10, σ)) (some (σ.1 0 8, σ))
set_option maxRecDepth 100000 in
theorem tM_mountain_84 {X : CX} (hX : gd X cX12_mountain 2 RX12 (some .int)) (hw : (xw X).1 = mLy) (hg : nA X) (hR : xR X = rmOf 56 1211 0 0) {r : Int32} {τ : St} (hr : xr X = (some (.int r), τ)) (σ : St) (h : rM_mountain_84 σ = some (r, τ)) : Jd X 2 84 [(0, .ref (wad (xw X) 0))] [] σ := by
  unfold rM_mountain_84 at h
  refine J_aload_n (q := 0) hX dX12_mountain_84 rfl rfl ?_
  refine K_geti hX (mc_0 hw) cls_X12 (k := 8) (by decide) uw_6_55 rfl dX12_mountain_85 ?_
  refine K_if_le (tgt := 96) hX dX12_mountain_88 rfl h (fun h => ?_) (fun h => ?_)
  · refine J_iconst (v := (0 : Int32)) hX dX12_mountain_96 (by decide) ?_
    refine K_istore_n (fun v1_10 => [(1, .int v1_10), (0, .ref (wad (xw X) 0))]) hX dX12_mountain_97 rfl (by decide) (fun _ => rfl) h (fun v1_10 h => ?_)
    refine J_sub [1, 0] rfl ?_
    exact tM_mountain_98 hX hw hg hR hr fu v1_10 σ h
  · refine J_aload_n (q := 0) hX dX12_mountain_91 rfl rfl ?_
    refine K_geti hX (mc_0 hw) cls_X12 (k := 8) (by decide) uw_6_55 rfl dX12_mountain_92 ?_
    exact K_iret hX hr dX12_mountain_95 h

def rM_mountain_52 (k52 : St → Option (Int32 × St)) (σ : St) : Option (Int32 × St) :=
  brc (¬ (σ.1 0 8) = 0) (rM_mountain_84 σ) (chk (ib (σ.1 0 7) 1002) (brc ((σ.1 2 (σ.1 0 7).toNatClampNeg) = 0) (rM_mountain_84 σ) (bnd1 (rM_readLine σ) fun σ_28 => bnd1 (rM_takeSign (59 : Int32) σ_28) fun σ_30 => k52 σ_30)))
set_option maxRecDepth 100000 in
theorem tM_mountain_52b {X : CX} (hX : gd X cX12_mountain 2 RX12 (some .int)) (hw : (xw X).1 = mLy) (hg : nA X) (hR : xR X = rmOf 56 1211 0 0) {r : Int32} {τ : St} (hr : xr X = (some (.int r), τ)) {k52 : St → Option (Int32 × St)} (hk52 : (∀ (σ : St), k52 σ = some (r, τ) → Jd X 2 52 [(0, .ref (wad (xw X) 0))] [] σ)) (σ : St) (h : rM_mountain_52 k52 σ = some (r, τ)) : Jd X 2 52 [(0, .ref (wad (xw X) 0))] [] σ := by
  unfold rM_mountain_52 at h
  refine J_aload_n (q := 0) hX dX12_mountain_52 rfl rfl ?_
  refine K_geti hX (mc_0 hw) cls_X12 (k := 8) (by decide) uw_6_55 rfl dX12_mountain_53 ?_
  refine K_if_ne (tgt := 84) hX dX12_mountain_56 rfl h (fun h => ?_) (fun h => ?_)
  · refine J_sub [0] rfl ?_
    exact tM_mountain_84 hX hw hg hR hr σ h
  · refine J_aload_n (q := 0) hX dX12_mountain_59 rfl rfl ?_
    refine K_getc 2 hX (mc_0 hw) cls_X12 (k := 4) (by decide) uw_6_51 rfl dX12_mountain_60 ?_
    refine J_aload_n (q := 0) hX dX12_mountain_63 rfl rfl ?_
    refine K_geti hX (mc_0 hw) cls_X12 (k := 7) (by decide) uw_6_54 rfl dX12_mountain_64 ?_
    refine K_iald hX (mc_2 hw) dX12_mountain_67 h (fun h => ?_)
    refine K_if_eq (tgt := 84) hX dX12_mountain_68 rfl h (fun h => ?_) (fun h => ?_)
    · refine J_sub [0] rfl ?_
      exact tM_mountain_84 hX hw hg hR hr σ h
    · refine J_aload_n (q := 0) hX dX12_mountain_71 rfl rfl ?_
      obtain ⟨σ_28, hc_29, h⟩ := bnd1_some h
      refine K_callV [] hX hg hR (ctM_readLine hw hc_29) lk_X12_225_X12_readLine md_X12_readLine (mc_0 hw) cls_X12 ⟨by decide, by decide⟩ rfl rfl (Nat.le_of_ble_eq_true rfl) dX12_mountain_72 ?_
      refine J_aload_n (q := 0) hX dX12_mountain_75 rfl rfl ?_
      refine J_bipush (v := (59 : Int32)) hX dX12_mountain_76 (by decide) ?_
      obtain ⟨σ_30, hc_31, h⟩ := bnd1_some h
      refine K_callV [.int (59 : Int32)] hX hg hR (ctM_takeSign hw hc_31) lk_X12_228_X12_takeSign md_X12_takeSign (mc_0 hw) cls_X12 ⟨by decide, by decide⟩ rfl rfl (Nat.le_of_ble_eq_true rfl) dX12_mountain_78 ?_
      refine J_goto (tgt := 52) hX dX12_mountain_81 rfl ?_
      refine J_sub [0] rfl ?_
      exact hk52 σ_30 h
def rM_mountain_52L : ((St) → Option (Int32 × St)) → (St) → Option (Int32 × St) := fun k a => rM_mountain_52 (fun σ => k σ) a
theorem tM_mountain_52 {X : CX} (hX : gd X cX12_mountain 2 RX12 (some .int)) (hw : (xw X).1 = mLy) (hg : nA X) (hR : xR X = rmOf 56 1211 0 0) {r : Int32} {τ : St} (hr : xr X = (some (.int r), τ)) (n : Nat) (σ : St) (h : lp (rM_mountain_52L) n σ = some (r, τ)) : Jd X 2 52 [(0, .ref (wad (xw X) 0))] [] σ :=
  lp_ind (F := rM_mountain_52L) (P := fun a => Jd X 2 52 [(0, .ref (wad (xw X) 0))] [] a) (fun k a hk h => tM_mountain_52b hX hw hg hR hr (fun σ h => hk σ h) a h) n σ h

def rM_mountain_33 (k33 : Int32 → St → Option (Int32 × St)) (v1 : Int32) (σ : St) : Option (Int32 × St) :=
  brc ((36 : Int32) ≤ v1) (lp (rM_mountain_52L) fu σ) (chk (ib v1 36) (nm (setI σ 7 v1.toNatClampNeg (0 : Int32)) fun σ_32 => nm (v1 + Int32.ofInt 1) fun v1_33 => k33 v1_33 σ_32))
set_option maxRecDepth 100000 in
theorem tM_mountain_33b {X : CX} (hX : gd X cX12_mountain 2 RX12 (some .int)) (hw : (xw X).1 = mLy) (hg : nA X) (hR : xR X = rmOf 56 1211 0 0) {r : Int32} {τ : St} (hr : xr X = (some (.int r), τ)) {k33 : Int32 → St → Option (Int32 × St)} (hk33 : (∀ (v1 : Int32) (σ : St), k33 v1 σ = some (r, τ) → Jd X 2 33 [(0, .ref (wad (xw X) 0)), (1, .int v1)] [] σ)) (v1 : Int32) (σ : St) (h : rM_mountain_33 k33 v1 σ = some (r, τ)) : Jd X 2 33 [(0, .ref (wad (xw X) 0)), (1, .int v1)] [] σ := by
  unfold rM_mountain_33 at h
  refine J_iload_n (q := 1) hX dX12_mountain_33 rfl rfl ?_
  refine J_bipush (v := (36 : Int32)) hX dX12_mountain_34 (by decide) ?_
  refine K_icmp_ge (tgt := 52) hX dX12_mountain_36 rfl h (fun h => ?_) (fun h => ?_)
  · refine J_sub [0] rfl ?_
    exact tM_mountain_52 hX hw hg hR hr fu σ h
  · refine J_aload_n (q := 0) hX dX12_mountain_39 rfl rfl ?_
    refine K_getc 7 hX (mc_0 hw) cls_X12 (k := 11) (by decide) uw_6_58 rfl dX12_mountain_40 ?_
    refine J_iload_n (q := 1) hX dX12_mountain_43 rfl rfl ?_
    refine J_iconst (v := (0 : Int32)) hX dX12_mountain_44 (by decide) ?_
    refine K_iast hX (mc_7 hw) dX12_mountain_45 h (fun σ_32 h => ?_)
    refine K_iinc (q := 1) (fun v1_33 => [(1, .int v1_33), (0, .ref (wad (xw X) 0))]) hX dX12_mountain_46 rfl (by decide) (fun _ => rfl) h (fun v1_33 h => ?_)
    refine J_goto (tgt := 33) hX dX12_mountain_49 rfl ?_
    refine J_sub [1, 0] rfl ?_
    exact hk33 v1_33 σ_32 h
def rM_mountain_33L : ((Int32 × St) → Option (Int32 × St)) → (Int32 × St) → Option (Int32 × St) := fun k a => rM_mountain_33 (fun v1 σ => k (v1, σ)) a.1 a.2
theorem tM_mountain_33 {X : CX} (hX : gd X cX12_mountain 2 RX12 (some .int)) (hw : (xw X).1 = mLy) (hg : nA X) (hR : xR X = rmOf 56 1211 0 0) {r : Int32} {τ : St} (hr : xr X = (some (.int r), τ)) (n : Nat) (v1 : Int32) (σ : St) (h : lp (rM_mountain_33L) n (v1, σ) = some (r, τ)) : Jd X 2 33 [(0, .ref (wad (xw X) 0)), (1, .int v1)] [] σ :=
  lp_ind (F := rM_mountain_33L) (P := fun a => Jd X 2 33 [(0, .ref (wad (xw X) 0)), (1, .int a.1)] [] a.2) (fun k a hk h => tM_mountain_33b hX hw hg hR hr (fun v1 σ h => hk (v1, σ) h) a.1 a.2 h) n (v1, σ) h

def rM_mountain (σ : St) : Option (Int32 × St) :=
  nm (setI σ 0 0 (0 : Int32)) fun σ_1 => bnd1 (rM_cutAll σ_1) fun σ_2 => nm (setI σ_2 0 14 (0 : Int32)) fun σ_4 => nm (setI σ_4 0 17 (0 : Int32)) fun σ_5 => nm (setI σ_5 0 18 (0 : Int32)) fun σ_6 => bnd1 (rM_standsAsAlways (160 : Int32) σ_6) fun σ_7 => nm (0 : Int32) fun v1_9 => lp (rM_mountain_33L) fu (v1_9, σ_7)
set_option maxRecDepth 100000 in
theorem tM_mountain {X : CX} (hX : gd X cX12_mountain 2 RX12 (some .int)) (hw : (xw X).1 = mLy) (hg : nA X) (hR : xR X = rmOf 56 1211 0 0) {r : Int32} {τ : St} (hr : xr X = (some (.int r), τ)) (σ : St) (h : rM_mountain σ = some (r, τ)) : Jd X 2 0 [(0, .ref (wad (xw X) 0))] [] σ := by
  unfold rM_mountain at h
  refine J_aload_n (q := 0) hX dX12_mountain_0 rfl rfl ?_
  refine J_iconst (v := (0 : Int32)) hX dX12_mountain_1 (by decide) ?_
  refine K_puti hX (mc_0 hw) cls_X12 (k := 0) (by decide) uw_6_47 rfl rfl rfl dX12_mountain_2 h (fun σ_1 h => ?_)
  refine J_aload_n (q := 0) hX dX12_mountain_5 rfl rfl ?_
  obtain ⟨σ_2, hc_3, h⟩ := bnd1_some h
  refine K_callV [] hX hg hR (ctM_cutAll hw hc_3) lk_X12_216_X12_cutAll md_X12_cutAll (mc_0 hw) cls_X12 ⟨by decide, by decide⟩ rfl rfl (Nat.le_of_ble_eq_true rfl) dX12_mountain_6 ?_
  refine J_aload_n (q := 0) hX dX12_mountain_9 rfl rfl ?_
  refine J_iconst (v := (0 : Int32)) hX dX12_mountain_10 (by decide) ?_
  refine K_puti hX (mc_0 hw) cls_X12 (k := 14) (by decide) uw_6_61 rfl rfl rfl dX12_mountain_11 h (fun σ_4 h => ?_)
  refine J_aload_n (q := 0) hX dX12_mountain_14 rfl rfl ?_
  refine J_iconst (v := (0 : Int32)) hX dX12_mountain_15 (by decide) ?_
  refine K_puti hX (mc_0 hw) cls_X12 (k := 17) (by decide) uw_6_64 rfl rfl rfl dX12_mountain_16 h (fun σ_5 h => ?_)
  refine J_aload_n (q := 0) hX dX12_mountain_19 rfl rfl ?_
  refine J_iconst (v := (0 : Int32)) hX dX12_mountain_20 (by decide) ?_
  refine K_puti hX (mc_0 hw) cls_X12 (k := 18) (by decide) uw_6_65 rfl rfl rfl dX12_mountain_21 h (fun σ_6 h => ?_)
  refine J_aload_n (q := 0) hX dX12_mountain_24 rfl rfl ?_
  refine J_sipush (v := (160 : Int32)) hX dX12_mountain_25 (by decide) ?_
  obtain ⟨σ_7, hc_8, h⟩ := bnd1_some h
  refine K_callV [.int (160 : Int32)] hX hg hR (ctM_standsAsAlways hw hc_8) lk_X12_158_X12_standsAsAlways md_X12_standsAsAlways (mc_0 hw) cls_X12 ⟨by decide, by decide⟩ rfl rfl (Nat.le_of_ble_eq_true rfl) dX12_mountain_28 ?_
  refine J_iconst (v := (0 : Int32)) hX dX12_mountain_31 (by decide) ?_
  refine K_istore_n (fun v1_9 => [(1, .int v1_9), (0, .ref (wad (xw X) 0))]) hX dX12_mountain_32 rfl (by decide) (fun _ => rfl) h (fun v1_9 h => ?_)
  refine J_sub [1, 0] rfl ?_
  exact tM_mountain_33 hX hw hg hR hr fu v1_9 σ_7 h
theorem ctM_mountain {w : WT} (hw : w.1 = mLy) {σ : St} {r : Int32} {τ : St} (h : rM_mountain σ = some (r, τ)) : Ct yX12_mountain cX12_mountain 2 (some .int) 56 1211 w [.ref (wad w 0)] σ (some (.int r)) τ 0 0 :=
  Ct_intro (fun _ => (0, 0)) (by decide) rfl ⟨rfl, Nat.le_refl _⟩ (Nat.le_of_ble_eq_true rfl) (fun X hX hR hwX hg hr => by subst hwX; exact tM_mountain hX hw hg hR hr  σ h)

def rM_relay_42 (σ : St) : Option (Int32 × St) :=
  some ((-1 : Int32), σ)
set_option maxRecDepth 100000 in
theorem tM_relay_42 {X : CX} (hX : gd X cX12_relay 4 RX12 (some .int)) (hw : (xw X).1 = mLy) (hg : nA X) (hR : xR X = rmOf 28 648 0 0) {r : Int32} {τ : St} (hr : xr X = (some (.int r), τ)) (σ : St) (h : rM_relay_42 σ = some (r, τ)) : Jd X 4 42 [] [] σ := by
  unfold rM_relay_42 at h
  refine J_iconst (v := (-1 : Int32)) hX dX12_relay_42 (by decide) ?_
  exact K_iret hX hr dX12_relay_43 h

def rM_relay_134 (s0 : Int32) (σ : St) : Option (Int32 × St) :=
  some (s0, σ)
set_option maxRecDepth 100000 in
theorem tM_relay_134 {X : CX} (hX : gd X cX12_relay 4 RX12 (some .int)) (hw : (xw X).1 = mLy) (hg : nA X) (hR : xR X = rmOf 28 648 0 0) {r : Int32} {τ : St} (hr : xr X = (some (.int r), τ)) (s0 : Int32) (σ : St) (h : rM_relay_134 s0 σ = some (r, τ)) : Jd X 4 134 [] [.int s0] σ := by
  unfold rM_relay_134 at h
  exact K_iret hX hr dX12_relay_134 h

def rM_relay_51 (k51 : Int32 → Int32 → Int32 → St → Option (Int32 × St)) (v1 : Int32) (v2 : Int32) (v3 : Int32) (σ : St) : Option (Int32 × St) :=
  brc ((σ.1 0 27) ≤ v3) (brc (0 ≤ (σ.1 0 42)) (brc (¬ v2 = 0) (brc (¬ v2 = (1 : Int32)) (bnd2 (rM_lengthOf (σ.1 0 41) σ) fun r_18 σ_16 => brc ((r_18 - (1 : Int32)) ≤ (v2 - (2 : Int32))) (rM_relay_134 (-1 : Int32) σ_16) (chk (ib (v2 - (2 : Int32)) 7) (rM_relay_134 (σ_16.1 24 (v2 - (2 : Int32)).toNatClampNeg) σ_16))) (rM_relay_134 (σ.1 0 41) σ)) (rM_relay_134 (σ.1 0 42) σ)) (some ((-1 : Int32), σ))) (bnd1 (rM_hands 9 v3 (1 : Int32) (0 : Int32) v1 (0 : Int32) σ) fun σ_19 => nm (v3 + Int32.ofInt 1) fun v3_21 => k51 v1 v2 v3_21 σ_19)
set_option maxRecDepth 100000 in
theorem tM_relay_51b {X : CX} (hX : gd X cX12_relay 4 RX12 (some .int)) (hw : (xw X).1 = mLy) (hg : nA X) (hR : xR X = rmOf 28 648 0 0) {r : Int32} {τ : St} (hr : xr X = (some (.int r), τ)) {k51 : Int32 → Int32 → Int32 → St → Option (Int32 × St)} (hk51 : (∀ (v1 : Int32) (v2 : Int32) (v3 : Int32) (σ : St), k51 v1 v2 v3 σ = some (r, τ) → Jd X 4 51 [(0, .ref (wad (xw X) 0)), (1, .int v1), (2, .int v2), (3, .int v3)] [] σ)) (v1 : Int32) (v2 : Int32) (v3 : Int32) (σ : St) (h : rM_relay_51 k51 v1 v2 v3 σ = some (r, τ)) : Jd X 4 51 [(0, .ref (wad (xw X) 0)), (1, .int v1), (2, .int v2), (3, .int v3)] [] σ := by
  unfold rM_relay_51 at h
  refine J_iload_n (q := 3) hX dX12_relay_51 rfl rfl ?_
  refine J_aload_n (q := 0) hX dX12_relay_52 rfl rfl ?_
  refine K_geti hX (mc_0 hw) cls_X12 (k := 27) (by decide) uw_6_74 rfl dX12_relay_53 ?_
  refine K_icmp_ge (tgt := 74) hX dX12_relay_56 rfl h (fun h => ?_) (fun h => ?_)
  · refine J_aload_n (q := 0) hX dX12_relay_74 rfl rfl ?_
    refine K_geti hX (mc_0 hw) cls_X12 (k := 42) (by decide) uw_6_89 rfl dX12_relay_75 ?_
    refine K_if_ge (tgt := 83) hX dX12_relay_78 rfl h (fun h => ?_) (fun h => ?_)
    · refine J_iload_n (q := 2) hX dX12_relay_83 rfl rfl ?_
      refine K_if_ne (tgt := 94) hX dX12_relay_84 rfl h (fun h => ?_) (fun h => ?_)
      · refine J_iload_n (q := 2) hX dX12_relay_94 rfl rfl ?_
        refine J_iconst (v := (1 : Int32)) hX dX12_relay_95 (by decide) ?_
        refine K_icmp_ne (tgt := 106) hX dX12_relay_96 rfl h (fun h => ?_) (fun h => ?_)
        · refine J_iload_n (q := 2) hX dX12_relay_106 rfl rfl ?_
          refine J_iconst (v := (2 : Int32)) hX dX12_relay_107 (by decide) ?_
          refine J_isub hX dX12_relay_108 ?_
          refine J_aload_n (q := 0) hX dX12_relay_109 rfl rfl ?_
          refine J_aload_n (q := 0) hX dX12_relay_110 rfl rfl ?_
          refine K_geti hX (mc_0 hw) cls_X12 (k := 41) (by decide) uw_6_88 rfl dX12_relay_111 ?_
          obtain ⟨r_18, σ_16, hc_17, h⟩ := bnd2_some h
          refine K_callV [.int (σ.1 0 41)] hX hg hR (ctM_lengthOf hw hc_17) lk_X12_351_X12_lengthOf md_X12_lengthOf (mc_0 hw) cls_X12 ⟨by decide, by decide⟩ rfl rfl (Nat.le_of_ble_eq_true rfl) dX12_relay_114 ?_
          refine J_iconst (v := (1 : Int32)) hX dX12_relay_117 (by decide) ?_
          refine J_isub hX dX12_relay_118 ?_
          refine K_icmp_ge (tgt := 133) hX dX12_relay_119 rfl h (fun h => ?_) (fun h => ?_)
          · refine J_iconst (v := (-1 : Int32)) hX dX12_relay_133 (by decide) ?_
            refine J_sub [] rfl ?_
            exact tM_relay_134 hX hw hg hR hr (-1 : Int32) σ_16 h
          · refine J_aload_n (q := 0) hX dX12_relay_122 rfl rfl ?_
            refine K_getc 24 hX (mc_0 hw) cls_X12 (k := 40) (by decide) uw_6_87 rfl dX12_relay_123 ?_
            refine J_iload_n (q := 2) hX dX12_relay_126 rfl rfl ?_
            refine J_iconst (v := (2 : Int32)) hX dX12_relay_127 (by decide) ?_
            refine J_isub hX dX12_relay_128 ?_
            refine K_iald hX (mc_24 hw) dX12_relay_129 h (fun h => ?_)
            refine J_goto (tgt := 134) hX dX12_relay_130 rfl ?_
            refine J_sub [] rfl ?_
            exact tM_relay_134 hX hw hg hR hr (σ_16.1 24 (v2 - (2 : Int32)).toNatClampNeg) σ_16 h
        · refine J_aload_n (q := 0) hX dX12_relay_99 rfl rfl ?_
          refine K_geti hX (mc_0 hw) cls_X12 (k := 41) (by decide) uw_6_88 rfl dX12_relay_100 ?_
          refine J_goto (tgt := 134) hX dX12_relay_103 rfl ?_
          refine J_sub [] rfl ?_
          exact tM_relay_134 hX hw hg hR hr (σ.1 0 41) σ h
      · refine J_aload_n (q := 0) hX dX12_relay_87 rfl rfl ?_
        refine K_geti hX (mc_0 hw) cls_X12 (k := 42) (by decide) uw_6_89 rfl dX12_relay_88 ?_
        refine J_goto (tgt := 134) hX dX12_relay_91 rfl ?_
        refine J_sub [] rfl ?_
        exact tM_relay_134 hX hw hg hR hr (σ.1 0 42) σ h
    · refine J_iconst (v := (-1 : Int32)) hX dX12_relay_81 (by decide) ?_
      exact K_iret hX hr dX12_relay_82 h
  · refine J_aload_n (q := 0) hX dX12_relay_59 rfl rfl ?_
    refine J_iload_n (q := 3) hX dX12_relay_60 rfl rfl ?_
    refine J_iconst (v := (1 : Int32)) hX dX12_relay_61 (by decide) ?_
    refine J_iconst (v := (0 : Int32)) hX dX12_relay_62 (by decide) ?_
    refine J_iload_n (q := 1) hX dX12_relay_63 rfl rfl ?_
    refine J_iconst (v := (0 : Int32)) hX dX12_relay_64 (by decide) ?_
    obtain ⟨σ_19, hc_20, h⟩ := bnd1_some h
    refine K_callV [.int v3, .int (1 : Int32), .int (0 : Int32), .int v1, .int (0 : Int32)] hX hg hR (ctM_hands hw 9 _ _ _ _ _ _ _ hc_20) lk_X12_424_X12_hands md_X12_hands (mc_0 hw) cls_X12 ⟨by decide, by decide⟩ rfl rfl (Nat.le_of_ble_eq_true rfl) dX12_relay_65 ?_
    refine K_iinc (q := 3) (fun v3_21 => [(3, .int v3_21), (0, .ref (wad (xw X) 0)), (1, .int v1), (2, .int v2)]) hX dX12_relay_68 rfl (by decide) (fun _ => rfl) h (fun v3_21 h => ?_)
    refine J_goto (tgt := 51) hX dX12_relay_71 rfl ?_
    refine J_sub [1, 2, 3, 0] rfl ?_
    exact hk51 v1 v2 v3_21 σ_19 h
def rM_relay_51L : ((Int32 × Int32 × Int32 × St) → Option (Int32 × St)) → (Int32 × Int32 × Int32 × St) → Option (Int32 × St) := fun k a => rM_relay_51 (fun v1 v2 v3 σ => k (v1, v2, v3, σ)) a.1 a.2.1 a.2.2.1 a.2.2.2
theorem tM_relay_51 {X : CX} (hX : gd X cX12_relay 4 RX12 (some .int)) (hw : (xw X).1 = mLy) (hg : nA X) (hR : xR X = rmOf 28 648 0 0) {r : Int32} {τ : St} (hr : xr X = (some (.int r), τ)) (n : Nat) (v1 : Int32) (v2 : Int32) (v3 : Int32) (σ : St) (h : lp (rM_relay_51L) n (v1, v2, v3, σ) = some (r, τ)) : Jd X 4 51 [(0, .ref (wad (xw X) 0)), (1, .int v1), (2, .int v2), (3, .int v3)] [] σ :=
  lp_ind (F := rM_relay_51L) (P := fun a => Jd X 4 51 [(0, .ref (wad (xw X) 0)), (1, .int a.1), (2, .int a.2.1), (3, .int a.2.2.1)] [] a.2.2.2) (fun k a hk h => tM_relay_51b hX hw hg hR hr (fun v1 v2 v3 σ h => hk (v1, v2, v3, σ) h) a.1 a.2.1 a.2.2.1 a.2.2.2 h) n (v1, v2, v3, σ) h

def rM_relay (v1 : Int32) (v2 : Int32) (σ : St) : Option (Int32 × St) :=
  nm (setI σ 0 0 (0 : Int32)) fun σ_1 => bnd2 (rM_within v1 (0 : Int32) (60 : Int32) σ_1) fun r_4 σ_2 => brc (r_4 = 0) (rM_relay_42 σ_2) (brc (v2 < 0) (rM_relay_42 σ_2) (bnd2 (rM_carriers σ_2) fun r_7 σ_5 => brc (r_7 = 0) (rM_relay_42 σ_5) (bnd2 (rM_carriers σ_5) fun r_10 σ_8 => brc ((4 : Int32) < r_10) (rM_relay_42 σ_8) (bnd2 (rM_stations σ_8) fun r_13 σ_11 => brc ((2 : Int32) ≤ r_13) (nm (setI σ_11 0 42 (-1 : Int32)) fun σ_14 => nm (0 : Int32) fun v3_15 => lp (rM_relay_51L) fu (v1, v2, v3_15, σ_14)) (rM_relay_42 σ_11)))))
set_option maxRecDepth 100000 in
theorem tM_relay {X : CX} (hX : gd X cX12_relay 4 RX12 (some .int)) (hw : (xw X).1 = mLy) (hg : nA X) (hR : xR X = rmOf 28 648 0 0) {r : Int32} {τ : St} (hr : xr X = (some (.int r), τ)) (v1 : Int32) (v2 : Int32) (σ : St) (h : rM_relay v1 v2 σ = some (r, τ)) : Jd X 4 0 [(0, .ref (wad (xw X) 0)), (1, .int v1), (2, .int v2)] [] σ := by
  unfold rM_relay at h
  refine J_aload_n (q := 0) hX dX12_relay_0 rfl rfl ?_
  refine J_iconst (v := (0 : Int32)) hX dX12_relay_1 (by decide) ?_
  refine K_puti hX (mc_0 hw) cls_X12 (k := 0) (by decide) uw_6_47 rfl rfl rfl dX12_relay_2 h (fun σ_1 h => ?_)
  refine J_iload_n (q := 1) hX dX12_relay_5 rfl rfl ?_
  refine J_iconst (v := (0 : Int32)) hX dX12_relay_6 (by decide) ?_
  refine J_bipush (v := (60 : Int32)) hX dX12_relay_7 (by decide) ?_
  obtain ⟨r_4, σ_2, hc_3, h⟩ := bnd2_some h
  refine K_callS [.int v1, .int (0 : Int32), .int (60 : Int32)] hX hg hR (ctM_within hw hc_3) lk_X12_372_X12_within md_X12_within ⟨by decide, by decide⟩ rfl rfl (Nat.le_of_ble_eq_true rfl) dX12_relay_9 ?_
  refine K_if_eq (tgt := 42) hX dX12_relay_12 rfl h (fun h => ?_) (fun h => ?_)
  · refine J_sub [] rfl ?_
    exact tM_relay_42 hX hw hg hR hr σ_2 h
  · refine J_iload_n (q := 2) hX dX12_relay_15 rfl rfl ?_
    refine K_if_lt (tgt := 42) hX dX12_relay_16 rfl h (fun h => ?_) (fun h => ?_)
    · refine J_sub [] rfl ?_
      exact tM_relay_42 hX hw hg hR hr σ_2 h
    · refine J_aload_n (q := 0) hX dX12_relay_19 rfl rfl ?_
      obtain ⟨r_7, σ_5, hc_6, h⟩ := bnd2_some h
      refine K_callV [] hX hg hR (ctM_carriers hw hc_6) lk_X12_312_X12_carriers md_X12_carriers (mc_0 hw) cls_X12 ⟨by decide, by decide⟩ rfl rfl (Nat.le_of_ble_eq_true rfl) dX12_relay_20 ?_
      refine K_if_eq (tgt := 42) hX dX12_relay_23 rfl h (fun h => ?_) (fun h => ?_)
      · refine J_sub [] rfl ?_
        exact tM_relay_42 hX hw hg hR hr σ_5 h
      · refine J_aload_n (q := 0) hX dX12_relay_26 rfl rfl ?_
        obtain ⟨r_10, σ_8, hc_9, h⟩ := bnd2_some h
        refine K_callV [] hX hg hR (ctM_carriers hw hc_9) lk_X12_312_X12_carriers md_X12_carriers (mc_0 hw) cls_X12 ⟨by decide, by decide⟩ rfl rfl (Nat.le_of_ble_eq_true rfl) dX12_relay_27 ?_
        refine J_iconst (v := (4 : Int32)) hX dX12_relay_30 (by decide) ?_
        refine K_icmp_gt (tgt := 42) hX dX12_relay_31 rfl h (fun h => ?_) (fun h => ?_)
        · refine J_sub [] rfl ?_
          exact tM_relay_42 hX hw hg hR hr σ_8 h
        · refine J_aload_n (q := 0) hX dX12_relay_34 rfl rfl ?_
          obtain ⟨r_13, σ_11, hc_12, h⟩ := bnd2_some h
          refine K_callV [] hX hg hR (ctM_stations hw hc_12) lk_X12_309_X12_stations md_X12_stations (mc_0 hw) cls_X12 ⟨by decide, by decide⟩ rfl rfl (Nat.le_of_ble_eq_true rfl) dX12_relay_35 ?_
          refine J_iconst (v := (2 : Int32)) hX dX12_relay_38 (by decide) ?_
          refine K_icmp_ge (tgt := 44) hX dX12_relay_39 rfl h (fun h => ?_) (fun h => ?_)
          · refine J_aload_n (q := 0) hX dX12_relay_44 rfl rfl ?_
            refine J_iconst (v := (-1 : Int32)) hX dX12_relay_45 (by decide) ?_
            refine K_puti hX (mc_0 hw) cls_X12 (k := 42) (by decide) uw_6_89 rfl rfl rfl dX12_relay_46 h (fun σ_14 h => ?_)
            refine J_iconst (v := (0 : Int32)) hX dX12_relay_49 (by decide) ?_
            refine K_istore_n (fun v3_15 => [(3, .int v3_15), (0, .ref (wad (xw X) 0)), (1, .int v1), (2, .int v2)]) hX dX12_relay_50 rfl (by decide) (fun _ => rfl) h (fun v3_15 h => ?_)
            refine J_sub [1, 2, 3, 0] rfl ?_
            exact tM_relay_51 hX hw hg hR hr fu v1 v2 v3_15 σ_14 h
          · refine J_sub [] rfl ?_
            exact tM_relay_42 hX hw hg hR hr σ_11 h
theorem ctM_relay {w : WT} (hw : w.1 = mLy) {v1 : Int32} {v2 : Int32} {σ : St} {r : Int32} {τ : St} (h : rM_relay v1 v2 σ = some (r, τ)) : Ct yX12_relay cX12_relay 4 (some .int) 28 648 w [.ref (wad w 0), .int v1, .int v2] σ (some (.int r)) τ 0 0 :=
  Ct_intro (fun _ => (0, 0)) (by decide) rfl ⟨rfl, Nat.le_refl _⟩ (Nat.le_of_ble_eq_true rfl) (fun X hX hR hwX hg hr => by subst hwX; exact tM_relay hX hw hg hR hr v1 v2 σ h)

