/-! the index check of a text: its formatter is a reference or null, and is never used -/
def rX_checkIndex (v0 v1 : Int32) (σ : St) : Option St := chk (decide (¬ v0 < 0 ∧ v0 < v1)) (some σ)
theorem ctX_prec {w : WT} {q : Value} (hq : q = .null ∨ ∃ t, q = .ref t) {v0 v1 : Int32} {σ : St} (h : ¬ v0 < 0 ∧ v0 < v1) : Ct yJ3_checkIndex_8e157 cJ3_checkIndex_8e157 3 (some .int) 0 0 w [.int v0, .int v1, q] σ (some (.int v0)) σ 0 0 := by
  have key : ∀ (X : CX), gd X cJ3_checkIndex_8e157 3 RJ3 (some .int) → xr X = (some (.int v0), σ) → Jd X 3 0 [(0, .int v0), (1, .int v1), (2, q)] [] σ := by
    intro X hX hr
    refine J_iload_n (q := 0) hX dJ3_checkIndex_8e157_0 rfl rfl ?_
    refine J_if_lt (tgt := 9) hX dJ3_checkIndex_8e157_1 rfl (fun h9 => absurd h9 h.1) (fun _ => ?_)
    refine J_iload_n (q := 0) hX dJ3_checkIndex_8e157_4 rfl rfl ?_
    refine J_iload_n (q := 1) hX dJ3_checkIndex_8e157_5 rfl rfl ?_
    refine J_icmp_lt (tgt := 16) hX dJ3_checkIndex_8e157_6 rfl (fun _ => ?_) (fun h9 => absurd h.2 h9)
    refine J_iload_n (q := 0) hX dJ3_checkIndex_8e157_16 rfl rfl ?_
    exact J_iret hX hr dJ3_checkIndex_8e157_17
  rcases hq with rfl | ⟨t, rfl⟩
  · exact Ct_intro (fun _ => (0, 0)) (by decide) rfl ⟨rfl, Nat.le_refl _⟩ (Nat.le_of_ble_eq_true rfl) (fun X hX hR hwX hg hr => key X hX hr)
  · exact Ct_intro (fun _ => (0, 0)) (by decide) rfl ⟨rfl, Nat.le_refl _⟩ (Nat.le_of_ble_eq_true rfl) (fun X hX hR hwX hg hr => key X hX hr)
theorem ctX_checkIndex {w : WT} (hw : isX w) {v0 v1 : Int32} {σ τ : St} (h : rX_checkIndex v0 v1 σ = some τ) : Ct yJ0_checkIndex_df160 cJ0_checkIndex_df160 2 none 1 22 w [.int v0, .int v1] σ none τ 0 0 := by
  have h1 := of_decide_eq_true (chk_some h).1
  cases (chk_some h).2
  refine Ct_intro (fun _ => (0, 0)) (by decide) rfl ⟨rfl, Nat.le_refl _⟩ (Nat.le_of_ble_eq_true rfl) (fun X hX hR hwX hg hr => ?_)
  subst hwX
  show Jd X 2 0 [(0, .int v0), (1, .int v1)] [] σ
  refine J_iload_n (q := 0) hX dJ0_checkIndex_df160_0 rfl rfl ?_
  refine J_iload_n (q := 1) hX dJ0_checkIndex_df160_1 rfl rfl ?_
  rcases (X_sx hX hw).2.2.2.2.2.2.2.2.2.1 with hz | ⟨t, hz⟩
  · refine J_gets hX hz uw_3_128 dJ0_checkIndex_df160_2 ?_
    refine K_callS [.int v0, .int v1, .null] hX hg hR (ctX_prec (Or.inl rfl) h1) lk_J0_1059_J3 md_J3_checkIndex_8e157 ⟨by decide, by decide⟩ rfl rfl (Nat.le_of_ble_eq_true rfl) dJ0_checkIndex_df160_5 ?_
    refine J_pop hX dJ0_checkIndex_df160_8 rfl ?_
    exact J_vret hX hr dJ0_checkIndex_df160_9
  · refine J_gets hX hz uw_3_128 dJ0_checkIndex_df160_2 ?_
    refine K_callS [.int v0, .int v1, .ref t] hX hg hR (ctX_prec (Or.inr ⟨t, rfl⟩) h1) lk_J0_1059_J3 md_J3_checkIndex_8e157 ⟨by decide, by decide⟩ rfl rfl (Nat.le_of_ble_eq_true rfl) dJ0_checkIndex_df160_5 ?_
    refine J_pop hX dJ0_checkIndex_df160_8 rfl ?_
    exact J_vret hX hr dJ0_checkIndex_df160_9
def rX_coder_14 (s0 : Int32) (σ : St) : Option (Int32 × St) :=
  chk (decide (s0 = 0 ∨ s0 = 1)) (some (s0, σ))
set_option maxRecDepth 100000 in
theorem tX_coder_14 {X : CX} (hX : gd X cJ0_coder_7d493 1 RJ0 (some .byte)) (hw : isX (xw X)) (hg : nA X) (hR : xR X = rmOf 0 0 0 0) {r : Int32} {τ : St} (hr : xr X = (some (.int r), τ)) (s0 : Int32) (σ : St) (h : rX_coder_14 s0 σ = some (r, τ)) : Jd X 1 14 [] [.int s0] σ := by
  unfold rX_coder_14 at h
  exact K_bret hX hr dJ0_coder_7d493_14 h

def rX_coder (v0 : Nat) (σ : St) : Option (Int32 × St) :=
  brc ((1 : Int32) = 0) (rX_coder_14 (1 : Int32) σ) (chk (decide (100 ≤ v0 ∧ v0 < 142)) (rX_coder_14 (0 : Int32) σ))
set_option maxRecDepth 100000 in
theorem tX_coder {X : CX} (hX : gd X cJ0_coder_7d493 1 RJ0 (some .byte)) (hw : isX (xw X)) (hg : nA X) (hR : xR X = rmOf 0 0 0 0) {r : Int32} {τ : St} (hr : xr X = (some (.int r), τ)) (v0 : Nat) (σ : St) (h : rX_coder v0 σ = some (r, τ)) : Jd X 1 0 [(0, .ref (wadW (xw X) v0))] [] σ := by
  unfold rX_coder at h
  refine K_gCs hX hw uw_3_112 dJ0_coder_7d493_0 ?_
  refine K_if_eq (tgt := 13) hX dJ0_coder_7d493_3 rfl h (fun h => ?_) (fun h => ?_)
  · refine J_iconst (v := (1 : Int32)) hX dJ0_coder_7d493_13 (by decide) ?_
    refine J_sub [] rfl ?_
    exact tX_coder_14 hX hw hg hR hr (1 : Int32) σ h
  · refine J_aload_n (q := 0) hX dJ0_coder_7d493_6 rfl rfl ?_
    refine K_scod hX hw uw_8_84 dJ0_coder_7d493_7 h (fun h => ?_)
    refine J_goto (tgt := 14) hX dJ0_coder_7d493_10 rfl ?_
    refine J_sub [] rfl ?_
    exact tX_coder_14 hX hw hg hR hr (0 : Int32) σ h
theorem ctX_coder {w : WT} (hw : isX w) {v0 : Nat} {σ : St} {r : Int32} {τ : St} (h : rX_coder v0 σ = some (r, τ)) : Ct yJ0_coder_7d493 cJ0_coder_7d493 1 (some .byte) 0 0 w [.ref (wadW w v0)] σ (some (.int r)) τ 0 0 :=
  Ct_intro (fun _ => (0, 0)) (by decide) rfl ⟨rfl, Nat.le_refl _⟩ (Nat.le_of_ble_eq_true rfl) (fun X hX hR hwX hg hr => by subst hwX; exact tX_coder hX hw hg hR hr v0 σ h)

def rX_isLat_18 (s0 : Int32) (σ : St) : Option (Int32 × St) :=
  chk (decide (s0 = 0 ∨ s0 = 1)) (some (s0, σ))
set_option maxRecDepth 100000 in
theorem tX_isLat_18 {X : CX} (hX : gd X cJ0_isLatin1_aae02 1 RJ0 (some .boolean)) (hw : isX (xw X)) (hg : nA X) (hR : xR X = rmOf 0 0 0 0) {r : Int32} {τ : St} (hr : xr X = (some (.int r), τ)) (s0 : Int32) (σ : St) (h : rX_isLat_18 s0 σ = some (r, τ)) : Jd X 1 18 [] [.int s0] σ := by
  unfold rX_isLat_18 at h
  exact K_zret hX hr dJ0_isLatin1_aae02_18 h

def rX_isLat_17 (σ : St) : Option (Int32 × St) :=
  rX_isLat_18 (0 : Int32) σ
set_option maxRecDepth 100000 in
theorem tX_isLat_17 {X : CX} (hX : gd X cJ0_isLatin1_aae02 1 RJ0 (some .boolean)) (hw : isX (xw X)) (hg : nA X) (hR : xR X = rmOf 0 0 0 0) {r : Int32} {τ : St} (hr : xr X = (some (.int r), τ)) (σ : St) (h : rX_isLat_17 σ = some (r, τ)) : Jd X 1 17 [] [] σ := by
  unfold rX_isLat_17 at h
  refine J_iconst (v := (0 : Int32)) hX dJ0_isLatin1_aae02_17 (by decide) ?_
  refine J_sub [] rfl ?_
  exact tX_isLat_18 hX hw hg hR hr (0 : Int32) σ h

def rX_isLat (v0 : Nat) (σ : St) : Option (Int32 × St) :=
  brc ((1 : Int32) = 0) (rX_isLat_17 σ) (chk (decide (100 ≤ v0 ∧ v0 < 142)) (brc (¬ (0 : Int32) = 0) (rX_isLat_17 σ) (rX_isLat_18 (1 : Int32) σ)))
set_option maxRecDepth 100000 in
theorem tX_isLat {X : CX} (hX : gd X cJ0_isLatin1_aae02 1 RJ0 (some .boolean)) (hw : isX (xw X)) (hg : nA X) (hR : xR X = rmOf 0 0 0 0) {r : Int32} {τ : St} (hr : xr X = (some (.int r), τ)) (v0 : Nat) (σ : St) (h : rX_isLat v0 σ = some (r, τ)) : Jd X 1 0 [(0, .ref (wadW (xw X) v0))] [] σ := by
  unfold rX_isLat at h
  refine K_gCs hX hw uw_3_112 dJ0_isLatin1_aae02_0 ?_
  refine K_if_eq (tgt := 17) hX dJ0_isLatin1_aae02_3 rfl h (fun h => ?_) (fun h => ?_)
  · refine J_sub [] rfl ?_
    exact tX_isLat_17 hX hw hg hR hr σ h
  · refine J_aload_n (q := 0) hX dJ0_isLatin1_aae02_6 rfl rfl ?_
    refine K_scod hX hw uw_8_84 dJ0_isLatin1_aae02_7 h (fun h => ?_)
    refine K_if_ne (tgt := 17) hX dJ0_isLatin1_aae02_10 rfl h (fun h => ?_) (fun h => ?_)
    · refine J_sub [] rfl ?_
      exact tX_isLat_17 hX hw hg hR hr σ h
    · refine J_iconst (v := (1 : Int32)) hX dJ0_isLatin1_aae02_13 (by decide) ?_
      refine J_goto (tgt := 18) hX dJ0_isLatin1_aae02_14 rfl ?_
      refine J_sub [] rfl ?_
      exact tX_isLat_18 hX hw hg hR hr (1 : Int32) σ h
theorem ctX_isLat {w : WT} (hw : isX w) {v0 : Nat} {σ : St} {r : Int32} {τ : St} (h : rX_isLat v0 σ = some (r, τ)) : Ct yJ0_isLatin1_aae02 cJ0_isLatin1_aae02 1 (some .boolean) 0 0 w [.ref (wadW w v0)] σ (some (.int r)) τ 0 0 :=
  Ct_intro (fun _ => (0, 0)) (by decide) rfl ⟨rfl, Nat.le_refl _⟩ (Nat.le_of_ble_eq_true rfl) (fun X hX hR hwX hg hr => by subst hwX; exact tX_isLat hX hw hg hR hr v0 σ h)

def rX_slen (v0 : Nat) (σ : St) : Option (Int32 × St) :=
  chk (decide (100 ≤ v0 ∧ v0 < 142)) (chk (decide (200 ≤ 100 + v0 ∧ 100 + v0 < 242)) (chk (decide (100 ≤ v0 ∧ v0 < 142)) (bnd2 (rX_coder v0 σ) fun r_4 σ_1 => some ((nI (wdT.getD (100 + v0 - 200) []).length) >>> (r_4 &&& 31), σ_1))))
set_option maxRecDepth 100000 in
theorem tX_slen {X : CX} (hX : gd X cJ0_length_8abf5 1 RJ0 (some .int)) (hw : isX (xw X)) (hg : nA X) (hR : xR X = rmOf 1 20 0 0) {r : Int32} {τ : St} (hr : xr X = (some (.int r), τ)) (v0 : Nat) (σ : St) (h : rX_slen v0 σ = some (r, τ)) : Jd X 1 0 [(0, .ref (wadW (xw X) v0))] [] σ := by
  unfold rX_slen at h
  refine J_aload_n (q := 0) hX dJ0_length_8abf5_0 rfl rfl ?_
  refine K_sval hX hw uw_8_83 dJ0_length_8abf5_1 h (fun h => ?_)
  refine K_slen hX hw dJ0_length_8abf5_4 h (fun h => ?_)
  refine J_aload_n (q := 0) hX dJ0_length_8abf5_5 rfl rfl ?_
  have hb_3 := of_decide_eq_true (chk_some h).1
  replace h := (chk_some h).2
  obtain ⟨r_4, σ_1, hc_2, h⟩ := bnd2_some h
  refine K_callW [] hX hg hR (X_oS hX hw hb_3) (ctX_coder hw hc_2) lk_J0_335_J0_coder_7d493 md_J0_coder_7d493 ⟨by decide, by decide⟩ rfl rfl (Nat.le_of_ble_eq_true rfl) dJ0_length_8abf5_6 ?_
  refine J_ishr hX dJ0_length_8abf5_9 ?_
  exact K_iret hX hr dJ0_length_8abf5_10 h
theorem ctX_slen {w : WT} (hw : isX w) {v0 : Nat} {σ : St} {r : Int32} {τ : St} (h : rX_slen v0 σ = some (r, τ)) : Ct yJ0_length_8abf5 cJ0_length_8abf5 1 (some .int) 1 20 w [.ref (wadW w v0)] σ (some (.int r)) τ 0 0 :=
  Ct_intro (fun _ => (0, 0)) (by decide) rfl ⟨rfl, Nat.le_refl _⟩ (Nat.le_of_ble_eq_true rfl) (fun X hX hR hwX hg hr => by subst hwX; exact tX_slen hX hw hg hR hr v0 σ h)

def rX_latAt (v0 : Nat) (v1 : Int32) (σ : St) : Option (Int32 × St) :=
  chk (decide (200 ≤ v0 ∧ v0 < 242)) (bnd1 (rX_checkIndex v1 (nI (wdT.getD (v0 - 200) []).length) σ) fun σ_1 => chk (decide (200 ≤ v0 ∧ v0 < 242)) (chk (ib v1 (wdT.getD (v0 - 200) []).length) (chk (decide (((((wdT.getD (v0 - 200) []).getD v1.toNatClampNeg 0) &&& (255 : Int32)).toUInt32 % 65536).toInt32 = ((((((wdT.getD (v0 - 200) []).getD v1.toNatClampNeg 0) &&& (255 : Int32)).toUInt32 % 65536).toInt32).toUInt32 % 65536).toInt32)) (some (((((wdT.getD (v0 - 200) []).getD v1.toNatClampNeg 0) &&& (255 : Int32)).toUInt32 % 65536).toInt32, σ_1)))))
set_option maxRecDepth 100000 in
theorem tX_latAt {X : CX} (hX : gd X cJ1_charAt_3b067 2 RJ1 (some .char)) (hw : isX (xw X)) (hg : nA X) (hR : xR X = rmOf 2 43 0 0) {r : Int32} {τ : St} (hr : xr X = (some (.int r), τ)) (v0 : Nat) (v1 : Int32) (σ : St) (h : rX_latAt v0 v1 σ = some (r, τ)) : Jd X 2 0 [(0, .ref (wadW (xw X) v0)), (1, .int v1)] [] σ := by
  unfold rX_latAt at h
  refine J_iload_n (q := 1) hX dJ1_charAt_3b067_0 rfl rfl ?_
  refine J_aload_n (q := 0) hX dJ1_charAt_3b067_1 rfl rfl ?_
  refine K_slen hX hw dJ1_charAt_3b067_2 h (fun h => ?_)
  obtain ⟨σ_1, hc_2, h⟩ := bnd1_some h
  refine K_callS [.int v1, .int (nI (wdT.getD (v0 - 200) []).length)] hX hg hR (ctX_checkIndex hw hc_2) lk_J1_9_J0_checkIndex_df160 md_J0_checkIndex_df160 ⟨by decide, by decide⟩ rfl rfl (Nat.le_of_ble_eq_true rfl) dJ1_charAt_3b067_3 ?_
  refine J_aload_n (q := 0) hX dJ1_charAt_3b067_6 rfl rfl ?_
  refine J_iload_n (q := 1) hX dJ1_charAt_3b067_7 rfl rfl ?_
  refine K_sbald hX hw dJ1_charAt_3b067_8 h (fun h => ?_)
  refine J_sipush (v := (255 : Int32)) hX dJ1_charAt_3b067_9 (by decide) ?_
  refine J_iand hX dJ1_charAt_3b067_12 ?_
  refine J_i2c hX dJ1_charAt_3b067_13 ?_
  exact K_cret hX hr dJ1_charAt_3b067_14 h
theorem ctX_latAt {w : WT} (hw : isX w) {v0 : Nat} {v1 : Int32} {σ : St} {r : Int32} {τ : St} (h : rX_latAt v0 v1 σ = some (r, τ)) : Ct yJ1_charAt_3b067 cJ1_charAt_3b067 2 (some .char) 2 43 w [.ref (wadW w v0), .int v1] σ (some (.int r)) τ 0 0 :=
  Ct_intro (fun _ => (0, 0)) (by decide) rfl ⟨rfl, Nat.le_refl _⟩ (Nat.le_of_ble_eq_true rfl) (fun X hX hR hwX hg hr => by subst hwX; exact tX_latAt hX hw hg hR hr v0 v1 σ h)

def rX_charAt (v0 : Nat) (v1 : Int32) (σ : St) : Option (Int32 × St) :=
  chk (decide (100 ≤ v0 ∧ v0 < 142)) (bnd2 (rX_isLat v0 σ) fun r_4 σ_1 => brc (r_4 = 0) (none) (chk (decide (100 ≤ v0 ∧ v0 < 142)) (bnd2 (rX_latAt (100 + v0) v1 σ_1) fun r_7 σ_5 => chk (decide (r_7 = ((r_7).toUInt32 % 65536).toInt32)) (some (r_7, σ_5)))))
set_option maxRecDepth 100000 in
theorem tX_charAt {X : CX} (hX : gd X cJ0_charAt_5068e 2 RJ0 (some .char)) (hw : isX (xw X)) (hg : nA X) (hR : xR X = rmOf 3 64 0 0) {r : Int32} {τ : St} (hr : xr X = (some (.int r), τ)) (v0 : Nat) (v1 : Int32) (σ : St) (h : rX_charAt v0 v1 σ = some (r, τ)) : Jd X 2 0 [(0, .ref (wadW (xw X) v0)), (1, .int v1)] [] σ := by
  unfold rX_charAt at h
  refine J_aload_n (q := 0) hX dJ0_charAt_5068e_0 rfl rfl ?_
  have hb_3 := of_decide_eq_true (chk_some h).1
  replace h := (chk_some h).2
  obtain ⟨r_4, σ_1, hc_2, h⟩ := bnd2_some h
  refine K_callW [] hX hg hR (X_oS hX hw hb_3) (ctX_isLat hw hc_2) lk_J0_492_J0_isLatin1_aae02 md_J0_isLatin1_aae02 ⟨by decide, by decide⟩ rfl rfl (Nat.le_of_ble_eq_true rfl) dJ0_charAt_5068e_1 ?_
  refine K_if_eq (tgt := 16) hX dJ0_charAt_5068e_4 rfl h (fun h => ?_) (fun h => ?_)
  · cases h
  · refine J_aload_n (q := 0) hX dJ0_charAt_5068e_7 rfl rfl ?_
    refine K_sval hX hw uw_8_83 dJ0_charAt_5068e_8 h (fun h => ?_)
    refine J_iload_n (q := 1) hX dJ0_charAt_5068e_11 rfl rfl ?_
    obtain ⟨r_7, σ_5, hc_6, h⟩ := bnd2_some h
    refine K_callS [.ref (wadW (xw X) (100 + v0)), .int v1] hX hg hR (ctX_latAt hw hc_6) lk_J0_495_J1_charAt_3b067 md_J1_charAt_3b067 ⟨by decide, by decide⟩ rfl rfl (Nat.le_of_ble_eq_true rfl) dJ0_charAt_5068e_12 ?_
    exact K_cret hX hr dJ0_charAt_5068e_15 h
theorem ctX_charAt {w : WT} (hw : isX w) {v0 : Nat} {v1 : Int32} {σ : St} {r : Int32} {τ : St} (h : rX_charAt v0 v1 σ = some (r, τ)) : Ct yJ0_charAt_5068e cJ0_charAt_5068e 2 (some .char) 3 64 w [.ref (wadW w v0), .int v1] σ (some (.int r)) τ 0 0 :=
  Ct_intro (fun _ => (0, 0)) (by decide) rfl ⟨rfl, Nat.le_refl _⟩ (Nat.le_of_ble_eq_true rfl) (fun X hX hR hwX hg hr => by subst hwX; exact tX_charAt hX hw hg hR hr v0 v1 σ h)

def rX_wfind_87 (k2 : Int32 → Int32 → Int32 → St → Option (Nat × St)) (v1 : Int32) (v2 : Int32) (v3 : Int32) (σ : St) : Option (Nat × St) :=
  nm (v3 + Int32.ofInt 1) fun v3_11 => k2 v1 v2 v3_11 σ
set_option maxRecDepth 100000 in
theorem tX_wfind_87 {X : CX} (hX : gd X cX10_find 6 RX10 (some (.object "SkinCarriers$Word"))) (hw : isX (xw X)) (hg : nA X) (hR : xR X = rmOf 4 85 0 0) {r : Nat} {τ : St} (hr : xr X = (some (.ref (wadW (xw X) r)), τ)) {k2 : Int32 → Int32 → Int32 → St → Option (Nat × St)} (hk2 : (∀ (v1 : Int32) (v2 : Int32) (v3 : Int32) (σ : St), k2 v1 v2 v3 σ = some (r, τ) → Jd X 6 2 [(0, .ref (wad (xw X) 6)), (1, .int v1), (2, .int v2), (3, .int v3)] [] σ)) (v1 : Int32) (v2 : Int32) (v3 : Int32) (σ : St) (h : rX_wfind_87 k2 v1 v2 v3 σ = some (r, τ)) : Jd X 6 87 [(0, .ref (wad (xw X) 6)), (1, .int v1), (2, .int v2), (3, .int v3)] [] σ := by
  unfold rX_wfind_87 at h
  refine K_iinc (q := 3) (fun v3_11 => [(3, .int v3_11), (0, .ref (wad (xw X) 6)), (1, .int v1), (2, .int v2)]) hX dX10_find_87 rfl (by decide) (fun _ => rfl) h (fun v3_11 h => ?_)
  refine J_goto (tgt := 2) hX dX10_find_90 rfl ?_
  refine J_sub [1, 2, 3, 0] rfl ?_
  exact hk2 v1 v2 v3_11 σ h

def rX_wfind_63 (k2 : Int32 → Int32 → Int32 → St → Option (Nat × St)) (v1 : Int32) (v2 : Int32) (v3 : Int32) (v4 : Nat) (v5 : Int32) (σ : St) : Option (Nat × St) :=
  chk (decide (100 ≤ v4 ∧ v4 < 142)) (bnd2 (rX_slen v4 σ) fun r_10 σ_7 => brc (¬ v5 = r_10) (rX_wfind_87 k2 v1 v2 v3 σ_7) (brc (¬ (v1 + v5) = v2) (rX_wfind_87 k2 v1 v2 v3 σ_7) (chk (ib v3 42) (some (v3.toNatClampNeg, σ_7)))))
set_option maxRecDepth 100000 in
theorem tX_wfind_63 {X : CX} (hX : gd X cX10_find 6 RX10 (some (.object "SkinCarriers$Word"))) (hw : isX (xw X)) (hg : nA X) (hR : xR X = rmOf 4 85 0 0) {r : Nat} {τ : St} (hr : xr X = (some (.ref (wadW (xw X) r)), τ)) {k2 : Int32 → Int32 → Int32 → St → Option (Nat × St)} (hk2 : (∀ (v1 : Int32) (v2 : Int32) (v3 : Int32) (σ : St), k2 v1 v2 v3 σ = some (r, τ) → Jd X 6 2 [(0, .ref (wad (xw X) 6)), (1, .int v1), (2, .int v2), (3, .int v3)] [] σ)) (v1 : Int32) (v2 : Int32) (v3 : Int32) (v4 : Nat) (v5 : Int32) (σ : St) (h : rX_wfind_63 k2 v1 v2 v3 v4 v5 σ = some (r, τ)) : Jd X 6 63 [(0, .ref (wad (xw X) 6)), (1, .int v1), (2, .int v2), (3, .int v3), (4, .ref (wadW (xw X) v4)), (5, .int v5)] [] σ := by
  unfold rX_wfind_63 at h
  refine J_iload (q := 5) hX dX10_find_63 rfl ?_
  refine J_aload (q := 4) hX dX10_find_65 rfl ?_
  have hb_9 := of_decide_eq_true (chk_some h).1
  replace h := (chk_some h).2
  obtain ⟨r_10, σ_7, hc_8, h⟩ := bnd2_some h
  refine K_callW [] hX hg hR (X_oS hX hw hb_9) (ctX_slen hw hc_8) lk_X10_165_J0_length_8abf5 md_J0_length_8abf5 ⟨by decide, by decide⟩ rfl rfl (Nat.le_of_ble_eq_true rfl) dX10_find_67 ?_
  refine K_icmp_ne (tgt := 87) hX dX10_find_70 rfl h (fun h => ?_) (fun h => ?_)
  · refine J_sub [0, 1, 2, 3] rfl ?_
    exact tX_wfind_87 hX hw hg hR hr hk2 v1 v2 v3 σ_7 h
  · refine J_iload_n (q := 1) hX dX10_find_73 rfl rfl ?_
    refine J_iload (q := 5) hX dX10_find_74 rfl ?_
    refine J_iadd hX dX10_find_76 ?_
    refine J_iload_n (q := 2) hX dX10_find_77 rfl rfl ?_
    refine K_icmp_ne (tgt := 87) hX dX10_find_78 rfl h (fun h => ?_) (fun h => ?_)
    · refine J_sub [0, 1, 2, 3] rfl ?_
      exact tX_wfind_87 hX hw hg hR hr hk2 v1 v2 v3 σ_7 h
    · refine K_gAll hX hw uw_3_102 dX10_find_81 ?_
      refine J_iload_n (q := 3) hX dX10_find_84 rfl rfl ?_
      refine K_allald hX hw dX10_find_85 h (fun h => ?_)
      exact K_rret hX hr dX10_find_86 h

def rX_wfind_23 (k2 : Int32 → Int32 → Int32 → St → Option (Nat × St)) (k23 : Int32 → Int32 → Int32 → Nat → Int32 → St → Option (Nat × St)) (v1 : Int32) (v2 : Int32) (v3 : Int32) (v4 : Nat) (v5 : Int32) (σ : St) : Option (Nat × St) :=
  chk (decide (100 ≤ v4 ∧ v4 < 142)) (bnd2 (rX_slen v4 σ) fun r_6 σ_3 => brc (r_6 ≤ v5) (rX_wfind_63 k2 v1 v2 v3 v4 v5 σ_3) (brc (v2 ≤ (v1 + v5)) (rX_wfind_63 k2 v1 v2 v3 v4 v5 σ_3) (chk (decide (100 ≤ v4 ∧ v4 < 142)) (bnd2 (rX_charAt v4 v5 σ_3) fun r_15 σ_12 => chk (ib (v1 + v5) 1000) (brc (¬ r_15 = (σ_12.1 6 (v1 + v5).toNatClampNeg)) (rX_wfind_63 k2 v1 v2 v3 v4 v5 σ_12) (nm (v5 + Int32.ofInt 1) fun v5_16 => k23 v1 v2 v3 v4 v5_16 σ_12))))))
set_option maxRecDepth 100000 in
theorem tX_wfind_23b {X : CX} (hX : gd X cX10_find 6 RX10 (some (.object "SkinCarriers$Word"))) (hw : isX (xw X)) (hg : nA X) (hR : xR X = rmOf 4 85 0 0) {r : Nat} {τ : St} (hr : xr X = (some (.ref (wadW (xw X) r)), τ)) {k2 : Int32 → Int32 → Int32 → St → Option (Nat × St)} (hk2 : (∀ (v1 : Int32) (v2 : Int32) (v3 : Int32) (σ : St), k2 v1 v2 v3 σ = some (r, τ) → Jd X 6 2 [(0, .ref (wad (xw X) 6)), (1, .int v1), (2, .int v2), (3, .int v3)] [] σ)) {k23 : Int32 → Int32 → Int32 → Nat → Int32 → St → Option (Nat × St)} (hk23 : (∀ (v1 : Int32) (v2 : Int32) (v3 : Int32) (v4 : Nat) (v5 : Int32) (σ : St), k23 v1 v2 v3 v4 v5 σ = some (r, τ) → Jd X 6 23 [(0, .ref (wad (xw X) 6)), (1, .int v1), (2, .int v2), (3, .int v3), (4, .ref (wadW (xw X) v4)), (5, .int v5)] [] σ)) (v1 : Int32) (v2 : Int32) (v3 : Int32) (v4 : Nat) (v5 : Int32) (σ : St) (h : rX_wfind_23 k2 k23 v1 v2 v3 v4 v5 σ = some (r, τ)) : Jd X 6 23 [(0, .ref (wad (xw X) 6)), (1, .int v1), (2, .int v2), (3, .int v3), (4, .ref (wadW (xw X) v4)), (5, .int v5)] [] σ := by
  unfold rX_wfind_23 at h
  refine J_iload (q := 5) hX dX10_find_23 rfl ?_
  refine J_aload (q := 4) hX dX10_find_25 rfl ?_
  have hb_5 := of_decide_eq_true (chk_some h).1
  replace h := (chk_some h).2
  obtain ⟨r_6, σ_3, hc_4, h⟩ := bnd2_some h
  refine K_callW [] hX hg hR (X_oS hX hw hb_5) (ctX_slen hw hc_4) lk_X10_165_J0_length_8abf5 md_J0_length_8abf5 ⟨by decide, by decide⟩ rfl rfl (Nat.le_of_ble_eq_true rfl) dX10_find_27 ?_
  refine K_icmp_ge (tgt := 63) hX dX10_find_30 rfl h (fun h => ?_) (fun h => ?_)
  · refine J_sub [0, 1, 2, 3, 4, 5] rfl ?_
    exact tX_wfind_63 hX hw hg hR hr hk2 v1 v2 v3 v4 v5 σ_3 h
  · refine J_iload_n (q := 1) hX dX10_find_33 rfl rfl ?_
    refine J_iload (q := 5) hX dX10_find_34 rfl ?_
    refine J_iadd hX dX10_find_36 ?_
    refine J_iload_n (q := 2) hX dX10_find_37 rfl rfl ?_
    refine K_icmp_ge (tgt := 63) hX dX10_find_38 rfl h (fun h => ?_) (fun h => ?_)
    · refine J_sub [0, 1, 2, 3, 4, 5] rfl ?_
      exact tX_wfind_63 hX hw hg hR hr hk2 v1 v2 v3 v4 v5 σ_3 h
    · refine J_aload (q := 4) hX dX10_find_41 rfl ?_
      refine J_iload (q := 5) hX dX10_find_43 rfl ?_
      have hb_14 := of_decide_eq_true (chk_some h).1
      replace h := (chk_some h).2
      obtain ⟨r_15, σ_12, hc_13, h⟩ := bnd2_some h
      refine K_callW [.int v5] hX hg hR (X_oS hX hw hb_14) (ctX_charAt hw hc_13) lk_X10_171_J0_charAt_5068e md_J0_charAt_5068e ⟨by decide, by decide⟩ rfl rfl (Nat.le_of_ble_eq_true rfl) dX10_find_45 ?_
      refine J_aload_n (q := 0) hX dX10_find_48 rfl rfl ?_
      refine J_iload_n (q := 1) hX dX10_find_49 rfl rfl ?_
      refine J_iload (q := 5) hX dX10_find_50 rfl ?_
      refine J_iadd hX dX10_find_52 ?_
      refine K_bald hX (xc_6 hw) dX10_find_53 h (fun h => ?_)
      refine K_icmp_ne (tgt := 63) hX dX10_find_54 rfl h (fun h => ?_) (fun h => ?_)
      · refine J_sub [0, 1, 2, 3, 4, 5] rfl ?_
        exact tX_wfind_63 hX hw hg hR hr hk2 v1 v2 v3 v4 v5 σ_12 h
      · refine K_iinc (q := 5) (fun v5_16 => [(5, .int v5_16), (0, .ref (wad (xw X) 6)), (1, .int v1), (2, .int v2), (3, .int v3), (4, .ref (wadW (xw X) v4))]) hX dX10_find_57 rfl (by decide) (fun _ => rfl) h (fun v5_16 h => ?_)
        refine J_goto (tgt := 23) hX dX10_find_60 rfl ?_
        refine J_sub [1, 2, 3, 4, 5, 0] rfl ?_
        exact hk23 v1 v2 v3 v4 v5_16 σ_12 h
def rX_wfind_23L (k2 : Int32 → Int32 → Int32 → St → Option (Nat × St)) : ((Int32 × Int32 × Int32 × Nat × Int32 × St) → Option (Nat × St)) → (Int32 × Int32 × Int32 × Nat × Int32 × St) → Option (Nat × St) := fun k a => rX_wfind_23 k2 (fun v1 v2 v3 v4 v5 σ => k (v1, v2, v3, v4, v5, σ)) a.1 a.2.1 a.2.2.1 a.2.2.2.1 a.2.2.2.2.1 a.2.2.2.2.2
theorem tX_wfind_23 {X : CX} (hX : gd X cX10_find 6 RX10 (some (.object "SkinCarriers$Word"))) (hw : isX (xw X)) (hg : nA X) (hR : xR X = rmOf 4 85 0 0) {r : Nat} {τ : St} (hr : xr X = (some (.ref (wadW (xw X) r)), τ)) {k2 : Int32 → Int32 → Int32 → St → Option (Nat × St)} (hk2 : (∀ (v1 : Int32) (v2 : Int32) (v3 : Int32) (σ : St), k2 v1 v2 v3 σ = some (r, τ) → Jd X 6 2 [(0, .ref (wad (xw X) 6)), (1, .int v1), (2, .int v2), (3, .int v3)] [] σ)) (n : Nat) (v1 : Int32) (v2 : Int32) (v3 : Int32) (v4 : Nat) (v5 : Int32) (σ : St) (h : lp (rX_wfind_23L k2) n (v1, v2, v3, v4, v5, σ) = some (r, τ)) : Jd X 6 23 [(0, .ref (wad (xw X) 6)), (1, .int v1), (2, .int v2), (3, .int v3), (4, .ref (wadW (xw X) v4)), (5, .int v5)] [] σ :=
  lp_ind (F := rX_wfind_23L k2) (P := fun a => Jd X 6 23 [(0, .ref (wad (xw X) 6)), (1, .int a.1), (2, .int a.2.1), (3, .int a.2.2.1), (4, .ref (wadW (xw X) a.2.2.2.1)), (5, .int a.2.2.2.2.1)] [] a.2.2.2.2.2) (fun k a hk h => tX_wfind_23b hX hw hg hR hr hk2 (fun v1 v2 v3 v4 v5 σ h => hk (v1, v2, v3, v4, v5, σ) h) a.1 a.2.1 a.2.2.1 a.2.2.2.1 a.2.2.2.2.1 a.2.2.2.2.2 h) n (v1, v2, v3, v4, v5, σ) h

def rX_wfind_2 (k2 : Int32 → Int32 → Int32 → St → Option (Nat × St)) (v1 : Int32) (v2 : Int32) (v3 : Int32) (σ : St) : Option (Nat × St) :=
  brc ((nI 42) ≤ v3) (some (38, σ)) (chk (ib v3 42) (chk (decide (v3.toNatClampNeg < 42)) (nm (0 : Int32) fun v5_2 => lp (rX_wfind_23L k2) fu (v1, v2, v3, (100 + v3.toNatClampNeg), v5_2, σ))))
set_option maxRecDepth 100000 in
theorem tX_wfind_2b {X : CX} (hX : gd X cX10_find 6 RX10 (some (.object "SkinCarriers$Word"))) (hw : isX (xw X)) (hg : nA X) (hR : xR X = rmOf 4 85 0 0) {r : Nat} {τ : St} (hr : xr X = (some (.ref (wadW (xw X) r)), τ)) {k2 : Int32 → Int32 → Int32 → St → Option (Nat × St)} (hk2 : (∀ (v1 : Int32) (v2 : Int32) (v3 : Int32) (σ : St), k2 v1 v2 v3 σ = some (r, τ) → Jd X 6 2 [(0, .ref (wad (xw X) 6)), (1, .int v1), (2, .int v2), (3, .int v3)] [] σ)) (v1 : Int32) (v2 : Int32) (v3 : Int32) (σ : St) (h : rX_wfind_2 k2 v1 v2 v3 σ = some (r, τ)) : Jd X 6 2 [(0, .ref (wad (xw X) 6)), (1, .int v1), (2, .int v2), (3, .int v3)] [] σ := by
  unfold rX_wfind_2 at h
  refine J_iload_n (q := 3) hX dX10_find_2 rfl rfl ?_
  refine K_gAll hX hw uw_3_102 dX10_find_3 ?_
  refine K_allen hX hw dX10_find_6 ?_
  refine K_icmp_ge (tgt := 93) hX dX10_find_7 rfl h (fun h => ?_) (fun h => ?_)
  · refine K_gWord 38 hX hw (by decide) uw_3_152 dX10_find_93 ?_
    exact K_rret hX hr dX10_find_96 h
  · refine K_gAll hX hw uw_3_102 dX10_find_10 ?_
    refine J_iload_n (q := 3) hX dX10_find_13 rfl rfl ?_
    refine K_allald hX hw dX10_find_14 h (fun h => ?_)
    refine K_wtext hX hw uw_8_82 dX10_find_15 h (fun h => ?_)
    refine J_astore (lv' := [(4, .ref (wadW (xw X) (100 + v3.toNatClampNeg))), (0, .ref (wad (xw X) 6)), (1, .int v1), (2, .int v2), (3, .int v3)]) hX dX10_find_18 (by decide) rfl rfl ?_
    refine J_iconst (v := (0 : Int32)) hX dX10_find_20 (by decide) ?_
    refine K_istore (fun v5_2 => [(5, .int v5_2), (4, .ref (wadW (xw X) (100 + v3.toNatClampNeg))), (0, .ref (wad (xw X) 6)), (1, .int v1), (2, .int v2), (3, .int v3)]) hX dX10_find_21 (by decide) (fun _ => rfl) h (fun v5_2 h => ?_)
    refine J_sub [2, 3, 4, 5, 1, 0] rfl ?_
    exact tX_wfind_23 hX hw hg hR hr hk2 fu v1 v2 v3 (100 + v3.toNatClampNeg) v5_2 σ h
def rX_wfind_2L : ((Int32 × Int32 × Int32 × St) → Option (Nat × St)) → (Int32 × Int32 × Int32 × St) → Option (Nat × St) := fun k a => rX_wfind_2 (fun v1 v2 v3 σ => k (v1, v2, v3, σ)) a.1 a.2.1 a.2.2.1 a.2.2.2
theorem tX_wfind_2 {X : CX} (hX : gd X cX10_find 6 RX10 (some (.object "SkinCarriers$Word"))) (hw : isX (xw X)) (hg : nA X) (hR : xR X = rmOf 4 85 0 0) {r : Nat} {τ : St} (hr : xr X = (some (.ref (wadW (xw X) r)), τ)) (n : Nat) (v1 : Int32) (v2 : Int32) (v3 : Int32) (σ : St) (h : lp (rX_wfind_2L) n (v1, v2, v3, σ) = some (r, τ)) : Jd X 6 2 [(0, .ref (wad (xw X) 6)), (1, .int v1), (2, .int v2), (3, .int v3)] [] σ :=
  lp_ind (F := rX_wfind_2L) (P := fun a => Jd X 6 2 [(0, .ref (wad (xw X) 6)), (1, .int a.1), (2, .int a.2.1), (3, .int a.2.2.1)] [] a.2.2.2) (fun k a hk h => tX_wfind_2b hX hw hg hR hr (fun v1 v2 v3 σ h => hk (v1, v2, v3, σ) h) a.1 a.2.1 a.2.2.1 a.2.2.2 h) n (v1, v2, v3, σ) h

def rX_wfind (v1 : Int32) (v2 : Int32) (σ : St) : Option (Nat × St) :=
  nm (0 : Int32) fun v3_1 => lp (rX_wfind_2L) fu (v1, v2, v3_1, σ)
set_option maxRecDepth 100000 in
theorem tX_wfind {X : CX} (hX : gd X cX10_find 6 RX10 (some (.object "SkinCarriers$Word"))) (hw : isX (xw X)) (hg : nA X) (hR : xR X = rmOf 4 85 0 0) {r : Nat} {τ : St} (hr : xr X = (some (.ref (wadW (xw X) r)), τ)) (v1 : Int32) (v2 : Int32) (σ : St) (h : rX_wfind v1 v2 σ = some (r, τ)) : Jd X 6 0 [(0, .ref (wad (xw X) 6)), (1, .int v1), (2, .int v2)] [] σ := by
  unfold rX_wfind at h
  refine J_iconst (v := (0 : Int32)) hX dX10_find_0 (by decide) ?_
  refine K_istore_n (fun v3_1 => [(3, .int v3_1), (0, .ref (wad (xw X) 6)), (1, .int v1), (2, .int v2)]) hX dX10_find_1 rfl (by decide) (fun _ => rfl) h (fun v3_1 h => ?_)
  refine J_sub [1, 2, 3, 0] rfl ?_
  exact tX_wfind_2 hX hw hg hR hr fu v1 v2 v3_1 σ h
theorem ctX_wfind {w : WT} (hw : isX w) {v1 : Int32} {v2 : Int32} {σ : St} {r : Nat} {τ : St} (h : rX_wfind v1 v2 σ = some (r, τ)) : Ct yX10_find cX10_find 6 (some (.object "SkinCarriers$Word")) 4 85 w [.ref (wad w 6), .int v1, .int v2] σ (some (.ref (wadW w r))) τ 0 0 :=
  Ct_intro (fun _ => (0, 0)) (by decide) rfl ⟨rfl, Nat.le_refl _⟩ (Nat.le_of_ble_eq_true rfl) (fun X hX hR hwX hg hr => by subst hwX; exact tX_wfind hX hw hg hR hr v1 v2 σ h)

def rX_wcanName_13 (s0 : Int32) (σ : St) : Option (Int32 × St) :=
  chk (decide (s0 = 0 ∨ s0 = 1)) (some (s0, σ))
set_option maxRecDepth 100000 in
theorem tX_wcanName_13 {X : CX} (hX : gd X cX10_canName 1 RX10 (some .boolean)) (hw : isX (xw X)) (hg : nA X) (hR : xR X = rmOf 0 0 0 0) {r : Int32} {τ : St} (hr : xr X = (some (.int r), τ)) (s0 : Int32) (σ : St) (h : rX_wcanName_13 s0 σ = some (r, τ)) : Jd X 1 13 [] [.int s0] σ := by
  unfold rX_wcanName_13 at h
  exact K_zret hX hr dX10_canName_13 h

def rX_wcanName (v0 : Nat) (σ : St) : Option (Int32 × St) :=
  chk (decide (v0 < 42)) (brc (¬ (wdS.getD v0 0) = (3 : Int32)) (rX_wcanName_13 (0 : Int32) σ) (rX_wcanName_13 (1 : Int32) σ))
set_option maxRecDepth 100000 in
theorem tX_wcanName {X : CX} (hX : gd X cX10_canName 1 RX10 (some .boolean)) (hw : isX (xw X)) (hg : nA X) (hR : xR X = rmOf 0 0 0 0) {r : Int32} {τ : St} (hr : xr X = (some (.int r), τ)) (v0 : Nat) (σ : St) (h : rX_wcanName v0 σ = some (r, τ)) : Jd X 1 0 [(0, .ref (wadW (xw X) v0))] [] σ := by
  unfold rX_wcanName at h
  refine J_aload_n (q := 0) hX dX10_canName_0 rfl rfl ?_
  refine K_wsort hX hw uw_8_85 dX10_canName_1 h (fun h => ?_)
  refine J_iconst (v := (3 : Int32)) hX dX10_canName_4 (by decide) ?_
  refine K_icmp_ne (tgt := 12) hX dX10_canName_5 rfl h (fun h => ?_) (fun h => ?_)
  · refine J_iconst (v := (0 : Int32)) hX dX10_canName_12 (by decide) ?_
    refine J_sub [] rfl ?_
    exact tX_wcanName_13 hX hw hg hR hr (0 : Int32) σ h
  · refine J_iconst (v := (1 : Int32)) hX dX10_canName_8 (by decide) ?_
    refine J_goto (tgt := 13) hX dX10_canName_9 rfl ?_
    refine J_sub [] rfl ?_
    exact tX_wcanName_13 hX hw hg hR hr (1 : Int32) σ h
theorem ctX_wcanName {w : WT} (hw : isX w) {v0 : Nat} {σ : St} {r : Int32} {τ : St} (h : rX_wcanName v0 σ = some (r, τ)) : Ct yX10_canName cX10_canName 1 (some .boolean) 0 0 w [.ref (wadW w v0)] σ (some (.int r)) τ 0 0 :=
  Ct_intro (fun _ => (0, 0)) (by decide) rfl ⟨rfl, Nat.le_refl _⟩ (Nat.le_of_ble_eq_true rfl) (fun X hX hR hwX hg hr => by subst hwX; exact tX_wcanName hX hw hg hR hr v0 σ h)

def rX_wfact_23 (s0 : Int32) (σ : St) : Option (Int32 × St) :=
  some (s0, σ)
set_option maxRecDepth 100000 in
theorem tX_wfact_23 {X : CX} (hX : gd X cX10_fact 1 RX10 (some .int)) (hw : isX (xw X)) (hg : nA X) (hR : xR X = rmOf 0 0 0 0) {r : Int32} {τ : St} (hr : xr X = (some (.int r), τ)) (s0 : Int32) (σ : St) (h : rX_wfact_23 s0 σ = some (r, τ)) : Jd X 1 23 [] [.int s0] σ := by
  unfold rX_wfact_23 at h
  exact K_iret hX hr dX10_fact_23 h

def rX_wfact_15 (v0 : Nat) (σ : St) : Option (Int32 × St) :=
  chk (decide (v0 < 42)) (rX_wfact_23 (wdM.getD v0 0) σ)
set_option maxRecDepth 100000 in
theorem tX_wfact_15 {X : CX} (hX : gd X cX10_fact 1 RX10 (some .int)) (hw : isX (xw X)) (hg : nA X) (hR : xR X = rmOf 0 0 0 0) {r : Int32} {τ : St} (hr : xr X = (some (.int r), τ)) (v0 : Nat) (σ : St) (h : rX_wfact_15 v0 σ = some (r, τ)) : Jd X 1 15 [(0, .ref (wadW (xw X) v0))] [] σ := by
  unfold rX_wfact_15 at h
  refine J_aload_n (q := 0) hX dX10_fact_15 rfl rfl ?_
  refine K_wnum hX hw uw_8_88 dX10_fact_16 h (fun h => ?_)
  refine J_goto (tgt := 23) hX dX10_fact_19 rfl ?_
  refine J_sub [] rfl ?_
  exact tX_wfact_23 hX hw hg hR hr (wdM.getD v0 0) σ h

def rX_wfact (v0 : Nat) (σ : St) : Option (Int32 × St) :=
  chk (decide (v0 < 42)) (brc ((wdS.getD v0 0) = 0) (rX_wfact_15 v0 σ) (chk (decide (v0 < 42)) (brc (¬ (wdS.getD v0 0) = (3 : Int32)) (rX_wfact_23 (-1 : Int32) σ) (rX_wfact_15 v0 σ))))
set_option maxRecDepth 100000 in
theorem tX_wfact {X : CX} (hX : gd X cX10_fact 1 RX10 (some .int)) (hw : isX (xw X)) (hg : nA X) (hR : xR X = rmOf 0 0 0 0) {r : Int32} {τ : St} (hr : xr X = (some (.int r), τ)) (v0 : Nat) (σ : St) (h : rX_wfact v0 σ = some (r, τ)) : Jd X 1 0 [(0, .ref (wadW (xw X) v0))] [] σ := by
  unfold rX_wfact at h
  refine J_aload_n (q := 0) hX dX10_fact_0 rfl rfl ?_
  refine K_wsort hX hw uw_8_85 dX10_fact_1 h (fun h => ?_)
  refine K_if_eq (tgt := 15) hX dX10_fact_4 rfl h (fun h => ?_) (fun h => ?_)
  · refine J_sub [0] rfl ?_
    exact tX_wfact_15 hX hw hg hR hr v0 σ h
  · refine J_aload_n (q := 0) hX dX10_fact_7 rfl rfl ?_
    refine K_wsort hX hw uw_8_85 dX10_fact_8 h (fun h => ?_)
    refine J_iconst (v := (3 : Int32)) hX dX10_fact_11 (by decide) ?_
    refine K_icmp_ne (tgt := 22) hX dX10_fact_12 rfl h (fun h => ?_) (fun h => ?_)
    · refine J_iconst (v := (-1 : Int32)) hX dX10_fact_22 (by decide) ?_
      refine J_sub [] rfl ?_
      exact tX_wfact_23 hX hw hg hR hr (-1 : Int32) σ h
    · refine J_sub [0] rfl ?_
      exact tX_wfact_15 hX hw hg hR hr v0 σ h
theorem ctX_wfact {w : WT} (hw : isX w) {v0 : Nat} {σ : St} {r : Int32} {τ : St} (h : rX_wfact v0 σ = some (r, τ)) : Ct yX10_fact cX10_fact 1 (some .int) 0 0 w [.ref (wadW w v0)] σ (some (.int r)) τ 0 0 :=
  Ct_intro (fun _ => (0, 0)) (by decide) rfl ⟨rfl, Nat.le_refl _⟩ (Nat.le_of_ble_eq_true rfl) (fun X hX hR hwX hg hr => by subst hwX; exact tX_wfact hX hw hg hR hr v0 σ h)

def rX_rank (v0 : Int32) (σ : St) : Option (Int32 × St) :=
  brc ((v0).toInt = -9) (some ((1 : Int32), σ)) (brc ((v0).toInt = -8) (some ((1 : Int32), σ)) (brc ((v0).toInt = -7) (some ((2 : Int32), σ)) (brc ((v0).toInt = -6) (some ((2 : Int32), σ)) (brc ((v0).toInt = -5) (some ((3 : Int32), σ)) (brc ((v0).toInt = -4) (some ((3 : Int32), σ)) (brc ((v0).toInt = -3) (some ((4 : Int32), σ)) (some ((0 : Int32), σ))))))))
set_option maxRecDepth 100000 in
theorem tX_rank {X : CX} (hX : gd X cX2_rank 1 RX2 (some .int)) (hw : isX (xw X)) (hg : nA X) (hR : xR X = rmOf 0 0 0 0) {r : Int32} {τ : St} (hr : xr X = (some (.int r), τ)) (v0 : Int32) (σ : St) (h : rX_rank v0 σ = some (r, τ)) : Jd X 1 0 [(0, .int v0)] [] σ := by
  unfold rX_rank at h
  refine J_iload_n (q := 0) hX dX2_rank_0 rfl rfl ?_
  rcases brc_some h with ⟨hc, h⟩ | ⟨hn_1, h⟩
  · refine K_tabIn (v := -9) (tgt := 50) hX dX2_rank_1 hc (by decide) (by decide) rfl rfl ?_
    refine J_iconst (v := (1 : Int32)) hX dX2_rank_50 (by decide) ?_
    exact K_iret hX hr dX2_rank_51 h
  rcases brc_some h with ⟨hc, h⟩ | ⟨hn_2, h⟩
  · refine K_tabIn (v := -8) (tgt := 50) hX dX2_rank_1 hc (by decide) (by decide) rfl rfl ?_
    refine J_iconst (v := (1 : Int32)) hX dX2_rank_50 (by decide) ?_
    exact K_iret hX hr dX2_rank_51 h
  rcases brc_some h with ⟨hc, h⟩ | ⟨hn_3, h⟩
  · refine K_tabIn (v := -7) (tgt := 48) hX dX2_rank_1 hc (by decide) (by decide) rfl rfl ?_
    refine J_iconst (v := (2 : Int32)) hX dX2_rank_48 (by decide) ?_
    exact K_iret hX hr dX2_rank_49 h
  rcases brc_some h with ⟨hc, h⟩ | ⟨hn_4, h⟩
  · refine K_tabIn (v := -6) (tgt := 48) hX dX2_rank_1 hc (by decide) (by decide) rfl rfl ?_
    refine J_iconst (v := (2 : Int32)) hX dX2_rank_48 (by decide) ?_
    exact K_iret hX hr dX2_rank_49 h
  rcases brc_some h with ⟨hc, h⟩ | ⟨hn_5, h⟩
  · refine K_tabIn (v := -5) (tgt := 46) hX dX2_rank_1 hc (by decide) (by decide) rfl rfl ?_
    refine J_iconst (v := (3 : Int32)) hX dX2_rank_46 (by decide) ?_
    exact K_iret hX hr dX2_rank_47 h
  rcases brc_some h with ⟨hc, h⟩ | ⟨hn_6, h⟩
  · refine K_tabIn (v := -4) (tgt := 46) hX dX2_rank_1 hc (by decide) (by decide) rfl rfl ?_
    refine J_iconst (v := (3 : Int32)) hX dX2_rank_46 (by decide) ?_
    exact K_iret hX hr dX2_rank_47 h
  rcases brc_some h with ⟨hc, h⟩ | ⟨hn_7, h⟩
  · refine K_tabIn (v := -3) (tgt := 44) hX dX2_rank_1 hc (by decide) (by decide) rfl rfl ?_
    refine J_iconst (v := (4 : Int32)) hX dX2_rank_44 (by decide) ?_
    exact K_iret hX hr dX2_rank_45 h
  refine K_tabOut (tgt := 52) hX dX2_rank_1 (by omega) rfl ?_
  refine J_iconst (v := (0 : Int32)) hX dX2_rank_52 (by decide) ?_
  exact K_iret hX hr dX2_rank_53 h
theorem ctX_rank {w : WT} (hw : isX w) {v0 : Int32} {σ : St} {r : Int32} {τ : St} (h : rX_rank v0 σ = some (r, τ)) : Ct yX2_rank cX2_rank 1 (some .int) 0 0 w [.int v0] σ (some (.int r)) τ 0 0 :=
  Ct_intro (fun _ => (0, 0)) (by decide) rfl ⟨rfl, Nat.le_refl _⟩ (Nat.le_of_ble_eq_true rfl) (fun X hX hR hwX hg hr => by subst hwX; exact tX_rank hX hw hg hR hr v0 σ h)

def rX_joined_87 (s0 : Int32) (σ : St) : Option (Int32 × St) :=
  some (s0, σ)
set_option maxRecDepth 100000 in
theorem tX_joined_87 {X : CX} (hX : gd X cX2_joined 3 RX2 (some .int)) (hw : isX (xw X)) (hg : nA X) (hR : xR X = rmOf 0 0 0 0) {r : Int32} {τ : St} (hr : xr X = (some (.int r), τ)) (s0 : Int32) (σ : St) (h : rX_joined_87 s0 σ = some (r, τ)) : Jd X 3 87 [] [.int s0] σ := by
  unfold rX_joined_87 at h
  exact K_iret hX hr dX2_joined_87 h

def rX_joined_86 (σ : St) : Option (Int32 × St) :=
  rX_joined_87 (0 : Int32) σ
set_option maxRecDepth 100000 in
theorem tX_joined_86 {X : CX} (hX : gd X cX2_joined 3 RX2 (some .int)) (hw : isX (xw X)) (hg : nA X) (hR : xR X = rmOf 0 0 0 0) {r : Int32} {τ : St} (hr : xr X = (some (.int r), τ)) (σ : St) (h : rX_joined_86 σ = some (r, τ)) : Jd X 3 86 [] [] σ := by
  unfold rX_joined_86 at h
  refine J_iconst (v := (0 : Int32)) hX dX2_joined_86 (by decide) ?_
  refine J_sub [] rfl ?_
  exact tX_joined_87 hX hw hg hR hr (0 : Int32) σ h

def rX_joined_73 (s0 : Int32) (σ : St) : Option (Int32 × St) :=
  some (s0, σ)
set_option maxRecDepth 100000 in
theorem tX_joined_73 {X : CX} (hX : gd X cX2_joined 3 RX2 (some .int)) (hw : isX (xw X)) (hg : nA X) (hR : xR X = rmOf 0 0 0 0) {r : Int32} {τ : St} (hr : xr X = (some (.int r), τ)) (s0 : Int32) (σ : St) (h : rX_joined_73 s0 σ = some (r, τ)) : Jd X 3 73 [] [.int s0] σ := by
  unfold rX_joined_73 at h
  exact K_iret hX hr dX2_joined_73 h

def rX_joined_62 (s0 : Int32) (σ : St) : Option (Int32 × St) :=
  some (s0, σ)
set_option maxRecDepth 100000 in
theorem tX_joined_62 {X : CX} (hX : gd X cX2_joined 3 RX2 (some .int)) (hw : isX (xw X)) (hg : nA X) (hR : xR X = rmOf 0 0 0 0) {r : Int32} {τ : St} (hr : xr X = (some (.int r), τ)) (s0 : Int32) (σ : St) (h : rX_joined_62 s0 σ = some (r, τ)) : Jd X 3 62 [] [.int s0] σ := by
  unfold rX_joined_62 at h
  exact K_iret hX hr dX2_joined_62 h

def rX_joined_101 (s0 : Int32) (σ : St) : Option (Int32 × St) :=
  some (s0, σ)
set_option maxRecDepth 100000 in
theorem tX_joined_101 {X : CX} (hX : gd X cX2_joined 3 RX2 (some .int)) (hw : isX (xw X)) (hg : nA X) (hR : xR X = rmOf 0 0 0 0) {r : Int32} {τ : St} (hr : xr X = (some (.int r), τ)) (s0 : Int32) (σ : St) (h : rX_joined_101 s0 σ = some (r, τ)) : Jd X 3 101 [] [.int s0] σ := by
  unfold rX_joined_101 at h
  exact K_iret hX hr dX2_joined_101 h

def rX_joined_96 (σ : St) : Option (Int32 × St) :=
  rX_joined_101 (1 : Int32) σ
set_option maxRecDepth 100000 in
theorem tX_joined_96 {X : CX} (hX : gd X cX2_joined 3 RX2 (some .int)) (hw : isX (xw X)) (hg : nA X) (hR : xR X = rmOf 0 0 0 0) {r : Int32} {τ : St} (hr : xr X = (some (.int r), τ)) (σ : St) (h : rX_joined_96 σ = some (r, τ)) : Jd X 3 96 [] [] σ := by
  unfold rX_joined_96 at h
  refine J_iconst (v := (1 : Int32)) hX dX2_joined_96 (by decide) ?_
  refine J_goto (tgt := 101) hX dX2_joined_97 rfl ?_
  refine J_sub [] rfl ?_
  exact tX_joined_101 hX hw hg hR hr (1 : Int32) σ h

def rX_joined (v0 : Int32) (v1 : Int32) (v2 : Int32) (σ : St) : Option (Int32 × St) :=
  brc ((v0).toInt = -8) (brc (v1 = 0) (rX_joined_86 σ) (brc (v2 = 0) (rX_joined_86 σ) (rX_joined_87 (1 : Int32) σ))) (brc ((v0).toInt = -7) (brc (¬ v1 = v2) (rX_joined_73 (0 : Int32) σ) (rX_joined_73 (1 : Int32) σ)) (brc ((v0).toInt = -6) (brc (v2 ≤ v1) (rX_joined_62 (0 : Int32) σ) (rX_joined_62 (1 : Int32) σ)) (brc ((v0).toInt = -5) (some (v1 - v2, σ)) (brc ((v0).toInt = -4) (some (v1 + v2, σ)) (brc ((v0).toInt = -3) (some (v1 * v2, σ)) (brc (¬ v1 = 0) (rX_joined_96 σ) (brc (v2 = 0) (rX_joined_101 (0 : Int32) σ) (rX_joined_96 σ))))))))
set_option maxRecDepth 100000 in
theorem tX_joined {X : CX} (hX : gd X cX2_joined 3 RX2 (some .int)) (hw : isX (xw X)) (hg : nA X) (hR : xR X = rmOf 0 0 0 0) {r : Int32} {τ : St} (hr : xr X = (some (.int r), τ)) (v0 : Int32) (v1 : Int32) (v2 : Int32) (σ : St) (h : rX_joined v0 v1 v2 σ = some (r, τ)) : Jd X 3 0 [(0, .int v0), (1, .int v1), (2, .int v2)] [] σ := by
  unfold rX_joined at h
  refine J_iload_n (q := 0) hX dX2_joined_0 rfl rfl ?_
  rcases brc_some h with ⟨hc, h⟩ | ⟨hn_1, h⟩
  · refine K_tabIn (v := -8) (tgt := 74) hX dX2_joined_1 hc (by decide) (by decide) rfl rfl ?_
    refine J_iload_n (q := 1) hX dX2_joined_74 rfl rfl ?_
    refine K_if_eq (tgt := 86) hX dX2_joined_75 rfl h (fun h => ?_) (fun h => ?_)
    · refine J_sub [] rfl ?_
      exact tX_joined_86 hX hw hg hR hr σ h
    · refine J_iload_n (q := 2) hX dX2_joined_78 rfl rfl ?_
      refine K_if_eq (tgt := 86) hX dX2_joined_79 rfl h (fun h => ?_) (fun h => ?_)
      · refine J_sub [] rfl ?_
        exact tX_joined_86 hX hw hg hR hr σ h
      · refine J_iconst (v := (1 : Int32)) hX dX2_joined_82 (by decide) ?_
        refine J_goto (tgt := 87) hX dX2_joined_83 rfl ?_
        refine J_sub [] rfl ?_
        exact tX_joined_87 hX hw hg hR hr (1 : Int32) σ h
  rcases brc_some h with ⟨hc, h⟩ | ⟨hn_2, h⟩
  · refine K_tabIn (v := -7) (tgt := 63) hX dX2_joined_1 hc (by decide) (by decide) rfl rfl ?_
    refine J_iload_n (q := 1) hX dX2_joined_63 rfl rfl ?_
    refine J_iload_n (q := 2) hX dX2_joined_64 rfl rfl ?_
    refine K_icmp_ne (tgt := 72) hX dX2_joined_65 rfl h (fun h => ?_) (fun h => ?_)
    · refine J_iconst (v := (0 : Int32)) hX dX2_joined_72 (by decide) ?_
      refine J_sub [] rfl ?_
      exact tX_joined_73 hX hw hg hR hr (0 : Int32) σ h
    · refine J_iconst (v := (1 : Int32)) hX dX2_joined_68 (by decide) ?_
      refine J_goto (tgt := 73) hX dX2_joined_69 rfl ?_
      refine J_sub [] rfl ?_
      exact tX_joined_73 hX hw hg hR hr (1 : Int32) σ h
  rcases brc_some h with ⟨hc, h⟩ | ⟨hn_3, h⟩
  · refine K_tabIn (v := -6) (tgt := 52) hX dX2_joined_1 hc (by decide) (by decide) rfl rfl ?_
    refine J_iload_n (q := 1) hX dX2_joined_52 rfl rfl ?_
    refine J_iload_n (q := 2) hX dX2_joined_53 rfl rfl ?_
    refine K_icmp_ge (tgt := 61) hX dX2_joined_54 rfl h (fun h => ?_) (fun h => ?_)
    · refine J_iconst (v := (0 : Int32)) hX dX2_joined_61 (by decide) ?_
      refine J_sub [] rfl ?_
      exact tX_joined_62 hX hw hg hR hr (0 : Int32) σ h
    · refine J_iconst (v := (1 : Int32)) hX dX2_joined_57 (by decide) ?_
      refine J_goto (tgt := 62) hX dX2_joined_58 rfl ?_
      refine J_sub [] rfl ?_
      exact tX_joined_62 hX hw hg hR hr (1 : Int32) σ h
  rcases brc_some h with ⟨hc, h⟩ | ⟨hn_4, h⟩
  · refine K_tabIn (v := -5) (tgt := 48) hX dX2_joined_1 hc (by decide) (by decide) rfl rfl ?_
    refine J_iload_n (q := 1) hX dX2_joined_48 rfl rfl ?_
    refine J_iload_n (q := 2) hX dX2_joined_49 rfl rfl ?_
    refine J_isub hX dX2_joined_50 ?_
    exact K_iret hX hr dX2_joined_51 h
  rcases brc_some h with ⟨hc, h⟩ | ⟨hn_5, h⟩
  · refine K_tabIn (v := -4) (tgt := 44) hX dX2_joined_1 hc (by decide) (by decide) rfl rfl ?_
    refine J_iload_n (q := 1) hX dX2_joined_44 rfl rfl ?_
    refine J_iload_n (q := 2) hX dX2_joined_45 rfl rfl ?_
    refine J_iadd hX dX2_joined_46 ?_
    exact K_iret hX hr dX2_joined_47 h
  rcases brc_some h with ⟨hc, h⟩ | ⟨hn_6, h⟩
  · refine K_tabIn (v := -3) (tgt := 40) hX dX2_joined_1 hc (by decide) (by decide) rfl rfl ?_
    refine J_iload_n (q := 1) hX dX2_joined_40 rfl rfl ?_
    refine J_iload_n (q := 2) hX dX2_joined_41 rfl rfl ?_
    refine J_imul hX dX2_joined_42 ?_
    exact K_iret hX hr dX2_joined_43 h
  refine K_tabOut (tgt := 88) hX dX2_joined_1 (by omega) rfl ?_
  refine J_iload_n (q := 1) hX dX2_joined_88 rfl rfl ?_
  refine K_if_ne (tgt := 96) hX dX2_joined_89 rfl h (fun h => ?_) (fun h => ?_)
  · refine J_sub [] rfl ?_
    exact tX_joined_96 hX hw hg hR hr σ h
  · refine J_iload_n (q := 2) hX dX2_joined_92 rfl rfl ?_
    refine K_if_eq (tgt := 100) hX dX2_joined_93 rfl h (fun h => ?_) (fun h => ?_)
    · refine J_iconst (v := (0 : Int32)) hX dX2_joined_100 (by decide) ?_
      refine J_sub [] rfl ?_
      exact tX_joined_101 hX hw hg hR hr (0 : Int32) σ h
    · refine J_sub [] rfl ?_
      exact tX_joined_96 hX hw hg hR hr σ h
theorem ctX_joined {w : WT} (hw : isX w) {v0 : Int32} {v1 : Int32} {v2 : Int32} {σ : St} {r : Int32} {τ : St} (h : rX_joined v0 v1 v2 σ = some (r, τ)) : Ct yX2_joined cX2_joined 3 (some .int) 0 0 w [.int v0, .int v1, .int v2] σ (some (.int r)) τ 0 0 :=
  Ct_intro (fun _ => (0, 0)) (by decide) rfl ⟨rfl, Nat.le_refl _⟩ (Nat.le_of_ble_eq_true rfl) (fun X hX hR hwX hg hr => by subst hwX; exact tX_joined hX hw hg hR hr v0 v1 v2 σ h)
theorem X_joined_same {v0 v1 v2 : Int32} {σ τ : St} {r : Int32} (h : rX_joined v0 v1 v2 σ = some (r, τ)) : τ = σ := by
  simp only [rX_joined, rX_joined_87, rX_joined_86, rX_joined_73, rX_joined_62, rX_joined_101, rX_joined_96, brc] at h
  repeat' split at h
  all_goals (cases h; rfl)

def rX_wjoiner_26 (s0 : Int32) (σ : St) : Option (Int32 × St) :=
  some (s0, σ)
set_option maxRecDepth 100000 in
theorem tX_wjoiner_26 {X : CX} (hX : gd X cX10_joiner 1 RX10 (some .int)) (hw : isX (xw X)) (hg : nA X) (hR : xR X = rmOf 1 20 0 0) {r : Int32} {τ : St} (hr : xr X = (some (.int r), τ)) (s0 : Int32) (σ : St) (h : rX_wjoiner_26 s0 σ = some (r, τ)) : Jd X 1 26 [] [.int s0] σ := by
  unfold rX_wjoiner_26 at h
  exact K_iret hX hr dX10_joiner_26 h

def rX_wjoiner_25 (σ : St) : Option (Int32 × St) :=
  rX_wjoiner_26 (-1 : Int32) σ
set_option maxRecDepth 100000 in
theorem tX_wjoiner_25 {X : CX} (hX : gd X cX10_joiner 1 RX10 (some .int)) (hw : isX (xw X)) (hg : nA X) (hR : xR X = rmOf 1 20 0 0) {r : Int32} {τ : St} (hr : xr X = (some (.int r), τ)) (σ : St) (h : rX_wjoiner_25 σ = some (r, τ)) : Jd X 1 25 [] [] σ := by
  unfold rX_wjoiner_25 at h
  refine J_iconst (v := (-1 : Int32)) hX dX10_joiner_25 (by decide) ?_
  refine J_sub [] rfl ?_
  exact tX_wjoiner_26 hX hw hg hR hr (-1 : Int32) σ h

def rX_wjoiner (v0 : Nat) (σ : St) : Option (Int32 × St) :=
  chk (decide (v0 < 42)) (brc (¬ (wdS.getD v0 0) = (2 : Int32)) (rX_wjoiner_25 σ) (chk (decide (v0 < 42)) (bnd2 (rX_rank (wdM.getD v0 0) σ) fun r_3 σ_1 => brc (r_3 ≤ 0) (rX_wjoiner_25 σ_1) (chk (decide (v0 < 42)) (rX_wjoiner_26 (wdM.getD v0 0) σ_1)))))
set_option maxRecDepth 100000 in
theorem tX_wjoiner {X : CX} (hX : gd X cX10_joiner 1 RX10 (some .int)) (hw : isX (xw X)) (hg : nA X) (hR : xR X = rmOf 1 20 0 0) {r : Int32} {τ : St} (hr : xr X = (some (.int r), τ)) (v0 : Nat) (σ : St) (h : rX_wjoiner v0 σ = some (r, τ)) : Jd X 1 0 [(0, .ref (wadW (xw X) v0))] [] σ := by
  unfold rX_wjoiner at h
  refine J_aload_n (q := 0) hX dX10_joiner_0 rfl rfl ?_
  refine K_wsort hX hw uw_8_85 dX10_joiner_1 h (fun h => ?_)
  refine J_iconst (v := (2 : Int32)) hX dX10_joiner_4 (by decide) ?_
  refine K_icmp_ne (tgt := 25) hX dX10_joiner_5 rfl h (fun h => ?_) (fun h => ?_)
  · refine J_sub [] rfl ?_
    exact tX_wjoiner_25 hX hw hg hR hr σ h
  · refine J_aload_n (q := 0) hX dX10_joiner_8 rfl rfl ?_
    refine K_wnum hX hw uw_8_88 dX10_joiner_9 h (fun h => ?_)
    obtain ⟨r_3, σ_1, hc_2, h⟩ := bnd2_some h
    refine K_callS [.int (wdM.getD v0 0)] hX hg hR (ctX_rank hw hc_2) lk_X10_175_X2_rank md_X2_rank ⟨by decide, by decide⟩ rfl rfl (Nat.le_of_ble_eq_true rfl) dX10_joiner_12 ?_
    refine K_if_le (tgt := 25) hX dX10_joiner_15 rfl h (fun h => ?_) (fun h => ?_)
    · refine J_sub [] rfl ?_
      exact tX_wjoiner_25 hX hw hg hR hr σ_1 h
    · refine J_aload_n (q := 0) hX dX10_joiner_18 rfl rfl ?_
      refine K_wnum hX hw uw_8_88 dX10_joiner_19 h (fun h => ?_)
      refine J_goto (tgt := 26) hX dX10_joiner_22 rfl ?_
      refine J_sub [] rfl ?_
      exact tX_wjoiner_26 hX hw hg hR hr (wdM.getD v0 0) σ_1 h
theorem ctX_wjoiner {w : WT} (hw : isX w) {v0 : Nat} {σ : St} {r : Int32} {τ : St} (h : rX_wjoiner v0 σ = some (r, τ)) : Ct yX10_joiner cX10_joiner 1 (some .int) 1 20 w [.ref (wadW w v0)] σ (some (.int r)) τ 0 0 :=
  Ct_intro (fun _ => (0, 0)) (by decide) rfl ⟨rfl, Nat.le_refl _⟩ (Nat.le_of_ble_eq_true rfl) (fun X hX hR hwX hg hr => by subst hwX; exact tX_wjoiner hX hw hg hR hr v0 σ h)

def rX_valueOf_145 (s0 : Int32) (σ : St) : Option (Int32 × St) :=
  some (s0, σ)
set_option maxRecDepth 100000 in
theorem tX_valueOf_145 {X : CX} (hX : gd X cX2_valueOf 6 RX2 (some .int)) (hw : isX (xw X)) (hg : nA X) (hR : xR X = rmOf 1 22 0 0) {r : Int32} {τ : St} (hr : xr X = (some (.int r), τ)) (s0 : Int32) (σ : St) (h : rX_valueOf_145 s0 σ = some (r, τ)) : Jd X 6 145 [] [.int s0] σ := by
  unfold rX_valueOf_145 at h
  exact K_iret hX hr dX2_valueOf_145 h

def rX_valueOf_128 (k5 : Nat → Int32 → Int32 → St → Option (Int32 × St)) (v0 : Nat) (v3 : Int32) (v4 : Int32) (σ : St) : Option (Int32 × St) :=
  nm (v4 + Int32.ofInt 1) fun v4_4 => k5 v0 v3 v4_4 σ
set_option maxRecDepth 100000 in
theorem tX_valueOf_128 {X : CX} (hX : gd X cX2_valueOf 6 RX2 (some .int)) (hw : isX (xw X)) (hg : nA X) (hR : xR X = rmOf 1 22 0 0) {r : Int32} {τ : St} (hr : xr X = (some (.int r), τ)) {k5 : Nat → Int32 → Int32 → St → Option (Int32 × St)} (hk5 : (∀ (v0 : Nat) (v3 : Int32) (v4 : Int32) (σ : St), k5 v0 v3 v4 σ = some (r, τ) → Jd X 6 5 [(0, .ref (lawad (xw X) σ v0)), (1, .ref (wad (xw X) 47)), (2, .ref (wad (xw X) 48)), (3, .int v3), (4, .int v4)] [] σ)) (v0 : Nat) (v3 : Int32) (v4 : Int32) (σ : St) (h : rX_valueOf_128 k5 v0 v3 v4 σ = some (r, τ)) : Jd X 6 128 [(0, .ref (lawad (xw X) σ v0)), (1, .ref (wad (xw X) 47)), (2, .ref (wad (xw X) 48)), (3, .int v3), (4, .int v4)] [] σ := by
  unfold rX_valueOf_128 at h
  refine K_iinc (q := 4) (fun v4_4 => [(4, .int v4_4), (0, .ref (lawad (xw X) σ v0)), (1, .ref (wad (xw X) 47)), (2, .ref (wad (xw X) 48)), (3, .int v3)]) hX dX2_valueOf_128 rfl (by decide) (fun _ => rfl) h (fun v4_4 h => ?_)
  refine J_goto (tgt := 5) hX dX2_valueOf_131 rfl ?_
  refine J_sub [1, 2, 3, 4, 0] rfl ?_
  exact hk5 v0 v3 v4_4 σ h

def rX_valueOf_98 (k5 : Nat → Int32 → Int32 → St → Option (Int32 × St)) (v0 : Nat) (v3 : Int32) (v4 : Int32) (s0 : Int32) (s1 : Int32) (σ : St) : Option (Int32 × St) :=
  chk (ib s1 64) (nm (setI σ 48 s1.toNatClampNeg s0) fun σ_10 => rX_valueOf_128 k5 v0 v3 v4 σ_10)
set_option maxRecDepth 100000 in
theorem tX_valueOf_98 {X : CX} (hX : gd X cX2_valueOf 6 RX2 (some .int)) (hw : isX (xw X)) (hg : nA X) (hR : xR X = rmOf 1 22 0 0) {r : Int32} {τ : St} (hr : xr X = (some (.int r), τ)) {k5 : Nat → Int32 → Int32 → St → Option (Int32 × St)} (hk5 : (∀ (v0 : Nat) (v3 : Int32) (v4 : Int32) (σ : St), k5 v0 v3 v4 σ = some (r, τ) → Jd X 6 5 [(0, .ref (lawad (xw X) σ v0)), (1, .ref (wad (xw X) 47)), (2, .ref (wad (xw X) 48)), (3, .int v3), (4, .int v4)] [] σ)) (v0 : Nat) (v3 : Int32) (v4 : Int32) (s0 : Int32) (s1 : Int32) (σ : St) (h : rX_valueOf_98 k5 v0 v3 v4 s0 s1 σ = some (r, τ)) : Jd X 6 98 [(0, .ref (lawad (xw X) σ v0)), (1, .ref (wad (xw X) 47)), (2, .ref (wad (xw X) 48)), (3, .int v3), (4, .int v4)] [.int s0, .int s1, .ref (wad (xw X) 48)] σ := by
  unfold rX_valueOf_98 at h
  refine KL_iast (fun s => [(0, .ref (lawad (xw X) s v0)), (1, .ref (wad (xw X) 47)), (2, .ref (wad (xw X) 48)), (3, .int v3), (4, .int v4)]) rfl (fun τ hk => by simp only [lawad_K hk]) hX (xc_48 hw) dX2_valueOf_98 h (fun σ_10 h => ?_)
  refine J_goto (tgt := 128) hX dX2_valueOf_99 rfl ?_
  refine J_sub [0, 1, 2, 3, 4] rfl ?_
  exact tX_valueOf_128 hX hw hg hR hr hk5 v0 v3 v4 σ_10 h

def rX_valueOf_63 (k5 : Nat → Int32 → Int32 → St → Option (Int32 × St)) (v0 : Nat) (v3 : Int32) (v4 : Int32) (s0 : Int32) (s1 : Int32) (σ : St) : Option (Int32 × St) :=
  chk (ib s1 64) (nm (setI σ 48 s1.toNatClampNeg s0) fun σ_11 => nm (v3 + Int32.ofInt 1) fun v3_12 => rX_valueOf_128 k5 v0 v3_12 v4 σ_11)
set_option maxRecDepth 100000 in
theorem tX_valueOf_63 {X : CX} (hX : gd X cX2_valueOf 6 RX2 (some .int)) (hw : isX (xw X)) (hg : nA X) (hR : xR X = rmOf 1 22 0 0) {r : Int32} {τ : St} (hr : xr X = (some (.int r), τ)) {k5 : Nat → Int32 → Int32 → St → Option (Int32 × St)} (hk5 : (∀ (v0 : Nat) (v3 : Int32) (v4 : Int32) (σ : St), k5 v0 v3 v4 σ = some (r, τ) → Jd X 6 5 [(0, .ref (lawad (xw X) σ v0)), (1, .ref (wad (xw X) 47)), (2, .ref (wad (xw X) 48)), (3, .int v3), (4, .int v4)] [] σ)) (v0 : Nat) (v3 : Int32) (v4 : Int32) (s0 : Int32) (s1 : Int32) (σ : St) (h : rX_valueOf_63 k5 v0 v3 v4 s0 s1 σ = some (r, τ)) : Jd X 6 63 [(0, .ref (lawad (xw X) σ v0)), (1, .ref (wad (xw X) 47)), (2, .ref (wad (xw X) 48)), (3, .int v3), (4, .int v4)] [.int s0, .int s1, .ref (wad (xw X) 48)] σ := by
  unfold rX_valueOf_63 at h
  refine KL_iast (fun s => [(0, .ref (lawad (xw X) s v0)), (1, .ref (wad (xw X) 47)), (2, .ref (wad (xw X) 48)), (3, .int v3), (4, .int v4)]) rfl (fun τ hk => by simp only [lawad_K hk]) hX (xc_48 hw) dX2_valueOf_63 h (fun σ_11 h => ?_)
  refine K_iinc (q := 3) (fun v3_12 => [(3, .int v3_12), (0, .ref (lawad (xw X) σ_11 v0)), (1, .ref (wad (xw X) 47)), (2, .ref (wad (xw X) 48)), (4, .int v4)]) hX dX2_valueOf_64 rfl (by decide) (fun _ => rfl) h (fun v3_12 h => ?_)
  refine J_goto (tgt := 128) hX dX2_valueOf_67 rfl ?_
  refine J_sub [1, 2, 3, 0, 4] rfl ?_
  exact tX_valueOf_128 hX hw hg hR hr hk5 v0 v3_12 v4 σ_11 h

def rX_valueOf_5 (k5 : Nat → Int32 → Int32 → St → Option (Int32 × St)) (v0 : Nat) (v3 : Int32) (v4 : Int32) (σ : St) : Option (Int32 × St) :=
  chk (lawok σ v0) (brc ((nI (lawc σ v0).length) ≤ v4) (brc (v3 ≤ 0) (rX_valueOf_145 (0 : Int32) σ) (chk (ib (0 : Int32) 64) (rX_valueOf_145 (σ.1 48 (0 : Int32).toNatClampNeg) σ))) (chk (lawok σ v0) (chk (ib v4 (lawc σ v0).length) (nm ((lawc σ v0).getD v4.toNatClampNeg 0) fun v5_3 => brc (v5_3 < 0) (brc (¬ v5_3 = (-2 : Int32)) (brc (v3 ≤ (1 : Int32)) (rX_valueOf_128 k5 v0 v3 v4 σ) (nm (v3 + Int32.ofInt (-1)) fun v3_5 => chk (ib (v3_5 - (1 : Int32)) 64) (chk (ib v3_5 64) (bnd2 (rX_joined v5_3 (σ.1 48 (v3_5 - (1 : Int32)).toNatClampNeg) (σ.1 48 v3_5.toNatClampNeg) σ) fun r_8 σ_6 => chk (ib (v3_5 - (1 : Int32)) 64) (nm (setI σ_6 48 (v3_5 - (1 : Int32)).toNatClampNeg r_8) fun σ_9 => rX_valueOf_128 k5 v0 v3_5 v4 σ_9))))) (brc (v3 ≤ 0) (rX_valueOf_128 k5 v0 v3 v4 σ) (chk (ib (v3 - (1 : Int32)) 64) (brc (¬ (σ.1 48 (v3 - (1 : Int32)).toNatClampNeg) = 0) (rX_valueOf_98 k5 v0 v3 v4 (0 : Int32) (v3 - (1 : Int32)) σ) (rX_valueOf_98 k5 v0 v3 v4 (1 : Int32) (v3 - (1 : Int32)) σ))))) (brc ((nI 64) ≤ v3) (rX_valueOf_128 k5 v0 v3 v4 σ) (brc ((nI 7) ≤ (v5_3 - (10000 : Int32))) (rX_valueOf_128 k5 v0 v3 v4 σ) (brc ((10000 : Int32) ≤ v5_3) (chk (ib (v5_3 - (10000 : Int32)) 7) (rX_valueOf_63 k5 v0 v3 v4 (σ.1 47 (v5_3 - (10000 : Int32)).toNatClampNeg) v3 σ)) (rX_valueOf_63 k5 v0 v3 v4 v5_3 v3 σ))))))))
set_option maxRecDepth 100000 in
theorem tX_valueOf_5b {X : CX} (hX : gd X cX2_valueOf 6 RX2 (some .int)) (hw : isX (xw X)) (hg : nA X) (hR : xR X = rmOf 1 22 0 0) {r : Int32} {τ : St} (hr : xr X = (some (.int r), τ)) {k5 : Nat → Int32 → Int32 → St → Option (Int32 × St)} (hk5 : (∀ (v0 : Nat) (v3 : Int32) (v4 : Int32) (σ : St), k5 v0 v3 v4 σ = some (r, τ) → Jd X 6 5 [(0, .ref (lawad (xw X) σ v0)), (1, .ref (wad (xw X) 47)), (2, .ref (wad (xw X) 48)), (3, .int v3), (4, .int v4)] [] σ)) (v0 : Nat) (v3 : Int32) (v4 : Int32) (σ : St) (h : rX_valueOf_5 k5 v0 v3 v4 σ = some (r, τ)) : Jd X 6 5 [(0, .ref (lawad (xw X) σ v0)), (1, .ref (wad (xw X) 47)), (2, .ref (wad (xw X) 48)), (3, .int v3), (4, .int v4)] [] σ := by
  unfold rX_valueOf_5 at h
  refine J_iload (q := 4) hX dX2_valueOf_5 rfl ?_
  refine J_aload_n (q := 0) hX dX2_valueOf_7 rfl rfl ?_
  refine K_lawlen hX hw dX2_valueOf_8 h (fun h => ?_)
  refine K_icmp_ge (tgt := 134) hX dX2_valueOf_9 rfl h (fun h => ?_) (fun h => ?_)
  · refine J_iload_n (q := 3) hX dX2_valueOf_134 rfl rfl ?_
    refine K_if_le (tgt := 144) hX dX2_valueOf_135 rfl h (fun h => ?_) (fun h => ?_)
    · refine J_iconst (v := (0 : Int32)) hX dX2_valueOf_144 (by decide) ?_
      refine J_sub [] rfl ?_
      exact tX_valueOf_145 hX hw hg hR hr (0 : Int32) σ h
    · refine J_aload_n (q := 2) hX dX2_valueOf_138 rfl rfl ?_
      refine J_iconst (v := (0 : Int32)) hX dX2_valueOf_139 (by decide) ?_
      refine K_iald hX (xc_48 hw) dX2_valueOf_140 h (fun h => ?_)
      refine J_goto (tgt := 145) hX dX2_valueOf_141 rfl ?_
      refine J_sub [] rfl ?_
      exact tX_valueOf_145 hX hw hg hR hr (σ.1 48 (0 : Int32).toNatClampNeg) σ h
  · refine J_aload_n (q := 0) hX dX2_valueOf_12 rfl rfl ?_
    refine J_iload (q := 4) hX dX2_valueOf_13 rfl ?_
    refine K_lawld hX hw dX2_valueOf_15 h (fun h => ?_)
    refine K_istore (fun v5_3 => [(5, .int v5_3), (0, .ref (lawad (xw X) σ v0)), (1, .ref (wad (xw X) 47)), (2, .ref (wad (xw X) 48)), (3, .int v3), (4, .int v4)]) hX dX2_valueOf_16 (by decide) (fun _ => rfl) h (fun v5_3 h => ?_)
    refine J_iload (q := 0) hX dX2_valueOf_18 rfl ?_
    refine K_if_lt (tgt := 70) hX dX2_valueOf_20 rfl h (fun h => ?_) (fun h => ?_)
    · refine J_iload (q := 0) hX dX2_valueOf_70 rfl ?_
      refine J_bipush (v := (-2 : Int32)) hX dX2_valueOf_72 (by decide) ?_
      refine K_icmp_ne (tgt := 102) hX dX2_valueOf_74 rfl h (fun h => ?_) (fun h => ?_)
      · refine J_iload_n (q := 4) hX dX2_valueOf_102 rfl rfl ?_
        refine J_iconst (v := (1 : Int32)) hX dX2_valueOf_103 (by decide) ?_
        refine K_icmp_le (tgt := 128) hX dX2_valueOf_104 rfl h (fun h => ?_) (fun h => ?_)
        · refine J_sub [1, 2, 3, 4, 5] rfl ?_
          exact tX_valueOf_128 hX hw hg hR hr hk5 v0 v3 v4 σ h
        · refine K_iinc (q := 4) (fun v3_5 => [(3, .int v3_5), (5, .int v5_3), (0, .ref (lawad (xw X) σ v0)), (1, .ref (wad (xw X) 47)), (2, .ref (wad (xw X) 48)), (4, .int v4)]) hX dX2_valueOf_107 rfl (by decide) (fun _ => rfl) h (fun v3_5 h => ?_)
          refine J_aload_n (q := 4) hX dX2_valueOf_110 rfl rfl ?_
          refine J_iload_n (q := 0) hX dX2_valueOf_111 rfl rfl ?_
          refine J_iconst (v := (1 : Int32)) hX dX2_valueOf_112 (by decide) ?_
          refine J_isub hX dX2_valueOf_113 ?_
          refine J_iload (q := 1) hX dX2_valueOf_114 rfl ?_
          refine J_aload_n (q := 4) hX dX2_valueOf_116 rfl rfl ?_
          refine J_iload_n (q := 0) hX dX2_valueOf_117 rfl rfl ?_
          refine J_iconst (v := (1 : Int32)) hX dX2_valueOf_118 (by decide) ?_
          refine J_isub hX dX2_valueOf_119 ?_
          refine K_iald hX (xc_48 hw) dX2_valueOf_120 h (fun h => ?_)
          refine J_aload_n (q := 4) hX dX2_valueOf_121 rfl rfl ?_
          refine J_iload_n (q := 0) hX dX2_valueOf_122 rfl rfl ?_
          refine K_iald hX (xc_48 hw) dX2_valueOf_123 h (fun h => ?_)
          obtain ⟨r_8, σ_6, hc_7, h⟩ := bnd2_some h
          have e_hc_7 := (X_joined_same hc_7).symm
          subst e_hc_7
          refine K_callS [.int v5_3, .int (σ.1 48 (v3_5 - (1 : Int32)).toNatClampNeg), .int (σ.1 48 v3_5.toNatClampNeg)] hX hg hR (ctX_joined hw hc_7) lk_X2_112_X2_joined md_X2_joined ⟨by decide, by decide⟩ rfl rfl (Nat.le_of_ble_eq_true rfl) dX2_valueOf_124 ?_
          refine KL_iast (fun s => [(3, .int v3_5), (5, .int v5_3), (0, .ref (lawad (xw X) s v0)), (1, .ref (wad (xw X) 47)), (2, .ref (wad (xw X) 48)), (4, .int v4)]) rfl (fun τ hk => by simp only [lawad_K hk]) hX (xc_48 hw) dX2_valueOf_127 h (fun σ_9 h => ?_)
          refine J_sub [2, 3, 4, 0, 5] rfl ?_
          exact tX_valueOf_128 hX hw hg hR hr hk5 v0 v3_5 v4 σ_9 h
      · refine J_iload_n (q := 4) hX dX2_valueOf_77 rfl rfl ?_
        refine K_if_le (tgt := 128) hX dX2_valueOf_78 rfl h (fun h => ?_) (fun h => ?_)
        · refine J_sub [1, 2, 3, 4, 5] rfl ?_
          exact tX_valueOf_128 hX hw hg hR hr hk5 v0 v3 v4 σ h
        · refine J_aload_n (q := 3) hX dX2_valueOf_81 rfl rfl ?_
          refine J_iload_n (q := 4) hX dX2_valueOf_82 rfl rfl ?_
          refine J_iconst (v := (1 : Int32)) hX dX2_valueOf_83 (by decide) ?_
          refine J_isub hX dX2_valueOf_84 ?_
          refine J_aload_n (q := 3) hX dX2_valueOf_85 rfl rfl ?_
          refine J_iload_n (q := 4) hX dX2_valueOf_86 rfl rfl ?_
          refine J_iconst (v := (1 : Int32)) hX dX2_valueOf_87 (by decide) ?_
          refine J_isub hX dX2_valueOf_88 ?_
          refine K_iald hX (xc_48 hw) dX2_valueOf_89 h (fun h => ?_)
          refine K_if_ne (tgt := 97) hX dX2_valueOf_90 rfl h (fun h => ?_) (fun h => ?_)
          · refine J_iconst (v := (0 : Int32)) hX dX2_valueOf_97 (by decide) ?_
            refine J_sub [1, 2, 3, 4, 5] rfl ?_
            exact tX_valueOf_98 hX hw hg hR hr hk5 v0 v3 v4 (0 : Int32) (v3 - (1 : Int32)) σ h
          · refine J_iconst (v := (1 : Int32)) hX dX2_valueOf_93 (by decide) ?_
            refine J_goto (tgt := 98) hX dX2_valueOf_94 rfl ?_
            refine J_sub [1, 2, 3, 4, 5] rfl ?_
            exact tX_valueOf_98 hX hw hg hR hr hk5 v0 v3 v4 (1 : Int32) (v3 - (1 : Int32)) σ h
    · refine J_iload_n (q := 4) hX dX2_valueOf_23 rfl rfl ?_
      refine J_aload_n (q := 3) hX dX2_valueOf_24 rfl rfl ?_
      refine K_alen hX (xc_48 hw) rfl dX2_valueOf_25 ?_
      refine K_icmp_ge (tgt := 128) hX dX2_valueOf_26 rfl h (fun h => ?_) (fun h => ?_)
      · refine J_sub [1, 2, 3, 4, 5] rfl ?_
        exact tX_valueOf_128 hX hw hg hR hr hk5 v0 v3 v4 σ h
      · refine J_iload (q := 0) hX dX2_valueOf_29 rfl ?_
        refine J_sipush (v := (10000 : Int32)) hX dX2_valueOf_31 (by decide) ?_
        refine J_isub hX dX2_valueOf_34 ?_
        refine J_aload_n (q := 2) hX dX2_valueOf_35 rfl rfl ?_
        refine K_alen hX (xc_47 hw) rfl dX2_valueOf_36 ?_
        refine K_icmp_ge (tgt := 128) hX dX2_valueOf_37 rfl h (fun h => ?_) (fun h => ?_)
        · refine J_sub [1, 2, 3, 4, 5] rfl ?_
          exact tX_valueOf_128 hX hw hg hR hr hk5 v0 v3 v4 σ h
        · refine J_aload_n (q := 3) hX dX2_valueOf_40 rfl rfl ?_
          refine J_iload_n (q := 4) hX dX2_valueOf_41 rfl rfl ?_
          refine J_iload (q := 0) hX dX2_valueOf_42 rfl ?_
          refine J_sipush (v := (10000 : Int32)) hX dX2_valueOf_44 (by decide) ?_
          refine K_icmp_ge (tgt := 55) hX dX2_valueOf_47 rfl h (fun h => ?_) (fun h => ?_)
          · refine J_aload_n (q := 2) hX dX2_valueOf_55 rfl rfl ?_
            refine J_iload (q := 0) hX dX2_valueOf_56 rfl ?_
            refine J_sipush (v := (10000 : Int32)) hX dX2_valueOf_58 (by decide) ?_
            refine J_isub hX dX2_valueOf_61 ?_
            refine K_iald hX (xc_47 hw) dX2_valueOf_62 h (fun h => ?_)
            refine J_sub [1, 2, 3, 4, 5] rfl ?_
            exact tX_valueOf_63 hX hw hg hR hr hk5 v0 v3 v4 (σ.1 47 (v5_3 - (10000 : Int32)).toNatClampNeg) v3 σ h
          · refine J_iload (q := 0) hX dX2_valueOf_50 rfl ?_
            refine J_goto (tgt := 63) hX dX2_valueOf_52 rfl ?_
            refine J_sub [1, 2, 3, 4, 5] rfl ?_
            exact tX_valueOf_63 hX hw hg hR hr hk5 v0 v3 v4 v5_3 v3 σ h
def rX_valueOf_5L : ((Nat × Int32 × Int32 × St) → Option (Int32 × St)) → (Nat × Int32 × Int32 × St) → Option (Int32 × St) := fun k a => rX_valueOf_5 (fun v0 v3 v4 σ => k (v0, v3, v4, σ)) a.1 a.2.1 a.2.2.1 a.2.2.2
theorem tX_valueOf_5 {X : CX} (hX : gd X cX2_valueOf 6 RX2 (some .int)) (hw : isX (xw X)) (hg : nA X) (hR : xR X = rmOf 1 22 0 0) {r : Int32} {τ : St} (hr : xr X = (some (.int r), τ)) (n : Nat) (v0 : Nat) (v3 : Int32) (v4 : Int32) (σ : St) (h : lp (rX_valueOf_5L) n (v0, v3, v4, σ) = some (r, τ)) : Jd X 6 5 [(0, .ref (lawad (xw X) σ v0)), (1, .ref (wad (xw X) 47)), (2, .ref (wad (xw X) 48)), (3, .int v3), (4, .int v4)] [] σ :=
  lp_ind (F := rX_valueOf_5L) (P := fun a => Jd X 6 5 [(0, .ref (lawad (xw X) a.2.2.2 a.1)), (1, .ref (wad (xw X) 47)), (2, .ref (wad (xw X) 48)), (3, .int a.2.1), (4, .int a.2.2.1)] [] a.2.2.2) (fun k a hk h => tX_valueOf_5b hX hw hg hR hr (fun v0 v3 v4 σ h => hk (v0, v3, v4, σ) h) a.1 a.2.1 a.2.2.1 a.2.2.2 h) n (v0, v3, v4, σ) h

def rX_valueOf (v0 : Nat) (σ : St) : Option (Int32 × St) :=
  nm (0 : Int32) fun v3_1 => nm (0 : Int32) fun v4_2 => lp (rX_valueOf_5L) fu (v0, v3_1, v4_2, σ)
set_option maxRecDepth 100000 in
theorem tX_valueOf {X : CX} (hX : gd X cX2_valueOf 6 RX2 (some .int)) (hw : isX (xw X)) (hg : nA X) (hR : xR X = rmOf 1 22 0 0) {r : Int32} {τ : St} (hr : xr X = (some (.int r), τ)) (v0 : Nat) (σ : St) (h : rX_valueOf v0 σ = some (r, τ)) : Jd X 6 0 [(0, .ref (lawad (xw X) σ v0)), (1, .ref (wad (xw X) 47)), (2, .ref (wad (xw X) 48))] [] σ := by
  unfold rX_valueOf at h
  refine J_iconst (v := (0 : Int32)) hX dX2_valueOf_0 (by decide) ?_
  refine K_istore_n (fun v3_1 => [(3, .int v3_1), (0, .ref (lawad (xw X) σ v0)), (1, .ref (wad (xw X) 47)), (2, .ref (wad (xw X) 48))]) hX dX2_valueOf_1 rfl (by decide) (fun _ => rfl) h (fun v3_1 h => ?_)
  refine J_iconst (v := (0 : Int32)) hX dX2_valueOf_2 (by decide) ?_
  refine K_istore (fun v4_2 => [(4, .int v4_2), (3, .int v3_1), (0, .ref (lawad (xw X) σ v0)), (1, .ref (wad (xw X) 47)), (2, .ref (wad (xw X) 48))]) hX dX2_valueOf_3 (by decide) (fun _ => rfl) h (fun v4_2 h => ?_)
  refine J_sub [2, 3, 4, 1, 0] rfl ?_
  exact tX_valueOf_5 hX hw hg hR hr fu v0 v3_1 v4_2 σ h
theorem ctX_valueOf {w : WT} (hw : isX w) {v0 : Nat} {σ : St} {r : Int32} {τ : St} (h : rX_valueOf v0 σ = some (r, τ)) : Ct yX2_valueOf cX2_valueOf 6 (some .int) 1 22 w [.ref (lawad w σ v0), .ref (wad w 47), .ref (wad w 48)] σ (some (.int r)) τ 0 0 :=
  Ct_intro (fun _ => (0, 0)) (by decide) rfl ⟨rfl, Nat.le_refl _⟩ (Nat.le_of_ble_eq_true rfl) (fun X hX hR hwX hg hr => by subst hwX; exact tX_valueOf hX hw hg hR hr v0 σ h)

def rX_fill_minutes_5 (k5 : Int32 → Int32 → Int32 → St → Option (St)) (v1 : Int32) (v2 : Int32) (v3 : Int32) (σ : St) : Option (St) :=
  brc (v3 ≤ v2) (some σ) (chk (ib v2 49) (nm (setI σ 13 v2.toNatClampNeg v1) fun σ_3 => nm (v2 + Int32.ofInt 1) fun v2_4 => k5 v1 v2_4 v3 σ_3))
set_option maxRecDepth 100000 in
theorem tX_fill_minutes_5b {X : CX} (hX : gd X cJ7_fill_53178 4 RJ7 none) (hw : isX (xw X)) (hg : nA X) (hR : xR X = rmOf 0 0 0 0) {τ : St} (hr : xr X = (none, τ)) {k5 : Int32 → Int32 → Int32 → St → Option (St)} (hk5 : (∀ (v1 : Int32) (v2 : Int32) (v3 : Int32) (σ : St), k5 v1 v2 v3 σ = some τ → Jd X 4 5 [(0, .ref (wad (xw X) 13)), (1, .int v1), (2, .int v2), (3, .int v3)] [] σ)) (v1 : Int32) (v2 : Int32) (v3 : Int32) (σ : St) (h : rX_fill_minutes_5 k5 v1 v2 v3 σ = some τ) : Jd X 4 5 [(0, .ref (wad (xw X) 13)), (1, .int v1), (2, .int v2), (3, .int v3)] [] σ := by
  unfold rX_fill_minutes_5 at h
  refine J_iload_n (q := 2) hX dJ7_fill_53178_5 rfl rfl ?_
  refine J_iload_n (q := 3) hX dJ7_fill_53178_6 rfl rfl ?_
  refine K_icmp_ge (tgt := 20) hX dJ7_fill_53178_7 rfl h (fun h => ?_) (fun h => ?_)
  · exact K_vret hX hr dJ7_fill_53178_20 h
  · refine J_aload_n (q := 0) hX dJ7_fill_53178_10 rfl rfl ?_
    refine J_iload_n (q := 2) hX dJ7_fill_53178_11 rfl rfl ?_
    refine J_iload_n (q := 1) hX dJ7_fill_53178_12 rfl rfl ?_
    refine K_iast hX (xc_13 hw) dJ7_fill_53178_13 h (fun σ_3 h => ?_)
    refine K_iinc (q := 2) (fun v2_4 => [(2, .int v2_4), (0, .ref (wad (xw X) 13)), (1, .int v1), (3, .int v3)]) hX dJ7_fill_53178_14 rfl (by decide) (fun _ => rfl) h (fun v2_4 h => ?_)
    refine J_goto (tgt := 5) hX dJ7_fill_53178_17 rfl ?_
    refine J_sub [1, 2, 0, 3] rfl ?_
    exact hk5 v1 v2_4 v3 σ_3 h
def rX_fill_minutes_5L : ((Int32 × Int32 × Int32 × St) → Option (St)) → (Int32 × Int32 × Int32 × St) → Option (St) := fun k a => rX_fill_minutes_5 (fun v1 v2 v3 σ => k (v1, v2, v3, σ)) a.1 a.2.1 a.2.2.1 a.2.2.2
theorem tX_fill_minutes_5 {X : CX} (hX : gd X cJ7_fill_53178 4 RJ7 none) (hw : isX (xw X)) (hg : nA X) (hR : xR X = rmOf 0 0 0 0) {τ : St} (hr : xr X = (none, τ)) (n : Nat) (v1 : Int32) (v2 : Int32) (v3 : Int32) (σ : St) (h : lp (rX_fill_minutes_5L) n (v1, v2, v3, σ) = some τ) : Jd X 4 5 [(0, .ref (wad (xw X) 13)), (1, .int v1), (2, .int v2), (3, .int v3)] [] σ :=
  lp_ind (F := rX_fill_minutes_5L) (P := fun a => Jd X 4 5 [(0, .ref (wad (xw X) 13)), (1, .int a.1), (2, .int a.2.1), (3, .int a.2.2.1)] [] a.2.2.2) (fun k a hk h => tX_fill_minutes_5b hX hw hg hR hr (fun v1 v2 v3 σ h => hk (v1, v2, v3, σ) h) a.1 a.2.1 a.2.2.1 a.2.2.2 h) n (v1, v2, v3, σ) h

def rX_fill_minutes (v1 : Int32) (σ : St) : Option (St) :=
  nm (0 : Int32) fun v2_1 => nm (nI 49) fun v3_2 => lp (rX_fill_minutes_5L) fu (v1, v2_1, v3_2, σ)
set_option maxRecDepth 100000 in
theorem tX_fill_minutes {X : CX} (hX : gd X cJ7_fill_53178 4 RJ7 none) (hw : isX (xw X)) (hg : nA X) (hR : xR X = rmOf 0 0 0 0) {τ : St} (hr : xr X = (none, τ)) (v1 : Int32) (σ : St) (h : rX_fill_minutes v1 σ = some τ) : Jd X 4 0 [(0, .ref (wad (xw X) 13)), (1, .int v1)] [] σ := by
  unfold rX_fill_minutes at h
  refine J_iconst (v := (0 : Int32)) hX dJ7_fill_53178_0 (by decide) ?_
  refine K_istore_n (fun v2_1 => [(2, .int v2_1), (0, .ref (wad (xw X) 13)), (1, .int v1)]) hX dJ7_fill_53178_1 rfl (by decide) (fun _ => rfl) h (fun v2_1 h => ?_)
  refine J_aload_n (q := 1) hX dJ7_fill_53178_2 rfl rfl ?_
  refine K_alen hX (xc_13 hw) rfl dJ7_fill_53178_3 ?_
  refine K_istore_n (fun v3_2 => [(3, .int v3_2), (2, .int v2_1), (0, .ref (wad (xw X) 13)), (1, .int v1)]) hX dJ7_fill_53178_4 rfl (by decide) (fun _ => rfl) h (fun v3_2 h => ?_)
  refine J_sub [2, 3, 1, 0] rfl ?_
  exact tX_fill_minutes_5 hX hw hg hR hr fu v1 v2_1 v3_2 σ h
theorem ctX_fill_minutes {w : WT} (hw : isX w) {v1 : Int32} {σ : St} {τ : St} (h : rX_fill_minutes v1 σ = some τ) : Ct yJ7_fill_53178 cJ7_fill_53178 4 none 0 0 w [.ref (wad w 13), .int v1] σ none τ 0 0 :=
  Ct_intro (fun _ => (0, 0)) (by decide) rfl ⟨rfl, Nat.le_refl _⟩ (Nat.le_of_ble_eq_true rfl) (fun X hX hR hwX hg hr => by subst hwX; exact tX_fill_minutes hX hw hg hR hr v1 σ h)

def rX_fill_ddebts_5 (k5 : Int32 → Int32 → Int32 → St → Option (St)) (v1 : Int32) (v2 : Int32) (v3 : Int32) (σ : St) : Option (St) :=
  brc (v3 ≤ v2) (some σ) (chk (ib v2 36) (nm (setI σ 19 v2.toNatClampNeg v1) fun σ_3 => nm (v2 + Int32.ofInt 1) fun v2_4 => k5 v1 v2_4 v3 σ_3))
set_option maxRecDepth 100000 in
theorem tX_fill_ddebts_5b {X : CX} (hX : gd X cJ7_fill_53178 4 RJ7 none) (hw : isX (xw X)) (hg : nA X) (hR : xR X = rmOf 0 0 0 0) {τ : St} (hr : xr X = (none, τ)) {k5 : Int32 → Int32 → Int32 → St → Option (St)} (hk5 : (∀ (v1 : Int32) (v2 : Int32) (v3 : Int32) (σ : St), k5 v1 v2 v3 σ = some τ → Jd X 4 5 [(0, .ref (wad (xw X) 19)), (1, .int v1), (2, .int v2), (3, .int v3)] [] σ)) (v1 : Int32) (v2 : Int32) (v3 : Int32) (σ : St) (h : rX_fill_ddebts_5 k5 v1 v2 v3 σ = some τ) : Jd X 4 5 [(0, .ref (wad (xw X) 19)), (1, .int v1), (2, .int v2), (3, .int v3)] [] σ := by
  unfold rX_fill_ddebts_5 at h
  refine J_iload_n (q := 2) hX dJ7_fill_53178_5 rfl rfl ?_
  refine J_iload_n (q := 3) hX dJ7_fill_53178_6 rfl rfl ?_
  refine K_icmp_ge (tgt := 20) hX dJ7_fill_53178_7 rfl h (fun h => ?_) (fun h => ?_)
  · exact K_vret hX hr dJ7_fill_53178_20 h
  · refine J_aload_n (q := 0) hX dJ7_fill_53178_10 rfl rfl ?_
    refine J_iload_n (q := 2) hX dJ7_fill_53178_11 rfl rfl ?_
    refine J_iload_n (q := 1) hX dJ7_fill_53178_12 rfl rfl ?_
    refine K_iast hX (xc_19 hw) dJ7_fill_53178_13 h (fun σ_3 h => ?_)
    refine K_iinc (q := 2) (fun v2_4 => [(2, .int v2_4), (0, .ref (wad (xw X) 19)), (1, .int v1), (3, .int v3)]) hX dJ7_fill_53178_14 rfl (by decide) (fun _ => rfl) h (fun v2_4 h => ?_)
    refine J_goto (tgt := 5) hX dJ7_fill_53178_17 rfl ?_
    refine J_sub [1, 2, 0, 3] rfl ?_
    exact hk5 v1 v2_4 v3 σ_3 h
def rX_fill_ddebts_5L : ((Int32 × Int32 × Int32 × St) → Option (St)) → (Int32 × Int32 × Int32 × St) → Option (St) := fun k a => rX_fill_ddebts_5 (fun v1 v2 v3 σ => k (v1, v2, v3, σ)) a.1 a.2.1 a.2.2.1 a.2.2.2
theorem tX_fill_ddebts_5 {X : CX} (hX : gd X cJ7_fill_53178 4 RJ7 none) (hw : isX (xw X)) (hg : nA X) (hR : xR X = rmOf 0 0 0 0) {τ : St} (hr : xr X = (none, τ)) (n : Nat) (v1 : Int32) (v2 : Int32) (v3 : Int32) (σ : St) (h : lp (rX_fill_ddebts_5L) n (v1, v2, v3, σ) = some τ) : Jd X 4 5 [(0, .ref (wad (xw X) 19)), (1, .int v1), (2, .int v2), (3, .int v3)] [] σ :=
  lp_ind (F := rX_fill_ddebts_5L) (P := fun a => Jd X 4 5 [(0, .ref (wad (xw X) 19)), (1, .int a.1), (2, .int a.2.1), (3, .int a.2.2.1)] [] a.2.2.2) (fun k a hk h => tX_fill_ddebts_5b hX hw hg hR hr (fun v1 v2 v3 σ h => hk (v1, v2, v3, σ) h) a.1 a.2.1 a.2.2.1 a.2.2.2 h) n (v1, v2, v3, σ) h

def rX_fill_ddebts (v1 : Int32) (σ : St) : Option (St) :=
  nm (0 : Int32) fun v2_1 => nm (nI 36) fun v3_2 => lp (rX_fill_ddebts_5L) fu (v1, v2_1, v3_2, σ)
set_option maxRecDepth 100000 in
theorem tX_fill_ddebts {X : CX} (hX : gd X cJ7_fill_53178 4 RJ7 none) (hw : isX (xw X)) (hg : nA X) (hR : xR X = rmOf 0 0 0 0) {τ : St} (hr : xr X = (none, τ)) (v1 : Int32) (σ : St) (h : rX_fill_ddebts v1 σ = some τ) : Jd X 4 0 [(0, .ref (wad (xw X) 19)), (1, .int v1)] [] σ := by
  unfold rX_fill_ddebts at h
  refine J_iconst (v := (0 : Int32)) hX dJ7_fill_53178_0 (by decide) ?_
  refine K_istore_n (fun v2_1 => [(2, .int v2_1), (0, .ref (wad (xw X) 19)), (1, .int v1)]) hX dJ7_fill_53178_1 rfl (by decide) (fun _ => rfl) h (fun v2_1 h => ?_)
  refine J_aload_n (q := 1) hX dJ7_fill_53178_2 rfl rfl ?_
  refine K_alen hX (xc_19 hw) rfl dJ7_fill_53178_3 ?_
  refine K_istore_n (fun v3_2 => [(3, .int v3_2), (2, .int v2_1), (0, .ref (wad (xw X) 19)), (1, .int v1)]) hX dJ7_fill_53178_4 rfl (by decide) (fun _ => rfl) h (fun v3_2 h => ?_)
  refine J_sub [2, 3, 1, 0] rfl ?_
  exact tX_fill_ddebts_5 hX hw hg hR hr fu v1 v2_1 v3_2 σ h
theorem ctX_fill_ddebts {w : WT} (hw : isX w) {v1 : Int32} {σ : St} {τ : St} (h : rX_fill_ddebts v1 σ = some τ) : Ct yJ7_fill_53178 cJ7_fill_53178 4 none 0 0 w [.ref (wad w 19), .int v1] σ none τ 0 0 :=
  Ct_intro (fun _ => (0, 0)) (by decide) rfl ⟨rfl, Nat.le_refl _⟩ (Nat.le_of_ble_eq_true rfl) (fun X hX hR hwX hg hr => by subst hwX; exact tX_fill_ddebts hX hw hg hR hr v1 σ h)

def rX_fill_gone_5 (k5 : Int32 → Int32 → Int32 → St → Option (St)) (v1 : Int32) (v2 : Int32) (v3 : Int32) (σ : St) : Option (St) :=
  brc (v3 ≤ v2) (some σ) (chk (ib v2 6) (nm (setI σ 35 v2.toNatClampNeg v1) fun σ_3 => nm (v2 + Int32.ofInt 1) fun v2_4 => k5 v1 v2_4 v3 σ_3))
set_option maxRecDepth 100000 in
theorem tX_fill_gone_5b {X : CX} (hX : gd X cJ7_fill_53178 4 RJ7 none) (hw : isX (xw X)) (hg : nA X) (hR : xR X = rmOf 0 0 0 0) {τ : St} (hr : xr X = (none, τ)) {k5 : Int32 → Int32 → Int32 → St → Option (St)} (hk5 : (∀ (v1 : Int32) (v2 : Int32) (v3 : Int32) (σ : St), k5 v1 v2 v3 σ = some τ → Jd X 4 5 [(0, .ref (wad (xw X) 35)), (1, .int v1), (2, .int v2), (3, .int v3)] [] σ)) (v1 : Int32) (v2 : Int32) (v3 : Int32) (σ : St) (h : rX_fill_gone_5 k5 v1 v2 v3 σ = some τ) : Jd X 4 5 [(0, .ref (wad (xw X) 35)), (1, .int v1), (2, .int v2), (3, .int v3)] [] σ := by
  unfold rX_fill_gone_5 at h
  refine J_iload_n (q := 2) hX dJ7_fill_53178_5 rfl rfl ?_
  refine J_iload_n (q := 3) hX dJ7_fill_53178_6 rfl rfl ?_
  refine K_icmp_ge (tgt := 20) hX dJ7_fill_53178_7 rfl h (fun h => ?_) (fun h => ?_)
  · exact K_vret hX hr dJ7_fill_53178_20 h
  · refine J_aload_n (q := 0) hX dJ7_fill_53178_10 rfl rfl ?_
    refine J_iload_n (q := 2) hX dJ7_fill_53178_11 rfl rfl ?_
    refine J_iload_n (q := 1) hX dJ7_fill_53178_12 rfl rfl ?_
    refine K_iast hX (xc_35 hw) dJ7_fill_53178_13 h (fun σ_3 h => ?_)
    refine K_iinc (q := 2) (fun v2_4 => [(2, .int v2_4), (0, .ref (wad (xw X) 35)), (1, .int v1), (3, .int v3)]) hX dJ7_fill_53178_14 rfl (by decide) (fun _ => rfl) h (fun v2_4 h => ?_)
    refine J_goto (tgt := 5) hX dJ7_fill_53178_17 rfl ?_
    refine J_sub [1, 2, 0, 3] rfl ?_
    exact hk5 v1 v2_4 v3 σ_3 h
def rX_fill_gone_5L : ((Int32 × Int32 × Int32 × St) → Option (St)) → (Int32 × Int32 × Int32 × St) → Option (St) := fun k a => rX_fill_gone_5 (fun v1 v2 v3 σ => k (v1, v2, v3, σ)) a.1 a.2.1 a.2.2.1 a.2.2.2
theorem tX_fill_gone_5 {X : CX} (hX : gd X cJ7_fill_53178 4 RJ7 none) (hw : isX (xw X)) (hg : nA X) (hR : xR X = rmOf 0 0 0 0) {τ : St} (hr : xr X = (none, τ)) (n : Nat) (v1 : Int32) (v2 : Int32) (v3 : Int32) (σ : St) (h : lp (rX_fill_gone_5L) n (v1, v2, v3, σ) = some τ) : Jd X 4 5 [(0, .ref (wad (xw X) 35)), (1, .int v1), (2, .int v2), (3, .int v3)] [] σ :=
  lp_ind (F := rX_fill_gone_5L) (P := fun a => Jd X 4 5 [(0, .ref (wad (xw X) 35)), (1, .int a.1), (2, .int a.2.1), (3, .int a.2.2.1)] [] a.2.2.2) (fun k a hk h => tX_fill_gone_5b hX hw hg hR hr (fun v1 v2 v3 σ h => hk (v1, v2, v3, σ) h) a.1 a.2.1 a.2.2.1 a.2.2.2 h) n (v1, v2, v3, σ) h

def rX_fill_gone (v1 : Int32) (σ : St) : Option (St) :=
  nm (0 : Int32) fun v2_1 => nm (nI 6) fun v3_2 => lp (rX_fill_gone_5L) fu (v1, v2_1, v3_2, σ)
set_option maxRecDepth 100000 in
theorem tX_fill_gone {X : CX} (hX : gd X cJ7_fill_53178 4 RJ7 none) (hw : isX (xw X)) (hg : nA X) (hR : xR X = rmOf 0 0 0 0) {τ : St} (hr : xr X = (none, τ)) (v1 : Int32) (σ : St) (h : rX_fill_gone v1 σ = some τ) : Jd X 4 0 [(0, .ref (wad (xw X) 35)), (1, .int v1)] [] σ := by
  unfold rX_fill_gone at h
  refine J_iconst (v := (0 : Int32)) hX dJ7_fill_53178_0 (by decide) ?_
  refine K_istore_n (fun v2_1 => [(2, .int v2_1), (0, .ref (wad (xw X) 35)), (1, .int v1)]) hX dJ7_fill_53178_1 rfl (by decide) (fun _ => rfl) h (fun v2_1 h => ?_)
  refine J_aload_n (q := 1) hX dJ7_fill_53178_2 rfl rfl ?_
  refine K_alen hX (xc_35 hw) rfl dJ7_fill_53178_3 ?_
  refine K_istore_n (fun v3_2 => [(3, .int v3_2), (2, .int v2_1), (0, .ref (wad (xw X) 35)), (1, .int v1)]) hX dJ7_fill_53178_4 rfl (by decide) (fun _ => rfl) h (fun v3_2 h => ?_)
  refine J_sub [2, 3, 1, 0] rfl ?_
  exact tX_fill_gone_5 hX hw hg hR hr fu v1 v2_1 v3_2 σ h
theorem ctX_fill_gone {w : WT} (hw : isX w) {v1 : Int32} {σ : St} {τ : St} (h : rX_fill_gone v1 σ = some τ) : Ct yJ7_fill_53178 cJ7_fill_53178 4 none 0 0 w [.ref (wad w 35), .int v1] σ none τ 0 0 :=
  Ct_intro (fun _ => (0, 0)) (by decide) rfl ⟨rfl, Nat.le_refl _⟩ (Nat.le_of_ble_eq_true rfl) (fun X hX hR hwX hg hr => by subst hwX; exact tX_fill_gone hX hw hg hR hr v1 σ h)

def rX_fill_paid_5 (k5 : Int32 → Int32 → Int32 → St → Option (St)) (v1 : Int32) (v2 : Int32) (v3 : Int32) (σ : St) : Option (St) :=
  brc (v3 ≤ v2) (some σ) (chk (ib v2 6) (nm (setI σ 36 v2.toNatClampNeg v1) fun σ_3 => nm (v2 + Int32.ofInt 1) fun v2_4 => k5 v1 v2_4 v3 σ_3))
set_option maxRecDepth 100000 in
theorem tX_fill_paid_5b {X : CX} (hX : gd X cJ7_fill_53178 4 RJ7 none) (hw : isX (xw X)) (hg : nA X) (hR : xR X = rmOf 0 0 0 0) {τ : St} (hr : xr X = (none, τ)) {k5 : Int32 → Int32 → Int32 → St → Option (St)} (hk5 : (∀ (v1 : Int32) (v2 : Int32) (v3 : Int32) (σ : St), k5 v1 v2 v3 σ = some τ → Jd X 4 5 [(0, .ref (wad (xw X) 36)), (1, .int v1), (2, .int v2), (3, .int v3)] [] σ)) (v1 : Int32) (v2 : Int32) (v3 : Int32) (σ : St) (h : rX_fill_paid_5 k5 v1 v2 v3 σ = some τ) : Jd X 4 5 [(0, .ref (wad (xw X) 36)), (1, .int v1), (2, .int v2), (3, .int v3)] [] σ := by
  unfold rX_fill_paid_5 at h
  refine J_iload_n (q := 2) hX dJ7_fill_53178_5 rfl rfl ?_
  refine J_iload_n (q := 3) hX dJ7_fill_53178_6 rfl rfl ?_
  refine K_icmp_ge (tgt := 20) hX dJ7_fill_53178_7 rfl h (fun h => ?_) (fun h => ?_)
  · exact K_vret hX hr dJ7_fill_53178_20 h
  · refine J_aload_n (q := 0) hX dJ7_fill_53178_10 rfl rfl ?_
    refine J_iload_n (q := 2) hX dJ7_fill_53178_11 rfl rfl ?_
    refine J_iload_n (q := 1) hX dJ7_fill_53178_12 rfl rfl ?_
    refine K_iast hX (xc_36 hw) dJ7_fill_53178_13 h (fun σ_3 h => ?_)
    refine K_iinc (q := 2) (fun v2_4 => [(2, .int v2_4), (0, .ref (wad (xw X) 36)), (1, .int v1), (3, .int v3)]) hX dJ7_fill_53178_14 rfl (by decide) (fun _ => rfl) h (fun v2_4 h => ?_)
    refine J_goto (tgt := 5) hX dJ7_fill_53178_17 rfl ?_
    refine J_sub [1, 2, 0, 3] rfl ?_
    exact hk5 v1 v2_4 v3 σ_3 h
def rX_fill_paid_5L : ((Int32 × Int32 × Int32 × St) → Option (St)) → (Int32 × Int32 × Int32 × St) → Option (St) := fun k a => rX_fill_paid_5 (fun v1 v2 v3 σ => k (v1, v2, v3, σ)) a.1 a.2.1 a.2.2.1 a.2.2.2
theorem tX_fill_paid_5 {X : CX} (hX : gd X cJ7_fill_53178 4 RJ7 none) (hw : isX (xw X)) (hg : nA X) (hR : xR X = rmOf 0 0 0 0) {τ : St} (hr : xr X = (none, τ)) (n : Nat) (v1 : Int32) (v2 : Int32) (v3 : Int32) (σ : St) (h : lp (rX_fill_paid_5L) n (v1, v2, v3, σ) = some τ) : Jd X 4 5 [(0, .ref (wad (xw X) 36)), (1, .int v1), (2, .int v2), (3, .int v3)] [] σ :=
  lp_ind (F := rX_fill_paid_5L) (P := fun a => Jd X 4 5 [(0, .ref (wad (xw X) 36)), (1, .int a.1), (2, .int a.2.1), (3, .int a.2.2.1)] [] a.2.2.2) (fun k a hk h => tX_fill_paid_5b hX hw hg hR hr (fun v1 v2 v3 σ h => hk (v1, v2, v3, σ) h) a.1 a.2.1 a.2.2.1 a.2.2.2 h) n (v1, v2, v3, σ) h

def rX_fill_paid (v1 : Int32) (σ : St) : Option (St) :=
  nm (0 : Int32) fun v2_1 => nm (nI 6) fun v3_2 => lp (rX_fill_paid_5L) fu (v1, v2_1, v3_2, σ)
set_option maxRecDepth 100000 in
theorem tX_fill_paid {X : CX} (hX : gd X cJ7_fill_53178 4 RJ7 none) (hw : isX (xw X)) (hg : nA X) (hR : xR X = rmOf 0 0 0 0) {τ : St} (hr : xr X = (none, τ)) (v1 : Int32) (σ : St) (h : rX_fill_paid v1 σ = some τ) : Jd X 4 0 [(0, .ref (wad (xw X) 36)), (1, .int v1)] [] σ := by
  unfold rX_fill_paid at h
  refine J_iconst (v := (0 : Int32)) hX dJ7_fill_53178_0 (by decide) ?_
  refine K_istore_n (fun v2_1 => [(2, .int v2_1), (0, .ref (wad (xw X) 36)), (1, .int v1)]) hX dJ7_fill_53178_1 rfl (by decide) (fun _ => rfl) h (fun v2_1 h => ?_)
  refine J_aload_n (q := 1) hX dJ7_fill_53178_2 rfl rfl ?_
  refine K_alen hX (xc_36 hw) rfl dJ7_fill_53178_3 ?_
  refine K_istore_n (fun v3_2 => [(3, .int v3_2), (2, .int v2_1), (0, .ref (wad (xw X) 36)), (1, .int v1)]) hX dJ7_fill_53178_4 rfl (by decide) (fun _ => rfl) h (fun v3_2 h => ?_)
  refine J_sub [2, 3, 1, 0] rfl ?_
  exact tX_fill_paid_5 hX hw hg hR hr fu v1 v2_1 v3_2 σ h
theorem ctX_fill_paid {w : WT} (hw : isX w) {v1 : Int32} {σ : St} {τ : St} (h : rX_fill_paid v1 σ = some τ) : Ct yJ7_fill_53178 cJ7_fill_53178 4 none 0 0 w [.ref (wad w 36), .int v1] σ none τ 0 0 :=
  Ct_intro (fun _ => (0, 0)) (by decide) rfl ⟨rfl, Nat.le_refl _⟩ (Nat.le_of_ble_eq_true rfl) (fun X hX hR hwX hg hr => by subst hwX; exact tX_fill_paid hX hw hg hR hr v1 σ h)

def rX_fill_patches_5 (k5 : Int32 → Int32 → Int32 → St → Option (St)) (v1 : Int32) (v2 : Int32) (v3 : Int32) (σ : St) : Option (St) :=
  brc (v3 ≤ v2) (some σ) (chk (ib v2 6) (nm (setI σ 37 v2.toNatClampNeg v1) fun σ_3 => nm (v2 + Int32.ofInt 1) fun v2_4 => k5 v1 v2_4 v3 σ_3))
set_option maxRecDepth 100000 in
theorem tX_fill_patches_5b {X : CX} (hX : gd X cJ7_fill_53178 4 RJ7 none) (hw : isX (xw X)) (hg : nA X) (hR : xR X = rmOf 0 0 0 0) {τ : St} (hr : xr X = (none, τ)) {k5 : Int32 → Int32 → Int32 → St → Option (St)} (hk5 : (∀ (v1 : Int32) (v2 : Int32) (v3 : Int32) (σ : St), k5 v1 v2 v3 σ = some τ → Jd X 4 5 [(0, .ref (wad (xw X) 37)), (1, .int v1), (2, .int v2), (3, .int v3)] [] σ)) (v1 : Int32) (v2 : Int32) (v3 : Int32) (σ : St) (h : rX_fill_patches_5 k5 v1 v2 v3 σ = some τ) : Jd X 4 5 [(0, .ref (wad (xw X) 37)), (1, .int v1), (2, .int v2), (3, .int v3)] [] σ := by
  unfold rX_fill_patches_5 at h
  refine J_iload_n (q := 2) hX dJ7_fill_53178_5 rfl rfl ?_
  refine J_iload_n (q := 3) hX dJ7_fill_53178_6 rfl rfl ?_
  refine K_icmp_ge (tgt := 20) hX dJ7_fill_53178_7 rfl h (fun h => ?_) (fun h => ?_)
  · exact K_vret hX hr dJ7_fill_53178_20 h
  · refine J_aload_n (q := 0) hX dJ7_fill_53178_10 rfl rfl ?_
    refine J_iload_n (q := 2) hX dJ7_fill_53178_11 rfl rfl ?_
    refine J_iload_n (q := 1) hX dJ7_fill_53178_12 rfl rfl ?_
    refine K_iast hX (xc_37 hw) dJ7_fill_53178_13 h (fun σ_3 h => ?_)
    refine K_iinc (q := 2) (fun v2_4 => [(2, .int v2_4), (0, .ref (wad (xw X) 37)), (1, .int v1), (3, .int v3)]) hX dJ7_fill_53178_14 rfl (by decide) (fun _ => rfl) h (fun v2_4 h => ?_)
    refine J_goto (tgt := 5) hX dJ7_fill_53178_17 rfl ?_
    refine J_sub [1, 2, 0, 3] rfl ?_
    exact hk5 v1 v2_4 v3 σ_3 h
def rX_fill_patches_5L : ((Int32 × Int32 × Int32 × St) → Option (St)) → (Int32 × Int32 × Int32 × St) → Option (St) := fun k a => rX_fill_patches_5 (fun v1 v2 v3 σ => k (v1, v2, v3, σ)) a.1 a.2.1 a.2.2.1 a.2.2.2
theorem tX_fill_patches_5 {X : CX} (hX : gd X cJ7_fill_53178 4 RJ7 none) (hw : isX (xw X)) (hg : nA X) (hR : xR X = rmOf 0 0 0 0) {τ : St} (hr : xr X = (none, τ)) (n : Nat) (v1 : Int32) (v2 : Int32) (v3 : Int32) (σ : St) (h : lp (rX_fill_patches_5L) n (v1, v2, v3, σ) = some τ) : Jd X 4 5 [(0, .ref (wad (xw X) 37)), (1, .int v1), (2, .int v2), (3, .int v3)] [] σ :=
  lp_ind (F := rX_fill_patches_5L) (P := fun a => Jd X 4 5 [(0, .ref (wad (xw X) 37)), (1, .int a.1), (2, .int a.2.1), (3, .int a.2.2.1)] [] a.2.2.2) (fun k a hk h => tX_fill_patches_5b hX hw hg hR hr (fun v1 v2 v3 σ h => hk (v1, v2, v3, σ) h) a.1 a.2.1 a.2.2.1 a.2.2.2 h) n (v1, v2, v3, σ) h

def rX_fill_patches (v1 : Int32) (σ : St) : Option (St) :=
  nm (0 : Int32) fun v2_1 => nm (nI 6) fun v3_2 => lp (rX_fill_patches_5L) fu (v1, v2_1, v3_2, σ)
set_option maxRecDepth 100000 in
theorem tX_fill_patches {X : CX} (hX : gd X cJ7_fill_53178 4 RJ7 none) (hw : isX (xw X)) (hg : nA X) (hR : xR X = rmOf 0 0 0 0) {τ : St} (hr : xr X = (none, τ)) (v1 : Int32) (σ : St) (h : rX_fill_patches v1 σ = some τ) : Jd X 4 0 [(0, .ref (wad (xw X) 37)), (1, .int v1)] [] σ := by
  unfold rX_fill_patches at h
  refine J_iconst (v := (0 : Int32)) hX dJ7_fill_53178_0 (by decide) ?_
  refine K_istore_n (fun v2_1 => [(2, .int v2_1), (0, .ref (wad (xw X) 37)), (1, .int v1)]) hX dJ7_fill_53178_1 rfl (by decide) (fun _ => rfl) h (fun v2_1 h => ?_)
  refine J_aload_n (q := 1) hX dJ7_fill_53178_2 rfl rfl ?_
  refine K_alen hX (xc_37 hw) rfl dJ7_fill_53178_3 ?_
  refine K_istore_n (fun v3_2 => [(3, .int v3_2), (2, .int v2_1), (0, .ref (wad (xw X) 37)), (1, .int v1)]) hX dJ7_fill_53178_4 rfl (by decide) (fun _ => rfl) h (fun v3_2 h => ?_)
  refine J_sub [2, 3, 1, 0] rfl ?_
  exact tX_fill_patches_5 hX hw hg hR hr fu v1 v2_1 v3_2 σ h
theorem ctX_fill_patches {w : WT} (hw : isX w) {v1 : Int32} {σ : St} {τ : St} (h : rX_fill_patches v1 σ = some τ) : Ct yJ7_fill_53178 cJ7_fill_53178 4 none 0 0 w [.ref (wad w 37), .int v1] σ none τ 0 0 :=
  Ct_intro (fun _ => (0, 0)) (by decide) rfl ⟨rfl, Nat.le_refl _⟩ (Nat.le_of_ble_eq_true rfl) (fun X hX hR hwX hg hr => by subst hwX; exact tX_fill_patches hX hw hg hR hr v1 σ h)

def rX_fill_from_5 (k5 : Int32 → Int32 → Int32 → St → Option (St)) (v1 : Int32) (v2 : Int32) (v3 : Int32) (σ : St) : Option (St) :=
  brc (v3 ≤ v2) (some σ) (chk (ib v2 1407) (nm (setI σ 51 v2.toNatClampNeg v1) fun σ_3 => nm (v2 + Int32.ofInt 1) fun v2_4 => k5 v1 v2_4 v3 σ_3))
set_option maxRecDepth 100000 in
theorem tX_fill_from_5b {X : CX} (hX : gd X cJ7_fill_53178 4 RJ7 none) (hw : isX (xw X)) (hg : nA X) (hR : xR X = rmOf 0 0 0 0) {τ : St} (hr : xr X = (none, τ)) {k5 : Int32 → Int32 → Int32 → St → Option (St)} (hk5 : (∀ (v1 : Int32) (v2 : Int32) (v3 : Int32) (σ : St), k5 v1 v2 v3 σ = some τ → Jd X 4 5 [(0, .ref (wad (xw X) 51)), (1, .int v1), (2, .int v2), (3, .int v3)] [] σ)) (v1 : Int32) (v2 : Int32) (v3 : Int32) (σ : St) (h : rX_fill_from_5 k5 v1 v2 v3 σ = some τ) : Jd X 4 5 [(0, .ref (wad (xw X) 51)), (1, .int v1), (2, .int v2), (3, .int v3)] [] σ := by
  unfold rX_fill_from_5 at h
  refine J_iload_n (q := 2) hX dJ7_fill_53178_5 rfl rfl ?_
  refine J_iload_n (q := 3) hX dJ7_fill_53178_6 rfl rfl ?_
  refine K_icmp_ge (tgt := 20) hX dJ7_fill_53178_7 rfl h (fun h => ?_) (fun h => ?_)
  · exact K_vret hX hr dJ7_fill_53178_20 h
  · refine J_aload_n (q := 0) hX dJ7_fill_53178_10 rfl rfl ?_
    refine J_iload_n (q := 2) hX dJ7_fill_53178_11 rfl rfl ?_
    refine J_iload_n (q := 1) hX dJ7_fill_53178_12 rfl rfl ?_
    refine K_iast hX (xc_51 hw) dJ7_fill_53178_13 h (fun σ_3 h => ?_)
    refine K_iinc (q := 2) (fun v2_4 => [(2, .int v2_4), (0, .ref (wad (xw X) 51)), (1, .int v1), (3, .int v3)]) hX dJ7_fill_53178_14 rfl (by decide) (fun _ => rfl) h (fun v2_4 h => ?_)
    refine J_goto (tgt := 5) hX dJ7_fill_53178_17 rfl ?_
    refine J_sub [1, 2, 0, 3] rfl ?_
    exact hk5 v1 v2_4 v3 σ_3 h
def rX_fill_from_5L : ((Int32 × Int32 × Int32 × St) → Option (St)) → (Int32 × Int32 × Int32 × St) → Option (St) := fun k a => rX_fill_from_5 (fun v1 v2 v3 σ => k (v1, v2, v3, σ)) a.1 a.2.1 a.2.2.1 a.2.2.2
theorem tX_fill_from_5 {X : CX} (hX : gd X cJ7_fill_53178 4 RJ7 none) (hw : isX (xw X)) (hg : nA X) (hR : xR X = rmOf 0 0 0 0) {τ : St} (hr : xr X = (none, τ)) (n : Nat) (v1 : Int32) (v2 : Int32) (v3 : Int32) (σ : St) (h : lp (rX_fill_from_5L) n (v1, v2, v3, σ) = some τ) : Jd X 4 5 [(0, .ref (wad (xw X) 51)), (1, .int v1), (2, .int v2), (3, .int v3)] [] σ :=
  lp_ind (F := rX_fill_from_5L) (P := fun a => Jd X 4 5 [(0, .ref (wad (xw X) 51)), (1, .int a.1), (2, .int a.2.1), (3, .int a.2.2.1)] [] a.2.2.2) (fun k a hk h => tX_fill_from_5b hX hw hg hR hr (fun v1 v2 v3 σ h => hk (v1, v2, v3, σ) h) a.1 a.2.1 a.2.2.1 a.2.2.2 h) n (v1, v2, v3, σ) h

def rX_fill_from (v1 : Int32) (σ : St) : Option (St) :=
  nm (0 : Int32) fun v2_1 => nm (nI 1407) fun v3_2 => lp (rX_fill_from_5L) fu (v1, v2_1, v3_2, σ)
set_option maxRecDepth 100000 in
theorem tX_fill_from {X : CX} (hX : gd X cJ7_fill_53178 4 RJ7 none) (hw : isX (xw X)) (hg : nA X) (hR : xR X = rmOf 0 0 0 0) {τ : St} (hr : xr X = (none, τ)) (v1 : Int32) (σ : St) (h : rX_fill_from v1 σ = some τ) : Jd X 4 0 [(0, .ref (wad (xw X) 51)), (1, .int v1)] [] σ := by
  unfold rX_fill_from at h
  refine J_iconst (v := (0 : Int32)) hX dJ7_fill_53178_0 (by decide) ?_
  refine K_istore_n (fun v2_1 => [(2, .int v2_1), (0, .ref (wad (xw X) 51)), (1, .int v1)]) hX dJ7_fill_53178_1 rfl (by decide) (fun _ => rfl) h (fun v2_1 h => ?_)
  refine J_aload_n (q := 1) hX dJ7_fill_53178_2 rfl rfl ?_
  refine K_alen hX (xc_51 hw) rfl dJ7_fill_53178_3 ?_
  refine K_istore_n (fun v3_2 => [(3, .int v3_2), (2, .int v2_1), (0, .ref (wad (xw X) 51)), (1, .int v1)]) hX dJ7_fill_53178_4 rfl (by decide) (fun _ => rfl) h (fun v3_2 h => ?_)
  refine J_sub [2, 3, 1, 0] rfl ?_
  exact tX_fill_from_5 hX hw hg hR hr fu v1 v2_1 v3_2 σ h
theorem ctX_fill_from {w : WT} (hw : isX w) {v1 : Int32} {σ : St} {τ : St} (h : rX_fill_from v1 σ = some τ) : Ct yJ7_fill_53178 cJ7_fill_53178 4 none 0 0 w [.ref (wad w 51), .int v1] σ none τ 0 0 :=
  Ct_intro (fun _ => (0, 0)) (by decide) rfl ⟨rfl, Nat.le_refl _⟩ (Nat.le_of_ble_eq_true rfl) (fun X hX hR hwX hg hr => by subst hwX; exact tX_fill_from hX hw hg hR hr v1 σ h)

def rX_fill_setsWith_5 (k5 : Int32 → Int32 → Int32 → St → Option (St)) (v1 : Int32) (v2 : Int32) (v3 : Int32) (σ : St) : Option (St) :=
  brc (v3 ≤ v2) (some σ) (chk (ib v2 6) (nm (setI σ 58 v2.toNatClampNeg v1) fun σ_3 => nm (v2 + Int32.ofInt 1) fun v2_4 => k5 v1 v2_4 v3 σ_3))
set_option maxRecDepth 100000 in
theorem tX_fill_setsWith_5b {X : CX} (hX : gd X cJ7_fill_53178 4 RJ7 none) (hw : isX (xw X)) (hg : nA X) (hR : xR X = rmOf 0 0 0 0) {τ : St} (hr : xr X = (none, τ)) {k5 : Int32 → Int32 → Int32 → St → Option (St)} (hk5 : (∀ (v1 : Int32) (v2 : Int32) (v3 : Int32) (σ : St), k5 v1 v2 v3 σ = some τ → Jd X 4 5 [(0, .ref (wad (xw X) 58)), (1, .int v1), (2, .int v2), (3, .int v3)] [] σ)) (v1 : Int32) (v2 : Int32) (v3 : Int32) (σ : St) (h : rX_fill_setsWith_5 k5 v1 v2 v3 σ = some τ) : Jd X 4 5 [(0, .ref (wad (xw X) 58)), (1, .int v1), (2, .int v2), (3, .int v3)] [] σ := by
  unfold rX_fill_setsWith_5 at h
  refine J_iload_n (q := 2) hX dJ7_fill_53178_5 rfl rfl ?_
  refine J_iload_n (q := 3) hX dJ7_fill_53178_6 rfl rfl ?_
  refine K_icmp_ge (tgt := 20) hX dJ7_fill_53178_7 rfl h (fun h => ?_) (fun h => ?_)
  · exact K_vret hX hr dJ7_fill_53178_20 h
  · refine J_aload_n (q := 0) hX dJ7_fill_53178_10 rfl rfl ?_
    refine J_iload_n (q := 2) hX dJ7_fill_53178_11 rfl rfl ?_
    refine J_iload_n (q := 1) hX dJ7_fill_53178_12 rfl rfl ?_
    refine K_iast hX (xc_58 hw) dJ7_fill_53178_13 h (fun σ_3 h => ?_)
    refine K_iinc (q := 2) (fun v2_4 => [(2, .int v2_4), (0, .ref (wad (xw X) 58)), (1, .int v1), (3, .int v3)]) hX dJ7_fill_53178_14 rfl (by decide) (fun _ => rfl) h (fun v2_4 h => ?_)
    refine J_goto (tgt := 5) hX dJ7_fill_53178_17 rfl ?_
    refine J_sub [1, 2, 0, 3] rfl ?_
    exact hk5 v1 v2_4 v3 σ_3 h
def rX_fill_setsWith_5L : ((Int32 × Int32 × Int32 × St) → Option (St)) → (Int32 × Int32 × Int32 × St) → Option (St) := fun k a => rX_fill_setsWith_5 (fun v1 v2 v3 σ => k (v1, v2, v3, σ)) a.1 a.2.1 a.2.2.1 a.2.2.2
theorem tX_fill_setsWith_5 {X : CX} (hX : gd X cJ7_fill_53178 4 RJ7 none) (hw : isX (xw X)) (hg : nA X) (hR : xR X = rmOf 0 0 0 0) {τ : St} (hr : xr X = (none, τ)) (n : Nat) (v1 : Int32) (v2 : Int32) (v3 : Int32) (σ : St) (h : lp (rX_fill_setsWith_5L) n (v1, v2, v3, σ) = some τ) : Jd X 4 5 [(0, .ref (wad (xw X) 58)), (1, .int v1), (2, .int v2), (3, .int v3)] [] σ :=
  lp_ind (F := rX_fill_setsWith_5L) (P := fun a => Jd X 4 5 [(0, .ref (wad (xw X) 58)), (1, .int a.1), (2, .int a.2.1), (3, .int a.2.2.1)] [] a.2.2.2) (fun k a hk h => tX_fill_setsWith_5b hX hw hg hR hr (fun v1 v2 v3 σ h => hk (v1, v2, v3, σ) h) a.1 a.2.1 a.2.2.1 a.2.2.2 h) n (v1, v2, v3, σ) h

def rX_fill_setsWith (v1 : Int32) (σ : St) : Option (St) :=
  nm (0 : Int32) fun v2_1 => nm (nI 6) fun v3_2 => lp (rX_fill_setsWith_5L) fu (v1, v2_1, v3_2, σ)
set_option maxRecDepth 100000 in
theorem tX_fill_setsWith {X : CX} (hX : gd X cJ7_fill_53178 4 RJ7 none) (hw : isX (xw X)) (hg : nA X) (hR : xR X = rmOf 0 0 0 0) {τ : St} (hr : xr X = (none, τ)) (v1 : Int32) (σ : St) (h : rX_fill_setsWith v1 σ = some τ) : Jd X 4 0 [(0, .ref (wad (xw X) 58)), (1, .int v1)] [] σ := by
  unfold rX_fill_setsWith at h
  refine J_iconst (v := (0 : Int32)) hX dJ7_fill_53178_0 (by decide) ?_
  refine K_istore_n (fun v2_1 => [(2, .int v2_1), (0, .ref (wad (xw X) 58)), (1, .int v1)]) hX dJ7_fill_53178_1 rfl (by decide) (fun _ => rfl) h (fun v2_1 h => ?_)
  refine J_aload_n (q := 1) hX dJ7_fill_53178_2 rfl rfl ?_
  refine K_alen hX (xc_58 hw) rfl dJ7_fill_53178_3 ?_
  refine K_istore_n (fun v3_2 => [(3, .int v3_2), (2, .int v2_1), (0, .ref (wad (xw X) 58)), (1, .int v1)]) hX dJ7_fill_53178_4 rfl (by decide) (fun _ => rfl) h (fun v3_2 h => ?_)
  refine J_sub [2, 3, 1, 0] rfl ?_
  exact tX_fill_setsWith_5 hX hw hg hR hr fu v1 v2_1 v3_2 σ h
theorem ctX_fill_setsWith {w : WT} (hw : isX w) {v1 : Int32} {σ : St} {τ : St} (h : rX_fill_setsWith v1 σ = some τ) : Ct yJ7_fill_53178 cJ7_fill_53178 4 none 0 0 w [.ref (wad w 58), .int v1] σ none τ 0 0 :=
  Ct_intro (fun _ => (0, 0)) (by decide) rfl ⟨rfl, Nat.le_refl _⟩ (Nat.le_of_ble_eq_true rfl) (fun X hX hR hwX hg hr => by subst hwX; exact tX_fill_setsWith hX hw hg hR hr v1 σ h)

def rX_hasStation_17 (s0 : Int32) (σ : St) : Option (Int32 × St) :=
  chk (decide (s0 = 0 ∨ s0 = 1)) (some (s0, σ))
set_option maxRecDepth 100000 in
theorem tX_hasStation_17 {X : CX} (hX : gd X cX3_hasStation 2 RX3 (some .boolean)) (hw : isX (xw X)) (hg : nA X) (hR : xR X = rmOf 0 0 0 0) {r : Int32} {τ : St} (hr : xr X = (some (.int r), τ)) (s0 : Int32) (σ : St) (h : rX_hasStation_17 s0 σ = some (r, τ)) : Jd X 2 17 [] [.int s0] σ := by
  unfold rX_hasStation_17 at h
  exact K_zret hX hr dX3_hasStation_17 h

def rX_hasStation_16 (σ : St) : Option (Int32 × St) :=
  rX_hasStation_17 (0 : Int32) σ
set_option maxRecDepth 100000 in
theorem tX_hasStation_16 {X : CX} (hX : gd X cX3_hasStation 2 RX3 (some .boolean)) (hw : isX (xw X)) (hg : nA X) (hR : xR X = rmOf 0 0 0 0) {r : Int32} {τ : St} (hr : xr X = (some (.int r), τ)) (σ : St) (h : rX_hasStation_16 σ = some (r, τ)) : Jd X 2 16 [] [] σ := by
  unfold rX_hasStation_16 at h
  refine J_iconst (v := (0 : Int32)) hX dX3_hasStation_16 (by decide) ?_
  refine J_sub [] rfl ?_
  exact tX_hasStation_17 hX hw hg hR hr (0 : Int32) σ h

def rX_hasStation (v1 : Int32) (σ : St) : Option (Int32 × St) :=
  brc (v1 < 0) (rX_hasStation_16 σ) (brc ((σ.1 23 0) ≤ v1) (rX_hasStation_16 σ) (rX_hasStation_17 (1 : Int32) σ))
set_option maxRecDepth 100000 in
theorem tX_hasStation {X : CX} (hX : gd X cX3_hasStation 2 RX3 (some .boolean)) (hw : isX (xw X)) (hg : nA X) (hR : xR X = rmOf 0 0 0 0) {r : Int32} {τ : St} (hr : xr X = (some (.int r), τ)) (v1 : Int32) (σ : St) (h : rX_hasStation v1 σ = some (r, τ)) : Jd X 2 0 [(0, .ref (wad (xw X) 23)), (1, .int v1)] [] σ := by
  unfold rX_hasStation at h
  refine J_iload_n (q := 1) hX dX3_hasStation_0 rfl rfl ?_
  refine K_if_lt (tgt := 16) hX dX3_hasStation_1 rfl h (fun h => ?_) (fun h => ?_)
  · refine J_sub [] rfl ?_
    exact tX_hasStation_16 hX hw hg hR hr σ h
  · refine J_iload_n (q := 1) hX dX3_hasStation_4 rfl rfl ?_
    refine J_aload_n (q := 0) hX dX3_hasStation_5 rfl rfl ?_
    refine K_geti hX (xc_23 hw) cls_X3 (k := 0) (by decide) uw_1_88 rfl dX3_hasStation_6 ?_
    refine K_icmp_ge (tgt := 16) hX dX3_hasStation_9 rfl h (fun h => ?_) (fun h => ?_)
    · refine J_sub [] rfl ?_
      exact tX_hasStation_16 hX hw hg hR hr σ h
    · refine J_iconst (v := (1 : Int32)) hX dX3_hasStation_12 (by decide) ?_
      refine J_goto (tgt := 17) hX dX3_hasStation_13 rfl ?_
      refine J_sub [] rfl ?_
      exact tX_hasStation_17 hX hw hg hR hr (1 : Int32) σ h
theorem ctX_hasStation {w : WT} (hw : isX w) {v1 : Int32} {σ : St} {r : Int32} {τ : St} (h : rX_hasStation v1 σ = some (r, τ)) : Ct yX3_hasStation cX3_hasStation 2 (some .boolean) 0 0 w [.ref (wad w 23), .int v1] σ (some (.int r)) τ 0 0 :=
  Ct_intro (fun _ => (0, 0)) (by decide) rfl ⟨rfl, Nat.le_refl _⟩ (Nat.le_of_ble_eq_true rfl) (fun X hX hR hwX hg hr => by subst hwX; exact tX_hasStation hX hw hg hR hr v1 σ h)

def rX_hasCarrier_17 (s0 : Int32) (σ : St) : Option (Int32 × St) :=
  chk (decide (s0 = 0 ∨ s0 = 1)) (some (s0, σ))
set_option maxRecDepth 100000 in
theorem tX_hasCarrier_17 {X : CX} (hX : gd X cX3_hasCarrier 2 RX3 (some .boolean)) (hw : isX (xw X)) (hg : nA X) (hR : xR X = rmOf 0 0 0 0) {r : Int32} {τ : St} (hr : xr X = (some (.int r), τ)) (s0 : Int32) (σ : St) (h : rX_hasCarrier_17 s0 σ = some (r, τ)) : Jd X 2 17 [] [.int s0] σ := by
  unfold rX_hasCarrier_17 at h
  exact K_zret hX hr dX3_hasCarrier_17 h

def rX_hasCarrier_16 (σ : St) : Option (Int32 × St) :=
  rX_hasCarrier_17 (0 : Int32) σ
set_option maxRecDepth 100000 in
theorem tX_hasCarrier_16 {X : CX} (hX : gd X cX3_hasCarrier 2 RX3 (some .boolean)) (hw : isX (xw X)) (hg : nA X) (hR : xR X = rmOf 0 0 0 0) {r : Int32} {τ : St} (hr : xr X = (some (.int r), τ)) (σ : St) (h : rX_hasCarrier_16 σ = some (r, τ)) : Jd X 2 16 [] [] σ := by
  unfold rX_hasCarrier_16 at h
  refine J_iconst (v := (0 : Int32)) hX dX3_hasCarrier_16 (by decide) ?_
  refine J_sub [] rfl ?_
  exact tX_hasCarrier_17 hX hw hg hR hr (0 : Int32) σ h

def rX_hasCarrier (v1 : Int32) (σ : St) : Option (Int32 × St) :=
  brc (v1 < 0) (rX_hasCarrier_16 σ) (brc ((σ.1 23 2) ≤ v1) (rX_hasCarrier_16 σ) (rX_hasCarrier_17 (1 : Int32) σ))
set_option maxRecDepth 100000 in
theorem tX_hasCarrier {X : CX} (hX : gd X cX3_hasCarrier 2 RX3 (some .boolean)) (hw : isX (xw X)) (hg : nA X) (hR : xR X = rmOf 0 0 0 0) {r : Int32} {τ : St} (hr : xr X = (some (.int r), τ)) (v1 : Int32) (σ : St) (h : rX_hasCarrier v1 σ = some (r, τ)) : Jd X 2 0 [(0, .ref (wad (xw X) 23)), (1, .int v1)] [] σ := by
  unfold rX_hasCarrier at h
  refine J_iload_n (q := 1) hX dX3_hasCarrier_0 rfl rfl ?_
  refine K_if_lt (tgt := 16) hX dX3_hasCarrier_1 rfl h (fun h => ?_) (fun h => ?_)
  · refine J_sub [] rfl ?_
    exact tX_hasCarrier_16 hX hw hg hR hr σ h
  · refine J_iload_n (q := 1) hX dX3_hasCarrier_4 rfl rfl ?_
    refine J_aload_n (q := 0) hX dX3_hasCarrier_5 rfl rfl ?_
    refine K_geti hX (xc_23 hw) cls_X3 (k := 2) (by decide) uw_1_96 rfl dX3_hasCarrier_6 ?_
    refine K_icmp_ge (tgt := 16) hX dX3_hasCarrier_9 rfl h (fun h => ?_) (fun h => ?_)
    · refine J_sub [] rfl ?_
      exact tX_hasCarrier_16 hX hw hg hR hr σ h
    · refine J_iconst (v := (1 : Int32)) hX dX3_hasCarrier_12 (by decide) ?_
      refine J_goto (tgt := 17) hX dX3_hasCarrier_13 rfl ?_
      refine J_sub [] rfl ?_
      exact tX_hasCarrier_17 hX hw hg hR hr (1 : Int32) σ h
theorem ctX_hasCarrier {w : WT} (hw : isX w) {v1 : Int32} {σ : St} {r : Int32} {τ : St} (h : rX_hasCarrier v1 σ = some (r, τ)) : Ct yX3_hasCarrier cX3_hasCarrier 2 (some .boolean) 0 0 w [.ref (wad w 23), .int v1] σ (some (.int r)) τ 0 0 :=
  Ct_intro (fun _ => (0, 0)) (by decide) rfl ⟨rfl, Nat.le_refl _⟩ (Nat.le_of_ble_eq_true rfl) (fun X hX hR hwX hg hr => by subst hwX; exact tX_hasCarrier hX hw hg hR hr v1 σ h)

def rX_holds_27 (s0 : Int32) (σ : St) : Option (Int32 × St) :=
  some (s0, σ)
set_option maxRecDepth 100000 in
theorem tX_holds_27 {X : CX} (hX : gd X cX3_holds 2 RX3 (some .int)) (hw : isX (xw X)) (hg : nA X) (hR : xR X = rmOf 0 0 0 0) {r : Int32} {τ : St} (hr : xr X = (some (.int r), τ)) (s0 : Int32) (σ : St) (h : rX_holds_27 s0 σ = some (r, τ)) : Jd X 2 27 [] [.int s0] σ := by
  unfold rX_holds_27 at h
  exact K_iret hX hr dX3_holds_27 h

def rX_holds (v1 : Int32) (σ : St) : Option (Int32 × St) :=
  chk (ib v1 6) (brc (¬ (σ.1 28 v1.toNatClampNeg) = (2 : Int32)) (chk (ib v1 6) (rX_holds_27 (σ.1 29 v1.toNatClampNeg) σ)) (chk (ib v1 6) (rX_holds_27 ((2 : Int32) * (σ.1 29 v1.toNatClampNeg)) σ)))
set_option maxRecDepth 100000 in
theorem tX_holds {X : CX} (hX : gd X cX3_holds 2 RX3 (some .int)) (hw : isX (xw X)) (hg : nA X) (hR : xR X = rmOf 0 0 0 0) {r : Int32} {τ : St} (hr : xr X = (some (.int r), τ)) (v1 : Int32) (σ : St) (h : rX_holds v1 σ = some (r, τ)) : Jd X 2 0 [(0, .ref (wad (xw X) 23)), (1, .int v1)] [] σ := by
  unfold rX_holds at h
  refine J_aload_n (q := 0) hX dX3_holds_0 rfl rfl ?_
  refine K_getc 28 hX (xc_23 hw) cls_X3 (k := 7) (by decide) uw_1_115 rfl dX3_holds_1 ?_
  refine J_iload_n (q := 1) hX dX3_holds_4 rfl rfl ?_
  refine K_iald hX (xc_28 hw) dX3_holds_5 h (fun h => ?_)
  refine J_iconst (v := (2 : Int32)) hX dX3_holds_6 (by decide) ?_
  refine K_icmp_ne (tgt := 21) hX dX3_holds_7 rfl h (fun h => ?_) (fun h => ?_)
  · refine J_aload_n (q := 0) hX dX3_holds_21 rfl rfl ?_
    refine K_getc 29 hX (xc_23 hw) cls_X3 (k := 8) (by decide) uw_1_119 rfl dX3_holds_22 ?_
    refine J_iload_n (q := 1) hX dX3_holds_25 rfl rfl ?_
    refine K_iald hX (xc_29 hw) dX3_holds_26 h (fun h => ?_)
    refine J_sub [] rfl ?_
    exact tX_holds_27 hX hw hg hR hr (σ.1 29 v1.toNatClampNeg) σ h
  · refine J_iconst (v := (2 : Int32)) hX dX3_holds_10 (by decide) ?_
    refine J_aload_n (q := 0) hX dX3_holds_11 rfl rfl ?_
    refine K_getc 29 hX (xc_23 hw) cls_X3 (k := 8) (by decide) uw_1_119 rfl dX3_holds_12 ?_
    refine J_iload_n (q := 1) hX dX3_holds_15 rfl rfl ?_
    refine K_iald hX (xc_29 hw) dX3_holds_16 h (fun h => ?_)
    refine J_imul hX dX3_holds_17 ?_
    refine J_goto (tgt := 27) hX dX3_holds_18 rfl ?_
    refine J_sub [] rfl ?_
    exact tX_holds_27 hX hw hg hR hr ((2 : Int32) * (σ.1 29 v1.toNatClampNeg)) σ h
theorem ctX_holds {w : WT} (hw : isX w) {v1 : Int32} {σ : St} {r : Int32} {τ : St} (h : rX_holds v1 σ = some (r, τ)) : Ct yX3_holds cX3_holds 2 (some .int) 0 0 w [.ref (wad w 23), .int v1] σ (some (.int r)) τ 0 0 :=
  Ct_intro (fun _ => (0, 0)) (by decide) rfl ⟨rfl, Nat.le_refl _⟩ (Nat.le_of_ble_eq_true rfl) (fun X hX hR hwX hg hr => by subst hwX; exact tX_holds hX hw hg hR hr v1 σ h)

def rX_hasWay_19 (s0 : Int32) (σ : St) : Option (Int32 × St) :=
  chk (decide (s0 = 0 ∨ s0 = 1)) (some (s0, σ))
set_option maxRecDepth 100000 in
theorem tX_hasWay_19 {X : CX} (hX : gd X cX3_hasWay 3 RX3 (some .boolean)) (hw : isX (xw X)) (hg : nA X) (hR : xR X = rmOf 0 0 0 0) {r : Int32} {τ : St} (hr : xr X = (some (.int r), τ)) (s0 : Int32) (σ : St) (h : rX_hasWay_19 s0 σ = some (r, τ)) : Jd X 3 19 [] [.int s0] σ := by
  unfold rX_hasWay_19 at h
  exact K_zret hX hr dX3_hasWay_19 h

def rX_hasWay (v1 : Int32) (v2 : Int32) (σ : St) : Option (Int32 × St) :=
  chk (ib ((v1 * (7 : Int32)) + v2) 49) (brc ((σ.1 26 ((v1 * (7 : Int32)) + v2).toNatClampNeg) ≤ 0) (rX_hasWay_19 (0 : Int32) σ) (rX_hasWay_19 (1 : Int32) σ))
set_option maxRecDepth 100000 in
theorem tX_hasWay {X : CX} (hX : gd X cX3_hasWay 3 RX3 (some .boolean)) (hw : isX (xw X)) (hg : nA X) (hR : xR X = rmOf 0 0 0 0) {r : Int32} {τ : St} (hr : xr X = (some (.int r), τ)) (v1 : Int32) (v2 : Int32) (σ : St) (h : rX_hasWay v1 v2 σ = some (r, τ)) : Jd X 3 0 [(0, .ref (wad (xw X) 23)), (1, .int v1), (2, .int v2)] [] σ := by
  unfold rX_hasWay at h
  refine J_aload_n (q := 0) hX dX3_hasWay_0 rfl rfl ?_
  refine K_getc 26 hX (xc_23 hw) cls_X3 (k := 5) (by decide) uw_1_109 rfl dX3_hasWay_1 ?_
  refine J_iload_n (q := 1) hX dX3_hasWay_4 rfl rfl ?_
  refine J_bipush (v := (7 : Int32)) hX dX3_hasWay_5 (by decide) ?_
  refine J_imul hX dX3_hasWay_7 ?_
  refine J_iload_n (q := 2) hX dX3_hasWay_8 rfl rfl ?_
  refine J_iadd hX dX3_hasWay_9 ?_
  refine K_iald hX (xc_26 hw) dX3_hasWay_10 h (fun h => ?_)
  refine K_if_le (tgt := 18) hX dX3_hasWay_11 rfl h (fun h => ?_) (fun h => ?_)
  · refine J_iconst (v := (0 : Int32)) hX dX3_hasWay_18 (by decide) ?_
    refine J_sub [] rfl ?_
    exact tX_hasWay_19 hX hw hg hR hr (0 : Int32) σ h
  · refine J_iconst (v := (1 : Int32)) hX dX3_hasWay_14 (by decide) ?_
    refine J_goto (tgt := 19) hX dX3_hasWay_15 rfl ?_
    refine J_sub [] rfl ?_
    exact tX_hasWay_19 hX hw hg hR hr (1 : Int32) σ h
theorem ctX_hasWay {w : WT} (hw : isX w) {v1 : Int32} {v2 : Int32} {σ : St} {r : Int32} {τ : St} (h : rX_hasWay v1 v2 σ = some (r, τ)) : Ct yX3_hasWay cX3_hasWay 3 (some .boolean) 0 0 w [.ref (wad w 23), .int v1, .int v2] σ (some (.int r)) τ 0 0 :=
  Ct_intro (fun _ => (0, 0)) (by decide) rfl ⟨rfl, Nat.le_refl _⟩ (Nat.le_of_ble_eq_true rfl) (fun X hX hR hwX hg hr => by subst hwX; exact tX_hasWay hX hw hg hR hr v1 v2 σ h)

def rX_hasWayD_19 (s0 : Int32) (σ : St) : Option (Int32 × St) :=
  chk (decide (s0 = 0 ∨ s0 = 1)) (some (s0, σ))
set_option maxRecDepth 100000 in
theorem tX_hasWayD_19 {X : CX} (hX : gd X cX3_hasWay 3 RX3 (some .boolean)) (hw : isX (xw X)) (hg : nA X) (hR : xR X = rmOf 0 0 0 0) {r : Int32} {τ : St} (hr : xr X = (some (.int r), τ)) (s0 : Int32) (σ : St) (h : rX_hasWayD_19 s0 σ = some (r, τ)) : Jd X 3 19 [] [.int s0] σ := by
  unfold rX_hasWayD_19 at h
  exact K_zret hX hr dX3_hasWay_19 h

def rX_hasWayD (v1 : Int32) (v2 : Int32) (σ : St) : Option (Int32 × St) :=
  chk (ib ((v1 * (7 : Int32)) + v2) 49) (brc ((σ.1 13 ((v1 * (7 : Int32)) + v2).toNatClampNeg) ≤ 0) (rX_hasWayD_19 (0 : Int32) σ) (rX_hasWayD_19 (1 : Int32) σ))
set_option maxRecDepth 100000 in
theorem tX_hasWayD {X : CX} (hX : gd X cX3_hasWay 3 RX3 (some .boolean)) (hw : isX (xw X)) (hg : nA X) (hR : xR X = rmOf 0 0 0 0) {r : Int32} {τ : St} (hr : xr X = (some (.int r), τ)) (v1 : Int32) (v2 : Int32) (σ : St) (h : rX_hasWayD v1 v2 σ = some (r, τ)) : Jd X 3 0 [(0, .ref (wad (xw X) 10)), (1, .int v1), (2, .int v2)] [] σ := by
  unfold rX_hasWayD at h
  refine J_aload_n (q := 0) hX dX3_hasWay_0 rfl rfl ?_
  refine K_getc 13 hX (xc_10 hw) cls_X3 (k := 5) (by decide) uw_1_109 rfl dX3_hasWay_1 ?_
  refine J_iload_n (q := 1) hX dX3_hasWay_4 rfl rfl ?_
  refine J_bipush (v := (7 : Int32)) hX dX3_hasWay_5 (by decide) ?_
  refine J_imul hX dX3_hasWay_7 ?_
  refine J_iload_n (q := 2) hX dX3_hasWay_8 rfl rfl ?_
  refine J_iadd hX dX3_hasWay_9 ?_
  refine K_iald hX (xc_13 hw) dX3_hasWay_10 h (fun h => ?_)
  refine K_if_le (tgt := 18) hX dX3_hasWay_11 rfl h (fun h => ?_) (fun h => ?_)
  · refine J_iconst (v := (0 : Int32)) hX dX3_hasWay_18 (by decide) ?_
    refine J_sub [] rfl ?_
    exact tX_hasWayD_19 hX hw hg hR hr (0 : Int32) σ h
  · refine J_iconst (v := (1 : Int32)) hX dX3_hasWay_14 (by decide) ?_
    refine J_goto (tgt := 19) hX dX3_hasWay_15 rfl ?_
    refine J_sub [] rfl ?_
    exact tX_hasWayD_19 hX hw hg hR hr (1 : Int32) σ h
theorem ctX_hasWayD {w : WT} (hw : isX w) {v1 : Int32} {v2 : Int32} {σ : St} {r : Int32} {τ : St} (h : rX_hasWayD v1 v2 σ = some (r, τ)) : Ct yX3_hasWay cX3_hasWay 3 (some .boolean) 0 0 w [.ref (wad w 10), .int v1, .int v2] σ (some (.int r)) τ 0 0 :=
  Ct_intro (fun _ => (0, 0)) (by decide) rfl ⟨rfl, Nat.le_refl _⟩ (Nat.le_of_ble_eq_true rfl) (fun X hX hR hwX hg hr => by subst hwX; exact tX_hasWayD hX hw hg hR hr v1 v2 σ h)
