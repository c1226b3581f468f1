def rM_thrown (σ : St) : Option (Int32 × St) :=
  some (σ.1 0 0, σ)
set_option maxRecDepth 100000 in
theorem tM_thrown {X : CX} (hX : gd X cX12_thrown 1 RX12 (some .int)) (hw : (xw X).1 = mLy) (hg : nA X) (hR : xR X = rmOf 0 0 0 0) {r : Int32} {τ : St} (hr : xr X = (some (.int r), τ)) (σ : St) (h : rM_thrown σ = some (r, τ)) : Jd X 1 0 [(0, .ref (wad (xw X) 0))] [] σ := by
  unfold rM_thrown at h
  refine J_aload_n (q := 0) hX dX12_thrown_0 rfl rfl ?_
  refine K_geti hX (mc_0 hw) cls_X12 (k := 0) (by decide) uw_6_47 rfl dX12_thrown_1 ?_
  exact K_iret hX hr dX12_thrown_4 h
theorem ctM_thrown {w : WT} (hw : w.1 = mLy) {σ : St} {r : Int32} {τ : St} (h : rM_thrown σ = some (r, τ)) : Ct yX12_thrown cX12_thrown 1 (some .int) 0 0 w [.ref (wad w 0)] σ (some (.int r)) τ 0 0 :=
  Ct_intro (fun _ => (0, 0)) (by decide) rfl ⟨rfl, Nat.le_refl _⟩ (Nat.le_of_ble_eq_true rfl) (fun X hX hR hwX hg hr => by subst hwX; exact tM_thrown hX hw hg hR hr  σ h)

def rM_lay_69 (k3 : Int64 → Int32 → St → Option (St)) (v1 : Int64) (v3 : Int32) (σ : St) : Option (St) :=
  nm (v3 + Int32.ofInt (-8)) fun v3_3 => k3 v1 v3_3 σ
set_option maxRecDepth 100000 in
theorem tM_lay_69 {X : CX} (hX : gd X cX12_lay 5 RX12 none) (hw : (xw X).1 = mLy) (hg : nA X) (hR : xR X = rmOf 0 0 0 0) {τ : St} (hr : xr X = (none, τ)) {k3 : Int64 → Int32 → St → Option (St)} (hk3 : (∀ (v1 : Int64) (v3 : Int32) (σ : St), k3 v1 v3 σ = some τ → Jd X 5 3 [(0, .ref (wad (xw X) 0)), (1, .long v1), (3, .int v3)] [] σ)) (v1 : Int64) (v3 : Int32) (σ : St) (h : rM_lay_69 k3 v1 v3 σ = some τ) : Jd X 5 69 [(0, .ref (wad (xw X) 0)), (1, .long v1), (3, .int v3)] [] σ := by
  unfold rM_lay_69 at h
  refine K_iinc (q := 2) (fun v3_3 => [(3, .int v3_3), (0, .ref (wad (xw X) 0)), (1, .long v1)]) hX dX12_lay_69 rfl (by decide) (fun _ => rfl) h (fun v3_3 h => ?_)
  refine J_goto (tgt := 3) hX dX12_lay_72 rfl ?_
  refine J_sub [1, 2, 0] rfl ?_
  exact hk3 v1 v3_3 σ h

def rM_lay_38 (k3 : Int64 → Int32 → St → Option (St)) (v1 : Int64) (v3 : Int32) (v4 : Int32) (σ : St) : Option (St) :=
  brc ((1000 : Int32) ≤ (σ.1 0 2)) (rM_lay_69 k3 v1 v3 σ) (chk (ib (σ.1 0 2) 1000) (nm (setI σ 1 (σ.1 0 2).toNatClampNeg v4) fun σ_4 => nm (setI σ_4 0 2 ((σ_4.1 0 2) + (1 : Int32))) fun σ_5 => rM_lay_69 k3 v1 v3 σ_5))
set_option maxRecDepth 100000 in
theorem tM_lay_38 {X : CX} (hX : gd X cX12_lay 5 RX12 none) (hw : (xw X).1 = mLy) (hg : nA X) (hR : xR X = rmOf 0 0 0 0) {τ : St} (hr : xr X = (none, τ)) {k3 : Int64 → Int32 → St → Option (St)} (hk3 : (∀ (v1 : Int64) (v3 : Int32) (σ : St), k3 v1 v3 σ = some τ → Jd X 5 3 [(0, .ref (wad (xw X) 0)), (1, .long v1), (3, .int v3)] [] σ)) (v1 : Int64) (v3 : Int32) (v4 : Int32) (σ : St) (h : rM_lay_38 k3 v1 v3 v4 σ = some τ) : Jd X 5 38 [(0, .ref (wad (xw X) 0)), (1, .long v1), (3, .int v3), (4, .int v4)] [] σ := by
  unfold rM_lay_38 at h
  refine J_aload_n (q := 0) hX dX12_lay_38 rfl rfl ?_
  refine K_geti hX (mc_0 hw) cls_X12 (k := 2) (by decide) uw_6_49 rfl dX12_lay_39 ?_
  refine J_sipush (v := (1000 : Int32)) hX dX12_lay_42 (by decide) ?_
  refine K_icmp_ge (tgt := 69) hX dX12_lay_45 rfl h (fun h => ?_) (fun h => ?_)
  · refine J_sub [0, 1, 2] rfl ?_
    exact tM_lay_69 hX hw hg hR hr hk3 v1 v3 σ h
  · refine J_aload_n (q := 0) hX dX12_lay_48 rfl rfl ?_
    refine K_getc 1 hX (mc_0 hw) cls_X12 (k := 1) (by decide) uw_6_48 rfl dX12_lay_49 ?_
    refine J_aload_n (q := 0) hX dX12_lay_52 rfl rfl ?_
    refine K_geti hX (mc_0 hw) cls_X12 (k := 2) (by decide) uw_6_49 rfl dX12_lay_53 ?_
    refine J_iload (q := 3) hX dX12_lay_56 rfl ?_
    refine K_iast hX (mc_1 hw) dX12_lay_58 h (fun σ_4 h => ?_)
    refine J_aload_n (q := 0) hX dX12_lay_59 rfl rfl ?_
    refine J_dup hX dX12_lay_60 rfl ?_
    refine K_geti hX (mc_0 hw) cls_X12 (k := 2) (by decide) uw_6_49 rfl dX12_lay_61 ?_
    refine J_iconst (v := (1 : Int32)) hX dX12_lay_64 (by decide) ?_
    refine J_iadd hX dX12_lay_65 ?_
    refine K_puti hX (mc_0 hw) cls_X12 (k := 2) (by decide) uw_6_49 rfl rfl rfl dX12_lay_66 h (fun σ_5 h => ?_)
    refine J_sub [0, 1, 2] rfl ?_
    exact tM_lay_69 hX hw hg hR hr hk3 v1 v3 σ_5 h

def rM_lay_3 (k3 : Int64 → Int32 → St → Option (St)) (v1 : Int64) (v3 : Int32) (σ : St) : Option (St) :=
  brc (v3 < 0) (some σ) (nm (((v1 >>> (v3.toInt64 &&& 63)).toInt32) &&& (255 : Int32)) fun v4_2 => brc (v4_2 = (10 : Int32)) (rM_lay_38 k3 v1 v3 v4_2 σ) (brc (v4_2 < (32 : Int32)) (rM_lay_69 k3 v1 v3 σ) (brc ((126 : Int32) < v4_2) (rM_lay_69 k3 v1 v3 σ) (rM_lay_38 k3 v1 v3 v4_2 σ))))
set_option maxRecDepth 100000 in
theorem tM_lay_3b {X : CX} (hX : gd X cX12_lay 5 RX12 none) (hw : (xw X).1 = mLy) (hg : nA X) (hR : xR X = rmOf 0 0 0 0) {τ : St} (hr : xr X = (none, τ)) {k3 : Int64 → Int32 → St → Option (St)} (hk3 : (∀ (v1 : Int64) (v3 : Int32) (σ : St), k3 v1 v3 σ = some τ → Jd X 5 3 [(0, .ref (wad (xw X) 0)), (1, .long v1), (3, .int v3)] [] σ)) (v1 : Int64) (v3 : Int32) (σ : St) (h : rM_lay_3 k3 v1 v3 σ = some τ) : Jd X 5 3 [(0, .ref (wad (xw X) 0)), (1, .long v1), (3, .int v3)] [] σ := by
  unfold rM_lay_3 at h
  refine J_iload_n (q := 2) hX dX12_lay_3 rfl rfl ?_
  refine K_if_lt (tgt := 75) hX dX12_lay_4 rfl h (fun h => ?_) (fun h => ?_)
  · exact K_vret hX hr dX12_lay_75 h
  · refine J_lload_n (q := 1) hX dX12_lay_7 rfl rfl ?_
    refine J_iload_n (q := 2) hX dX12_lay_8 rfl rfl ?_
    refine J_lshr hX dX12_lay_9 ?_
    refine J_l2i hX dX12_lay_10 ?_
    refine J_sipush (v := (255 : Int32)) hX dX12_lay_11 (by decide) ?_
    refine J_iand hX dX12_lay_14 ?_
    refine K_istore (fun v4_2 => [(4, .int v4_2), (0, .ref (wad (xw X) 0)), (1, .long v1), (3, .int v3)]) hX dX12_lay_15 (by decide) (fun _ => rfl) h (fun v4_2 h => ?_)
    refine J_iload (q := 0) hX dX12_lay_17 rfl ?_
    refine J_bipush (v := (10 : Int32)) hX dX12_lay_19 (by decide) ?_
    refine K_icmp_eq (tgt := 38) hX dX12_lay_21 rfl h (fun h => ?_) (fun h => ?_)
    · refine J_sub [1, 2, 3, 0] rfl ?_
      exact tM_lay_38 hX hw hg hR hr hk3 v1 v3 v4_2 σ h
    · refine J_iload (q := 0) hX dX12_lay_24 rfl ?_
      refine J_bipush (v := (32 : Int32)) hX dX12_lay_26 (by decide) ?_
      refine K_icmp_lt (tgt := 69) hX dX12_lay_28 rfl h (fun h => ?_) (fun h => ?_)
      · refine J_sub [1, 2, 3] rfl ?_
        exact tM_lay_69 hX hw hg hR hr hk3 v1 v3 σ h
      · refine J_iload (q := 0) hX dX12_lay_31 rfl ?_
        refine J_bipush (v := (126 : Int32)) hX dX12_lay_33 (by decide) ?_
        refine K_icmp_gt (tgt := 69) hX dX12_lay_35 rfl h (fun h => ?_) (fun h => ?_)
        · refine J_sub [1, 2, 3] rfl ?_
          exact tM_lay_69 hX hw hg hR hr hk3 v1 v3 σ h
        · refine J_sub [1, 2, 3, 0] rfl ?_
          exact tM_lay_38 hX hw hg hR hr hk3 v1 v3 v4_2 σ h
def rM_lay_3L : ((Int64 × Int32 × St) → Option (St)) → (Int64 × Int32 × St) → Option (St) := fun k a => rM_lay_3 (fun v1 v3 σ => k (v1, v3, σ)) a.1 a.2.1 a.2.2
theorem tM_lay_3 {X : CX} (hX : gd X cX12_lay 5 RX12 none) (hw : (xw X).1 = mLy) (hg : nA X) (hR : xR X = rmOf 0 0 0 0) {τ : St} (hr : xr X = (none, τ)) (n : Nat) (v1 : Int64) (v3 : Int32) (σ : St) (h : lp (rM_lay_3L) n (v1, v3, σ) = some τ) : Jd X 5 3 [(0, .ref (wad (xw X) 0)), (1, .long v1), (3, .int v3)] [] σ :=
  lp_ind (F := rM_lay_3L) (P := fun a => Jd X 5 3 [(0, .ref (wad (xw X) 0)), (1, .long a.1), (3, .int a.2.1)] [] a.2.2) (fun k a hk h => tM_lay_3b hX hw hg hR hr (fun v1 v3 σ h => hk (v1, v3, σ) h) a.1 a.2.1 a.2.2 h) n (v1, v3, σ) h

def rM_lay (v1 : Int64) (σ : St) : Option (St) :=
  nm (56 : Int32) fun v3_1 => lp (rM_lay_3L) fu (v1, v3_1, σ)
set_option maxRecDepth 100000 in
theorem tM_lay {X : CX} (hX : gd X cX12_lay 5 RX12 none) (hw : (xw X).1 = mLy) (hg : nA X) (hR : xR X = rmOf 0 0 0 0) {τ : St} (hr : xr X = (none, τ)) (v1 : Int64) (σ : St) (h : rM_lay v1 σ = some τ) : Jd X 5 0 [(0, .ref (wad (xw X) 0)), (1, .long v1)] [] σ := by
  unfold rM_lay at h
  refine J_bipush (v := (56 : Int32)) hX dX12_lay_0 (by decide) ?_
  refine K_istore_n (fun v3_1 => [(3, .int v3_1), (0, .ref (wad (xw X) 0)), (1, .long v1)]) hX dX12_lay_2 rfl (by decide) (fun _ => rfl) h (fun v3_1 h => ?_)
  refine J_sub [1, 2, 0] rfl ?_
  exact tM_lay_3 hX hw hg hR hr fu v1 v3_1 σ h
theorem ctM_lay {w : WT} (hw : w.1 = mLy) {v1 : Int64} {σ : St} {τ : St} (h : rM_lay v1 σ = some τ) : Ct yX12_lay cX12_lay 5 none 0 0 w [.ref (wad w 0), .long v1] σ none τ 0 0 :=
  Ct_intro (fun _ => (0, 0)) (by decide) rfl ⟨rfl, Nat.le_refl _⟩ (Nat.le_of_ble_eq_true rfl) (fun X hX hR hwX hg hr => by subst hwX; exact tM_lay hX hw hg hR hr v1 σ h)

def rM_isLetter_17 (s0 : Int32) (σ : St) : Option (Int32 × St) :=
  chk (decide (s0 = 0 ∨ s0 = 1)) (some (s0, σ))
set_option maxRecDepth 100000 in
theorem tM_isLetter_17 {X : CX} (hX : gd X cX12_isLetter 1 RX12 (some .boolean)) (hw : (xw X).1 = mLy) (hg : nA X) (hR : xR X = rmOf 0 0 0 0) {r : Int32} {τ : St} (hr : xr X = (some (.int r), τ)) (s0 : Int32) (σ : St) (h : rM_isLetter_17 s0 σ = some (r, τ)) : Jd X 1 17 [] [.int s0] σ := by
  unfold rM_isLetter_17 at h
  exact K_zret hX hr dX12_isLetter_17 h

def rM_isLetter_16 (σ : St) : Option (Int32 × St) :=
  rM_isLetter_17 (0 : Int32) σ
set_option maxRecDepth 100000 in
theorem tM_isLetter_16 {X : CX} (hX : gd X cX12_isLetter 1 RX12 (some .boolean)) (hw : (xw X).1 = mLy) (hg : nA X) (hR : xR X = rmOf 0 0 0 0) {r : Int32} {τ : St} (hr : xr X = (some (.int r), τ)) (σ : St) (h : rM_isLetter_16 σ = some (r, τ)) : Jd X 1 16 [] [] σ := by
  unfold rM_isLetter_16 at h
  refine J_iconst (v := (0 : Int32)) hX dX12_isLetter_16 (by decide) ?_
  refine J_sub [] rfl ?_
  exact tM_isLetter_17 hX hw hg hR hr (0 : Int32) σ h

def rM_isLetter (v0 : Int32) (σ : St) : Option (Int32 × St) :=
  brc (v0 < (97 : Int32)) (rM_isLetter_16 σ) (brc ((122 : Int32) < v0) (rM_isLetter_16 σ) (rM_isLetter_17 (1 : Int32) σ))
set_option maxRecDepth 100000 in
theorem tM_isLetter {X : CX} (hX : gd X cX12_isLetter 1 RX12 (some .boolean)) (hw : (xw X).1 = mLy) (hg : nA X) (hR : xR X = rmOf 0 0 0 0) {r : Int32} {τ : St} (hr : xr X = (some (.int r), τ)) (v0 : Int32) (σ : St) (h : rM_isLetter v0 σ = some (r, τ)) : Jd X 1 0 [(0, .int v0)] [] σ := by
  unfold rM_isLetter at h
  refine J_iload_n (q := 0) hX dX12_isLetter_0 rfl rfl ?_
  refine J_bipush (v := (97 : Int32)) hX dX12_isLetter_1 (by decide) ?_
  refine K_icmp_lt (tgt := 16) hX dX12_isLetter_3 rfl h (fun h => ?_) (fun h => ?_)
  · refine J_sub [] rfl ?_
    exact tM_isLetter_16 hX hw hg hR hr σ h
  · refine J_iload_n (q := 0) hX dX12_isLetter_6 rfl rfl ?_
    refine J_bipush (v := (122 : Int32)) hX dX12_isLetter_7 (by decide) ?_
    refine K_icmp_gt (tgt := 16) hX dX12_isLetter_9 rfl h (fun h => ?_) (fun h => ?_)
    · refine J_sub [] rfl ?_
      exact tM_isLetter_16 hX hw hg hR hr σ h
    · refine J_iconst (v := (1 : Int32)) hX dX12_isLetter_12 (by decide) ?_
      refine J_goto (tgt := 17) hX dX12_isLetter_13 rfl ?_
      refine J_sub [] rfl ?_
      exact tM_isLetter_17 hX hw hg hR hr (1 : Int32) σ h
theorem ctM_isLetter {w : WT} (hw : w.1 = mLy) {v0 : Int32} {σ : St} {r : Int32} {τ : St} (h : rM_isLetter v0 σ = some (r, τ)) : Ct yX12_isLetter cX12_isLetter 1 (some .boolean) 0 0 w [.int v0] σ (some (.int r)) τ 0 0 :=
  Ct_intro (fun _ => (0, 0)) (by decide) rfl ⟨rfl, Nat.le_refl _⟩ (Nat.le_of_ble_eq_true rfl) (fun X hX hR hwX hg hr => by subst hwX; exact tM_isLetter hX hw hg hR hr v0 σ h)

def rM_isDigit_17 (s0 : Int32) (σ : St) : Option (Int32 × St) :=
  chk (decide (s0 = 0 ∨ s0 = 1)) (some (s0, σ))
set_option maxRecDepth 100000 in
theorem tM_isDigit_17 {X : CX} (hX : gd X cX12_isDigit 1 RX12 (some .boolean)) (hw : (xw X).1 = mLy) (hg : nA X) (hR : xR X = rmOf 0 0 0 0) {r : Int32} {τ : St} (hr : xr X = (some (.int r), τ)) (s0 : Int32) (σ : St) (h : rM_isDigit_17 s0 σ = some (r, τ)) : Jd X 1 17 [] [.int s0] σ := by
  unfold rM_isDigit_17 at h
  exact K_zret hX hr dX12_isDigit_17 h

def rM_isDigit_16 (σ : St) : Option (Int32 × St) :=
  rM_isDigit_17 (0 : Int32) σ
set_option maxRecDepth 100000 in
theorem tM_isDigit_16 {X : CX} (hX : gd X cX12_isDigit 1 RX12 (some .boolean)) (hw : (xw X).1 = mLy) (hg : nA X) (hR : xR X = rmOf 0 0 0 0) {r : Int32} {τ : St} (hr : xr X = (some (.int r), τ)) (σ : St) (h : rM_isDigit_16 σ = some (r, τ)) : Jd X 1 16 [] [] σ := by
  unfold rM_isDigit_16 at h
  refine J_iconst (v := (0 : Int32)) hX dX12_isDigit_16 (by decide) ?_
  refine J_sub [] rfl ?_
  exact tM_isDigit_17 hX hw hg hR hr (0 : Int32) σ h

def rM_isDigit (v0 : Int32) (σ : St) : Option (Int32 × St) :=
  brc (v0 < (48 : Int32)) (rM_isDigit_16 σ) (brc ((57 : Int32) < v0) (rM_isDigit_16 σ) (rM_isDigit_17 (1 : Int32) σ))
set_option maxRecDepth 100000 in
theorem tM_isDigit {X : CX} (hX : gd X cX12_isDigit 1 RX12 (some .boolean)) (hw : (xw X).1 = mLy) (hg : nA X) (hR : xR X = rmOf 0 0 0 0) {r : Int32} {τ : St} (hr : xr X = (some (.int r), τ)) (v0 : Int32) (σ : St) (h : rM_isDigit v0 σ = some (r, τ)) : Jd X 1 0 [(0, .int v0)] [] σ := by
  unfold rM_isDigit at h
  refine J_iload_n (q := 0) hX dX12_isDigit_0 rfl rfl ?_
  refine J_bipush (v := (48 : Int32)) hX dX12_isDigit_1 (by decide) ?_
  refine K_icmp_lt (tgt := 16) hX dX12_isDigit_3 rfl h (fun h => ?_) (fun h => ?_)
  · refine J_sub [] rfl ?_
    exact tM_isDigit_16 hX hw hg hR hr σ h
  · refine J_iload_n (q := 0) hX dX12_isDigit_6 rfl rfl ?_
    refine J_bipush (v := (57 : Int32)) hX dX12_isDigit_7 (by decide) ?_
    refine K_icmp_gt (tgt := 16) hX dX12_isDigit_9 rfl h (fun h => ?_) (fun h => ?_)
    · refine J_sub [] rfl ?_
      exact tM_isDigit_16 hX hw hg hR hr σ h
    · refine J_iconst (v := (1 : Int32)) hX dX12_isDigit_12 (by decide) ?_
      refine J_goto (tgt := 17) hX dX12_isDigit_13 rfl ?_
      refine J_sub [] rfl ?_
      exact tM_isDigit_17 hX hw hg hR hr (1 : Int32) σ h
theorem ctM_isDigit {w : WT} (hw : w.1 = mLy) {v0 : Int32} {σ : St} {r : Int32} {τ : St} (h : rM_isDigit v0 σ = some (r, τ)) : Ct yX12_isDigit cX12_isDigit 1 (some .boolean) 0 0 w [.int v0] σ (some (.int r)) τ 0 0 :=
  Ct_intro (fun _ => (0, 0)) (by decide) rfl ⟨rfl, Nat.le_refl _⟩ (Nat.le_of_ble_eq_true rfl) (fun X hX hR hwX hg hr => by subst hwX; exact tM_isDigit hX hw hg hR hr v0 σ h)

def rM_isSignOf_53 (s0 : Int32) (σ : St) : Option (Int32 × St) :=
  chk (decide (s0 = 0 ∨ s0 = 1)) (some (s0, σ))
set_option maxRecDepth 100000 in
theorem tM_isSignOf_53 {X : CX} (hX : gd X cX12_isSignOf 1 RX12 (some .boolean)) (hw : (xw X).1 = mLy) (hg : nA X) (hR : xR X = rmOf 0 0 0 0) {r : Int32} {τ : St} (hr : xr X = (some (.int r), τ)) (s0 : Int32) (σ : St) (h : rM_isSignOf_53 s0 σ = some (r, τ)) : Jd X 1 53 [] [.int s0] σ := by
  unfold rM_isSignOf_53 at h
  exact K_zret hX hr dX12_isSignOf_53 h

def rM_isSignOf_48 (σ : St) : Option (Int32 × St) :=
  rM_isSignOf_53 (1 : Int32) σ
set_option maxRecDepth 100000 in
theorem tM_isSignOf_48 {X : CX} (hX : gd X cX12_isSignOf 1 RX12 (some .boolean)) (hw : (xw X).1 = mLy) (hg : nA X) (hR : xR X = rmOf 0 0 0 0) {r : Int32} {τ : St} (hr : xr X = (some (.int r), τ)) (σ : St) (h : rM_isSignOf_48 σ = some (r, τ)) : Jd X 1 48 [] [] σ := by
  unfold rM_isSignOf_48 at h
  refine J_iconst (v := (1 : Int32)) hX dX12_isSignOf_48 (by decide) ?_
  refine J_goto (tgt := 53) hX dX12_isSignOf_49 rfl ?_
  refine J_sub [] rfl ?_
  exact tM_isSignOf_53 hX hw hg hR hr (1 : Int32) σ h

def rM_isSignOf (v0 : Int32) (σ : St) : Option (Int32 × St) :=
  brc (v0 = (40 : Int32)) (rM_isSignOf_48 σ) (brc (v0 = (41 : Int32)) (rM_isSignOf_48 σ) (brc (v0 = (59 : Int32)) (rM_isSignOf_48 σ) (brc (v0 = (61 : Int32)) (rM_isSignOf_48 σ) (brc (v0 = (60 : Int32)) (rM_isSignOf_48 σ) (brc (v0 = (43 : Int32)) (rM_isSignOf_48 σ) (brc (v0 = (45 : Int32)) (rM_isSignOf_48 σ) (brc (¬ v0 = (42 : Int32)) (rM_isSignOf_53 (0 : Int32) σ) (rM_isSignOf_48 σ))))))))
set_option maxRecDepth 100000 in
theorem tM_isSignOf {X : CX} (hX : gd X cX12_isSignOf 1 RX12 (some .boolean)) (hw : (xw X).1 = mLy) (hg : nA X) (hR : xR X = rmOf 0 0 0 0) {r : Int32} {τ : St} (hr : xr X = (some (.int r), τ)) (v0 : Int32) (σ : St) (h : rM_isSignOf v0 σ = some (r, τ)) : Jd X 1 0 [(0, .int v0)] [] σ := by
  unfold rM_isSignOf at h
  refine J_iload_n (q := 0) hX dX12_isSignOf_0 rfl rfl ?_
  refine J_bipush (v := (40 : Int32)) hX dX12_isSignOf_1 (by decide) ?_
  refine K_icmp_eq (tgt := 48) hX dX12_isSignOf_3 rfl h (fun h => ?_) (fun h => ?_)
  · refine J_sub [] rfl ?_
    exact tM_isSignOf_48 hX hw hg hR hr σ h
  · refine J_iload_n (q := 0) hX dX12_isSignOf_6 rfl rfl ?_
    refine J_bipush (v := (41 : Int32)) hX dX12_isSignOf_7 (by decide) ?_
    refine K_icmp_eq (tgt := 48) hX dX12_isSignOf_9 rfl h (fun h => ?_) (fun h => ?_)
    · refine J_sub [] rfl ?_
      exact tM_isSignOf_48 hX hw hg hR hr σ h
    · refine J_iload_n (q := 0) hX dX12_isSignOf_12 rfl rfl ?_
      refine J_bipush (v := (59 : Int32)) hX dX12_isSignOf_13 (by decide) ?_
      refine K_icmp_eq (tgt := 48) hX dX12_isSignOf_15 rfl h (fun h => ?_) (fun h => ?_)
      · refine J_sub [] rfl ?_
        exact tM_isSignOf_48 hX hw hg hR hr σ h
      · refine J_iload_n (q := 0) hX dX12_isSignOf_18 rfl rfl ?_
        refine J_bipush (v := (61 : Int32)) hX dX12_isSignOf_19 (by decide) ?_
        refine K_icmp_eq (tgt := 48) hX dX12_isSignOf_21 rfl h (fun h => ?_) (fun h => ?_)
        · refine J_sub [] rfl ?_
          exact tM_isSignOf_48 hX hw hg hR hr σ h
        · refine J_iload_n (q := 0) hX dX12_isSignOf_24 rfl rfl ?_
          refine J_bipush (v := (60 : Int32)) hX dX12_isSignOf_25 (by decide) ?_
          refine K_icmp_eq (tgt := 48) hX dX12_isSignOf_27 rfl h (fun h => ?_) (fun h => ?_)
          · refine J_sub [] rfl ?_
            exact tM_isSignOf_48 hX hw hg hR hr σ h
          · refine J_iload_n (q := 0) hX dX12_isSignOf_30 rfl rfl ?_
            refine J_bipush (v := (43 : Int32)) hX dX12_isSignOf_31 (by decide) ?_
            refine K_icmp_eq (tgt := 48) hX dX12_isSignOf_33 rfl h (fun h => ?_) (fun h => ?_)
            · refine J_sub [] rfl ?_
              exact tM_isSignOf_48 hX hw hg hR hr σ h
            · refine J_iload_n (q := 0) hX dX12_isSignOf_36 rfl rfl ?_
              refine J_bipush (v := (45 : Int32)) hX dX12_isSignOf_37 (by decide) ?_
              refine K_icmp_eq (tgt := 48) hX dX12_isSignOf_39 rfl h (fun h => ?_) (fun h => ?_)
              · refine J_sub [] rfl ?_
                exact tM_isSignOf_48 hX hw hg hR hr σ h
              · refine J_iload_n (q := 0) hX dX12_isSignOf_42 rfl rfl ?_
                refine J_bipush (v := (42 : Int32)) hX dX12_isSignOf_43 (by decide) ?_
                refine K_icmp_ne (tgt := 52) hX dX12_isSignOf_45 rfl h (fun h => ?_) (fun h => ?_)
                · refine J_iconst (v := (0 : Int32)) hX dX12_isSignOf_52 (by decide) ?_
                  refine J_sub [] rfl ?_
                  exact tM_isSignOf_53 hX hw hg hR hr (0 : Int32) σ h
                · refine J_sub [] rfl ?_
                  exact tM_isSignOf_48 hX hw hg hR hr σ h
theorem ctM_isSignOf {w : WT} (hw : w.1 = mLy) {v0 : Int32} {σ : St} {r : Int32} {τ : St} (h : rM_isSignOf v0 σ = some (r, τ)) : Ct yX12_isSignOf cX12_isSignOf 1 (some .boolean) 0 0 w [.int v0] σ (some (.int r)) τ 0 0 :=
  Ct_intro (fun _ => (0, 0)) (by decide) rfl ⟨rfl, Nat.le_refl _⟩ (Nat.le_of_ble_eq_true rfl) (fun X hX hR hwX hg hr => by subst hwX; exact tM_isSignOf hX hw hg hR hr v0 σ h)

def rM_wrong_25 (σ : St) : Option (St) :=
  some σ
set_option maxRecDepth 100000 in
theorem tM_wrong_25 {X : CX} (hX : gd X cX12_wrong 2 RX12 none) (hw : (xw X).1 = mLy) (hg : nA X) (hR : xR X = rmOf 0 0 0 0) {τ : St} (hr : xr X = (none, τ)) (σ : St) (h : rM_wrong_25 σ = some τ) : Jd X 2 25 [] [] σ := by
  unfold rM_wrong_25 at h
  exact K_vret hX hr dX12_wrong_25 h

def rM_wrong (v1 : Int32) (σ : St) : Option (St) :=
  brc (¬ (σ.1 0 8) = 0) (rM_wrong_25 σ) (chk (ib (σ.1 0 7) 1002) (nm (setI σ 0 8 (v1 + ((16 : Int32) * (σ.1 3 (σ.1 0 7).toNatClampNeg)))) fun σ_1 => rM_wrong_25 σ_1))
set_option maxRecDepth 100000 in
theorem tM_wrong {X : CX} (hX : gd X cX12_wrong 2 RX12 none) (hw : (xw X).1 = mLy) (hg : nA X) (hR : xR X = rmOf 0 0 0 0) {τ : St} (hr : xr X = (none, τ)) (v1 : Int32) (σ : St) (h : rM_wrong v1 σ = some τ) : Jd X 2 0 [(0, .ref (wad (xw X) 0)), (1, .int v1)] [] σ := by
  unfold rM_wrong at h
  refine J_aload_n (q := 0) hX dX12_wrong_0 rfl rfl ?_
  refine K_geti hX (mc_0 hw) cls_X12 (k := 8) (by decide) uw_6_55 rfl dX12_wrong_1 ?_
  refine K_if_ne (tgt := 25) hX dX12_wrong_4 rfl h (fun h => ?_) (fun h => ?_)
  · refine J_sub [] rfl ?_
    exact tM_wrong_25 hX hw hg hR hr σ h
  · refine J_aload_n (q := 0) hX dX12_wrong_7 rfl rfl ?_
    refine J_iload_n (q := 1) hX dX12_wrong_8 rfl rfl ?_
    refine J_bipush (v := (16 : Int32)) hX dX12_wrong_9 (by decide) ?_
    refine J_aload_n (q := 0) hX dX12_wrong_11 rfl rfl ?_
    refine K_getc 3 hX (mc_0 hw) cls_X12 (k := 5) (by decide) uw_6_52 rfl dX12_wrong_12 ?_
    refine J_aload_n (q := 0) hX dX12_wrong_15 rfl rfl ?_
    refine K_geti hX (mc_0 hw) cls_X12 (k := 7) (by decide) uw_6_54 rfl dX12_wrong_16 ?_
    refine K_iald hX (mc_3 hw) dX12_wrong_19 h (fun h => ?_)
    refine J_imul hX dX12_wrong_20 ?_
    refine J_iadd hX dX12_wrong_21 ?_
    refine K_puti hX (mc_0 hw) cls_X12 (k := 8) (by decide) uw_6_55 rfl rfl rfl dX12_wrong_22 h (fun σ_1 h => ?_)
    refine J_sub [] rfl ?_
    exact tM_wrong_25 hX hw hg hR hr σ_1 h
theorem ctM_wrong {w : WT} (hw : w.1 = mLy) {v1 : Int32} {σ : St} {τ : St} (h : rM_wrong v1 σ = some τ) : Ct yX12_wrong cX12_wrong 2 none 0 0 w [.ref (wad w 0), .int v1] σ none τ 0 0 :=
  Ct_intro (fun _ => (0, 0)) (by decide) rfl ⟨rfl, Nat.le_refl _⟩ (Nat.le_of_ble_eq_true rfl) (fun X hX hR hwX hg hr => by subst hwX; exact tM_wrong hX hw hg hR hr v1 σ h)

def rM_isSign_40 (s0 : Int32) (σ : St) : Option (Int32 × St) :=
  chk (decide (s0 = 0 ∨ s0 = 1)) (some (s0, σ))
set_option maxRecDepth 100000 in
theorem tM_isSign_40 {X : CX} (hX : gd X cX12_isSign 2 RX12 (some .boolean)) (hw : (xw X).1 = mLy) (hg : nA X) (hR : xR X = rmOf 0 0 0 0) {r : Int32} {τ : St} (hr : xr X = (some (.int r), τ)) (s0 : Int32) (σ : St) (h : rM_isSign_40 s0 σ = some (r, τ)) : Jd X 2 40 [] [.int s0] σ := by
  unfold rM_isSign_40 at h
  exact K_zret hX hr dX12_isSign_40 h

def rM_isSign_39 (σ : St) : Option (Int32 × St) :=
  rM_isSign_40 (0 : Int32) σ
set_option maxRecDepth 100000 in
theorem tM_isSign_39 {X : CX} (hX : gd X cX12_isSign 2 RX12 (some .boolean)) (hw : (xw X).1 = mLy) (hg : nA X) (hR : xR X = rmOf 0 0 0 0) {r : Int32} {τ : St} (hr : xr X = (some (.int r), τ)) (σ : St) (h : rM_isSign_39 σ = some (r, τ)) : Jd X 2 39 [] [] σ := by
  unfold rM_isSign_39 at h
  refine J_iconst (v := (0 : Int32)) hX dX12_isSign_39 (by decide) ?_
  refine J_sub [] rfl ?_
  exact tM_isSign_40 hX hw hg hR hr (0 : Int32) σ h

def rM_isSign (v1 : Int32) (σ : St) : Option (Int32 × St) :=
  brc (¬ (σ.1 0 8) = 0) (rM_isSign_39 σ) (chk (ib (σ.1 0 7) 1002) (brc (¬ (σ.1 2 (σ.1 0 7).toNatClampNeg) = (3 : Int32)) (rM_isSign_39 σ) (chk (ib (σ.1 0 7) 1002) (brc (¬ (lg_cmp (σ.2.1 4 (σ.1 0 7).toNatClampNeg) v1.toInt64) = 0) (rM_isSign_39 σ) (rM_isSign_40 (1 : Int32) σ)))))
set_option maxRecDepth 100000 in
theorem tM_isSign {X : CX} (hX : gd X cX12_isSign 2 RX12 (some .boolean)) (hw : (xw X).1 = mLy) (hg : nA X) (hR : xR X = rmOf 0 0 0 0) {r : Int32} {τ : St} (hr : xr X = (some (.int r), τ)) (v1 : Int32) (σ : St) (h : rM_isSign v1 σ = some (r, τ)) : Jd X 2 0 [(0, .ref (wad (xw X) 0)), (1, .int v1)] [] σ := by
  unfold rM_isSign at h
  refine J_aload_n (q := 0) hX dX12_isSign_0 rfl rfl ?_
  refine K_geti hX (mc_0 hw) cls_X12 (k := 8) (by decide) uw_6_55 rfl dX12_isSign_1 ?_
  refine K_if_ne (tgt := 39) hX dX12_isSign_4 rfl h (fun h => ?_) (fun h => ?_)
  · refine J_sub [] rfl ?_
    exact tM_isSign_39 hX hw hg hR hr σ h
  · refine J_aload_n (q := 0) hX dX12_isSign_7 rfl rfl ?_
    refine K_getc 2 hX (mc_0 hw) cls_X12 (k := 4) (by decide) uw_6_51 rfl dX12_isSign_8 ?_
    refine J_aload_n (q := 0) hX dX12_isSign_11 rfl rfl ?_
    refine K_geti hX (mc_0 hw) cls_X12 (k := 7) (by decide) uw_6_54 rfl dX12_isSign_12 ?_
    refine K_iald hX (mc_2 hw) dX12_isSign_15 h (fun h => ?_)
    refine J_iconst (v := (3 : Int32)) hX dX12_isSign_16 (by decide) ?_
    refine K_icmp_ne (tgt := 39) hX dX12_isSign_17 rfl h (fun h => ?_) (fun h => ?_)
    · refine J_sub [] rfl ?_
      exact tM_isSign_39 hX hw hg hR hr σ h
    · refine J_aload_n (q := 0) hX dX12_isSign_20 rfl rfl ?_
      refine K_getc 4 hX (mc_0 hw) cls_X12 (k := 6) (by decide) uw_6_53 rfl dX12_isSign_21 ?_
      refine J_aload_n (q := 0) hX dX12_isSign_24 rfl rfl ?_
      refine K_geti hX (mc_0 hw) cls_X12 (k := 7) (by decide) uw_6_54 rfl dX12_isSign_25 ?_
      refine K_lald hX (mc_4 hw) dX12_isSign_28 h (fun h => ?_)
      refine J_iload_n (q := 1) hX dX12_isSign_29 rfl rfl ?_
      refine J_i2l hX dX12_isSign_30 ?_
      refine J_lcmp hX dX12_isSign_31 ?_
      refine K_if_ne (tgt := 39) hX dX12_isSign_32 rfl h (fun h => ?_) (fun h => ?_)
      · refine J_sub [] rfl ?_
        exact tM_isSign_39 hX hw hg hR hr σ h
      · refine J_iconst (v := (1 : Int32)) hX dX12_isSign_35 (by decide) ?_
        refine J_goto (tgt := 40) hX dX12_isSign_36 rfl ?_
        refine J_sub [] rfl ?_
        exact tM_isSign_40 hX hw hg hR hr (1 : Int32) σ h
theorem ctM_isSign {w : WT} (hw : w.1 = mLy) {v1 : Int32} {σ : St} {r : Int32} {τ : St} (h : rM_isSign v1 σ = some (r, τ)) : Ct yX12_isSign cX12_isSign 2 (some .boolean) 0 0 w [.ref (wad w 0), .int v1] σ (some (.int r)) τ 0 0 :=
  Ct_intro (fun _ => (0, 0)) (by decide) rfl ⟨rfl, Nat.le_refl _⟩ (Nat.le_of_ble_eq_true rfl) (fun X hX hR hwX hg hr => by subst hwX; exact tM_isSign hX hw hg hR hr v1 σ h)

def rM_isWord_44 (s0 : Int32) (σ : St) : Option (Int32 × St) :=
  chk (decide (s0 = 0 ∨ s0 = 1)) (some (s0, σ))
set_option maxRecDepth 100000 in
theorem tM_isWord_44 {X : CX} (hX : gd X cX12_isWord 2 RX12 (some .boolean)) (hw : (xw X).1 = mLy) (hg : nA X) (hR : xR X = rmOf 0 0 0 0) {r : Int32} {τ : St} (hr : xr X = (some (.int r), τ)) (s0 : Int32) (σ : St) (h : rM_isWord_44 s0 σ = some (r, τ)) : Jd X 2 44 [] [.int s0] σ := by
  unfold rM_isWord_44 at h
  exact K_zret hX hr dX12_isWord_44 h

def rM_isWord_43 (σ : St) : Option (Int32 × St) :=
  rM_isWord_44 (0 : Int32) σ
set_option maxRecDepth 100000 in
theorem tM_isWord_43 {X : CX} (hX : gd X cX12_isWord 2 RX12 (some .boolean)) (hw : (xw X).1 = mLy) (hg : nA X) (hR : xR X = rmOf 0 0 0 0) {r : Int32} {τ : St} (hr : xr X = (some (.int r), τ)) (σ : St) (h : rM_isWord_43 σ = some (r, τ)) : Jd X 2 43 [] [] σ := by
  unfold rM_isWord_43 at h
  refine J_iconst (v := (0 : Int32)) hX dX12_isWord_43 (by decide) ?_
  refine J_sub [] rfl ?_
  exact tM_isWord_44 hX hw hg hR hr (0 : Int32) σ h

def rM_isWord (v1 : Int32) (σ : St) : Option (Int32 × St) :=
  brc (¬ (σ.1 0 8) = 0) (rM_isWord_43 σ) (chk (ib (σ.1 0 7) 1002) (brc (¬ (σ.1 2 (σ.1 0 7).toNatClampNeg) = (1 : Int32)) (rM_isWord_43 σ) (chk (ib (σ.1 0 7) 1002) (chk (ib v1 30) (brc (¬ (lg_cmp (σ.2.1 4 (σ.1 0 7).toNatClampNeg) (σ.2.1 5 v1.toNatClampNeg)) = 0) (rM_isWord_43 σ) (rM_isWord_44 (1 : Int32) σ))))))
set_option maxRecDepth 100000 in
theorem tM_isWord {X : CX} (hX : gd X cX12_isWord 2 RX12 (some .boolean)) (hw : (xw X).1 = mLy) (hg : nA X) (hR : xR X = rmOf 0 0 0 0) {r : Int32} {τ : St} (hr : xr X = (some (.int r), τ)) (v1 : Int32) (σ : St) (h : rM_isWord v1 σ = some (r, τ)) : Jd X 2 0 [(0, .ref (wad (xw X) 0)), (1, .int v1)] [] σ := by
  unfold rM_isWord at h
  refine J_aload_n (q := 0) hX dX12_isWord_0 rfl rfl ?_
  refine K_geti hX (mc_0 hw) cls_X12 (k := 8) (by decide) uw_6_55 rfl dX12_isWord_1 ?_
  refine K_if_ne (tgt := 43) hX dX12_isWord_4 rfl h (fun h => ?_) (fun h => ?_)
  · refine J_sub [] rfl ?_
    exact tM_isWord_43 hX hw hg hR hr σ h
  · refine J_aload_n (q := 0) hX dX12_isWord_7 rfl rfl ?_
    refine K_getc 2 hX (mc_0 hw) cls_X12 (k := 4) (by decide) uw_6_51 rfl dX12_isWord_8 ?_
    refine J_aload_n (q := 0) hX dX12_isWord_11 rfl rfl ?_
    refine K_geti hX (mc_0 hw) cls_X12 (k := 7) (by decide) uw_6_54 rfl dX12_isWord_12 ?_
    refine K_iald hX (mc_2 hw) dX12_isWord_15 h (fun h => ?_)
    refine J_iconst (v := (1 : Int32)) hX dX12_isWord_16 (by decide) ?_
    refine K_icmp_ne (tgt := 43) hX dX12_isWord_17 rfl h (fun h => ?_) (fun h => ?_)
    · refine J_sub [] rfl ?_
      exact tM_isWord_43 hX hw hg hR hr σ h
    · refine J_aload_n (q := 0) hX dX12_isWord_20 rfl rfl ?_
      refine K_getc 4 hX (mc_0 hw) cls_X12 (k := 6) (by decide) uw_6_53 rfl dX12_isWord_21 ?_
      refine J_aload_n (q := 0) hX dX12_isWord_24 rfl rfl ?_
      refine K_geti hX (mc_0 hw) cls_X12 (k := 7) (by decide) uw_6_54 rfl dX12_isWord_25 ?_
      refine K_lald hX (mc_4 hw) dX12_isWord_28 h (fun h => ?_)
      refine J_aload_n (q := 0) hX dX12_isWord_29 rfl rfl ?_
      refine K_getc 5 hX (mc_0 hw) cls_X12 (k := 9) (by decide) uw_6_56 rfl dX12_isWord_30 ?_
      refine J_iload_n (q := 1) hX dX12_isWord_33 rfl rfl ?_
      refine K_lald hX (mc_5 hw) dX12_isWord_34 h (fun h => ?_)
      refine J_lcmp hX dX12_isWord_35 ?_
      refine K_if_ne (tgt := 43) hX dX12_isWord_36 rfl h (fun h => ?_) (fun h => ?_)
      · refine J_sub [] rfl ?_
        exact tM_isWord_43 hX hw hg hR hr σ h
      · refine J_iconst (v := (1 : Int32)) hX dX12_isWord_39 (by decide) ?_
        refine J_goto (tgt := 44) hX dX12_isWord_40 rfl ?_
        refine J_sub [] rfl ?_
        exact tM_isWord_44 hX hw hg hR hr (1 : Int32) σ h
theorem ctM_isWord {w : WT} (hw : w.1 = mLy) {v1 : Int32} {σ : St} {r : Int32} {τ : St} (h : rM_isWord v1 σ = some (r, τ)) : Ct yX12_isWord cX12_isWord 2 (some .boolean) 0 0 w [.ref (wad w 0), .int v1] σ (some (.int r)) τ 0 0 :=
  Ct_intro (fun _ => (0, 0)) (by decide) rfl ⟨rfl, Nat.le_refl _⟩ (Nat.le_of_ble_eq_true rfl) (fun X hX hR hwX hg hr => by subst hwX; exact tM_isWord hX hw hg hR hr v1 σ h)

def rM_within_15 (s0 : Int32) (σ : St) : Option (Int32 × St) :=
  chk (decide (s0 = 0 ∨ s0 = 1)) (some (s0, σ))
set_option maxRecDepth 100000 in
theorem tM_within_15 {X : CX} (hX : gd X cX12_within 3 RX12 (some .boolean)) (hw : (xw X).1 = mLy) (hg : nA X) (hR : xR X = rmOf 0 0 0 0) {r : Int32} {τ : St} (hr : xr X = (some (.int r), τ)) (s0 : Int32) (σ : St) (h : rM_within_15 s0 σ = some (r, τ)) : Jd X 3 15 [] [.int s0] σ := by
  unfold rM_within_15 at h
  exact K_zret hX hr dX12_within_15 h

def rM_within_14 (σ : St) : Option (Int32 × St) :=
  rM_within_15 (0 : Int32) σ
set_option maxRecDepth 100000 in
theorem tM_within_14 {X : CX} (hX : gd X cX12_within 3 RX12 (some .boolean)) (hw : (xw X).1 = mLy) (hg : nA X) (hR : xR X = rmOf 0 0 0 0) {r : Int32} {τ : St} (hr : xr X = (some (.int r), τ)) (σ : St) (h : rM_within_14 σ = some (r, τ)) : Jd X 3 14 [] [] σ := by
  unfold rM_within_14 at h
  refine J_iconst (v := (0 : Int32)) hX dX12_within_14 (by decide) ?_
  refine J_sub [] rfl ?_
  exact tM_within_15 hX hw hg hR hr (0 : Int32) σ h

def rM_within (v0 : Int32) (v1 : Int32) (v2 : Int32) (σ : St) : Option (Int32 × St) :=
  brc (v0 < v1) (rM_within_14 σ) (brc (v2 < v0) (rM_within_14 σ) (rM_within_15 (1 : Int32) σ))
set_option maxRecDepth 100000 in
theorem tM_within {X : CX} (hX : gd X cX12_within 3 RX12 (some .boolean)) (hw : (xw X).1 = mLy) (hg : nA X) (hR : xR X = rmOf 0 0 0 0) {r : Int32} {τ : St} (hr : xr X = (some (.int r), τ)) (v0 : Int32) (v1 : Int32) (v2 : Int32) (σ : St) (h : rM_within v0 v1 v2 σ = some (r, τ)) : Jd X 3 0 [(0, .int v0), (1, .int v1), (2, .int v2)] [] σ := by
  unfold rM_within at h
  refine J_iload_n (q := 0) hX dX12_within_0 rfl rfl ?_
  refine J_iload_n (q := 1) hX dX12_within_1 rfl rfl ?_
  refine K_icmp_lt (tgt := 14) hX dX12_within_2 rfl h (fun h => ?_) (fun h => ?_)
  · refine J_sub [] rfl ?_
    exact tM_within_14 hX hw hg hR hr σ h
  · refine J_iload_n (q := 0) hX dX12_within_5 rfl rfl ?_
    refine J_iload_n (q := 2) hX dX12_within_6 rfl rfl ?_
    refine K_icmp_gt (tgt := 14) hX dX12_within_7 rfl h (fun h => ?_) (fun h => ?_)
    · refine J_sub [] rfl ?_
      exact tM_within_14 hX hw hg hR hr σ h
    · refine J_iconst (v := (1 : Int32)) hX dX12_within_10 (by decide) ?_
      refine J_goto (tgt := 15) hX dX12_within_11 rfl ?_
      refine J_sub [] rfl ?_
      exact tM_within_15 hX hw hg hR hr (1 : Int32) σ h
theorem ctM_within {w : WT} (hw : w.1 = mLy) {v0 : Int32} {v1 : Int32} {v2 : Int32} {σ : St} {r : Int32} {τ : St} (h : rM_within v0 v1 v2 σ = some (r, τ)) : Ct yX12_within cX12_within 3 (some .boolean) 0 0 w [.int v0, .int v1, .int v2] σ (some (.int r)) τ 0 0 :=
  Ct_intro (fun _ => (0, 0)) (by decide) rfl ⟨rfl, Nat.le_refl _⟩ (Nat.le_of_ble_eq_true rfl) (fun X hX hR hwX hg hr => by subst hwX; exact tM_within hX hw hg hR hr v0 v1 v2 σ h)

def rM_standsAsAlways_2 (k2 : Int32 → Int32 → St → Option (St)) (v1 : Int32) (v2 : Int32) (σ : St) : Option (St) :=
  brc ((160 : Int32) ≤ v2) (chk (ib (v1 + (3 : Int32)) 320) (nm (setI σ 6 (v1 + (3 : Int32)).toNatClampNeg (99 : Int32)) fun σ_2 => chk (ib (v1 + (4 : Int32)) 320) (nm (setI σ_2 6 (v1 + (4 : Int32)).toNatClampNeg (60 : Int32)) fun σ_3 => chk (ib (v1 + (5 : Int32)) 320) (nm (setI σ_3 6 (v1 + (5 : Int32)).toNatClampNeg (360 : Int32)) fun σ_4 => chk (ib (v1 + (6 : Int32)) 320) (nm (setI σ_4 6 (v1 + (6 : Int32)).toNatClampNeg (-1 : Int32)) fun σ_5 => chk (ib ((v1 + (6 : Int32)) + (1 : Int32)) 320) (nm (setI σ_5 6 ((v1 + (6 : Int32)) + (1 : Int32)).toNatClampNeg (-1 : Int32)) fun σ_6 => some σ_6)))))) (chk (ib (v1 + v2) 320) (nm (setI σ 6 (v1 + v2).toNatClampNeg (0 : Int32)) fun σ_7 => nm (v2 + Int32.ofInt 1) fun v2_8 => k2 v1 v2_8 σ_7))
set_option maxRecDepth 100000 in
theorem tM_standsAsAlways_2b {X : CX} (hX : gd X cX12_standsAsAlways 3 RX12 none) (hw : (xw X).1 = mLy) (hg : nA X) (hR : xR X = rmOf 0 0 0 0) {τ : St} (hr : xr X = (none, τ)) {k2 : Int32 → Int32 → St → Option (St)} (hk2 : (∀ (v1 : Int32) (v2 : Int32) (σ : St), k2 v1 v2 σ = some τ → Jd X 3 2 [(0, .ref (wad (xw X) 0)), (1, .int v1), (2, .int v2)] [] σ)) (v1 : Int32) (v2 : Int32) (σ : St) (h : rM_standsAsAlways_2 k2 v1 v2 σ = some τ) : Jd X 3 2 [(0, .ref (wad (xw X) 0)), (1, .int v1), (2, .int v2)] [] σ := by
  unfold rM_standsAsAlways_2 at h
  refine J_iload_n (q := 2) hX dX12_standsAsAlways_2 rfl rfl ?_
  refine J_sipush (v := (160 : Int32)) hX dX12_standsAsAlways_3 (by decide) ?_
  refine K_icmp_ge (tgt := 24) hX dX12_standsAsAlways_6 rfl h (fun h => ?_) (fun h => ?_)
  · refine J_aload_n (q := 0) hX dX12_standsAsAlways_24 rfl rfl ?_
    refine K_getc 6 hX (mc_0 hw) cls_X12 (k := 10) (by decide) uw_6_57 rfl dX12_standsAsAlways_25 ?_
    refine J_iload_n (q := 1) hX dX12_standsAsAlways_28 rfl rfl ?_
    refine J_iconst (v := (3 : Int32)) hX dX12_standsAsAlways_29 (by decide) ?_
    refine J_iadd hX dX12_standsAsAlways_30 ?_
    refine J_bipush (v := (99 : Int32)) hX dX12_standsAsAlways_31 (by decide) ?_
    refine K_iast hX (mc_6 hw) dX12_standsAsAlways_33 h (fun σ_2 h => ?_)
    refine J_aload_n (q := 0) hX dX12_standsAsAlways_34 rfl rfl ?_
    refine K_getc 6 hX (mc_0 hw) cls_X12 (k := 10) (by decide) uw_6_57 rfl dX12_standsAsAlways_35 ?_
    refine J_iload_n (q := 1) hX dX12_standsAsAlways_38 rfl rfl ?_
    refine J_iconst (v := (4 : Int32)) hX dX12_standsAsAlways_39 (by decide) ?_
    refine J_iadd hX dX12_standsAsAlways_40 ?_
    refine J_bipush (v := (60 : Int32)) hX dX12_standsAsAlways_41 (by decide) ?_
    refine K_iast hX (mc_6 hw) dX12_standsAsAlways_43 h (fun σ_3 h => ?_)
    refine J_aload_n (q := 0) hX dX12_standsAsAlways_44 rfl rfl ?_
    refine K_getc 6 hX (mc_0 hw) cls_X12 (k := 10) (by decide) uw_6_57 rfl dX12_standsAsAlways_45 ?_
    refine J_iload_n (q := 1) hX dX12_standsAsAlways_48 rfl rfl ?_
    refine J_iconst (v := (5 : Int32)) hX dX12_standsAsAlways_49 (by decide) ?_
    refine J_iadd hX dX12_standsAsAlways_50 ?_
    refine J_sipush (v := (360 : Int32)) hX dX12_standsAsAlways_51 (by decide) ?_
    refine K_iast hX (mc_6 hw) dX12_standsAsAlways_54 h (fun σ_4 h => ?_)
    refine J_aload_n (q := 0) hX dX12_standsAsAlways_55 rfl rfl ?_
    refine K_getc 6 hX (mc_0 hw) cls_X12 (k := 10) (by decide) uw_6_57 rfl dX12_standsAsAlways_56 ?_
    refine J_iload_n (q := 1) hX dX12_standsAsAlways_59 rfl rfl ?_
    refine J_bipush (v := (6 : Int32)) hX dX12_standsAsAlways_60 (by decide) ?_
    refine J_iadd hX dX12_standsAsAlways_62 ?_
    refine J_iconst (v := (-1 : Int32)) hX dX12_standsAsAlways_63 (by decide) ?_
    refine K_iast hX (mc_6 hw) dX12_standsAsAlways_64 h (fun σ_5 h => ?_)
    refine J_aload_n (q := 0) hX dX12_standsAsAlways_65 rfl rfl ?_
    refine K_getc 6 hX (mc_0 hw) cls_X12 (k := 10) (by decide) uw_6_57 rfl dX12_standsAsAlways_66 ?_
    refine J_iload_n (q := 1) hX dX12_standsAsAlways_69 rfl rfl ?_
    refine J_bipush (v := (6 : Int32)) hX dX12_standsAsAlways_70 (by decide) ?_
    refine J_iadd hX dX12_standsAsAlways_72 ?_
    refine J_iconst (v := (1 : Int32)) hX dX12_standsAsAlways_73 (by decide) ?_
    refine J_iadd hX dX12_standsAsAlways_74 ?_
    refine J_iconst (v := (-1 : Int32)) hX dX12_standsAsAlways_75 (by decide) ?_
    refine K_iast hX (mc_6 hw) dX12_standsAsAlways_76 h (fun σ_6 h => ?_)
    exact K_vret hX hr dX12_standsAsAlways_77 h
  · refine J_aload_n (q := 0) hX dX12_standsAsAlways_9 rfl rfl ?_
    refine K_getc 6 hX (mc_0 hw) cls_X12 (k := 10) (by decide) uw_6_57 rfl dX12_standsAsAlways_10 ?_
    refine J_iload_n (q := 1) hX dX12_standsAsAlways_13 rfl rfl ?_
    refine J_iload_n (q := 2) hX dX12_standsAsAlways_14 rfl rfl ?_
    refine J_iadd hX dX12_standsAsAlways_15 ?_
    refine J_iconst (v := (0 : Int32)) hX dX12_standsAsAlways_16 (by decide) ?_
    refine K_iast hX (mc_6 hw) dX12_standsAsAlways_17 h (fun σ_7 h => ?_)
    refine K_iinc (q := 2) (fun v2_8 => [(2, .int v2_8), (0, .ref (wad (xw X) 0)), (1, .int v1)]) hX dX12_standsAsAlways_18 rfl (by decide) (fun _ => rfl) h (fun v2_8 h => ?_)
    refine J_goto (tgt := 2) hX dX12_standsAsAlways_21 rfl ?_
    refine J_sub [1, 2, 0] rfl ?_
    exact hk2 v1 v2_8 σ_7 h
def rM_standsAsAlways_2L : ((Int32 × Int32 × St) → Option (St)) → (Int32 × Int32 × St) → Option (St) := fun k a => rM_standsAsAlways_2 (fun v1 v2 σ => k (v1, v2, σ)) a.1 a.2.1 a.2.2
theorem tM_standsAsAlways_2 {X : CX} (hX : gd X cX12_standsAsAlways 3 RX12 none) (hw : (xw X).1 = mLy) (hg : nA X) (hR : xR X = rmOf 0 0 0 0) {τ : St} (hr : xr X = (none, τ)) (n : Nat) (v1 : Int32) (v2 : Int32) (σ : St) (h : lp (rM_standsAsAlways_2L) n (v1, v2, σ) = some τ) : Jd X 3 2 [(0, .ref (wad (xw X) 0)), (1, .int v1), (2, .int v2)] [] σ :=
  lp_ind (F := rM_standsAsAlways_2L) (P := fun a => Jd X 3 2 [(0, .ref (wad (xw X) 0)), (1, .int a.1), (2, .int a.2.1)] [] a.2.2) (fun k a hk h => tM_standsAsAlways_2b hX hw hg hR hr (fun v1 v2 σ h => hk (v1, v2, σ) h) a.1 a.2.1 a.2.2 h) n (v1, v2, σ) h

def rM_standsAsAlways (v1 : Int32) (σ : St) : Option (St) :=
  nm (0 : Int32) fun v2_1 => lp (rM_standsAsAlways_2L) fu (v1, v2_1, σ)
set_option maxRecDepth 100000 in
theorem tM_standsAsAlways {X : CX} (hX : gd X cX12_standsAsAlways 3 RX12 none) (hw : (xw X).1 = mLy) (hg : nA X) (hR : xR X = rmOf 0 0 0 0) {τ : St} (hr : xr X = (none, τ)) (v1 : Int32) (σ : St) (h : rM_standsAsAlways v1 σ = some τ) : Jd X 3 0 [(0, .ref (wad (xw X) 0)), (1, .int v1)] [] σ := by
  unfold rM_standsAsAlways at h
  refine J_iconst (v := (0 : Int32)) hX dX12_standsAsAlways_0 (by decide) ?_
  refine K_istore_n (fun v2_1 => [(2, .int v2_1), (0, .ref (wad (xw X) 0)), (1, .int v1)]) hX dX12_standsAsAlways_1 rfl (by decide) (fun _ => rfl) h (fun v2_1 h => ?_)
  refine J_sub [1, 2, 0] rfl ?_
  exact tM_standsAsAlways_2 hX hw hg hR hr fu v1 v2_1 σ h
theorem ctM_standsAsAlways {w : WT} (hw : w.1 = mLy) {v1 : Int32} {σ : St} {τ : St} (h : rM_standsAsAlways v1 σ = some τ) : Ct yX12_standsAsAlways cX12_standsAsAlways 3 none 0 0 w [.ref (wad w 0), .int v1] σ none τ 0 0 :=
  Ct_intro (fun _ => (0, 0)) (by decide) rfl ⟨rfl, Nat.le_refl _⟩ (Nat.le_of_ble_eq_true rfl) (fun X hX hR hwX hg hr => by subst hwX; exact tM_standsAsAlways hX hw hg hR hr v1 σ h)

def rM_isName_62 (k28 : Int32 → Int32 → St → Option (Int32 × St)) (v2 : Int32) (s0 : Int32) (σ : St) : Option (Int32 × St) :=
  nm s0 fun v1_3 => nm (v2 + Int32.ofInt 1) fun v2_4 => k28 v1_3 v2_4 σ
set_option maxRecDepth 100000 in
theorem tM_isName_62 {X : CX} (hX : gd X cX12_isName 3 RX12 (some .boolean)) (hw : (xw X).1 = mLy) (hg : nA X) (hR : xR X = rmOf 0 0 0 0) {r : Int32} {τ : St} (hr : xr X = (some (.int r), τ)) {k28 : Int32 → Int32 → St → Option (Int32 × St)} (hk28 : (∀ (v1 : Int32) (v2 : Int32) (σ : St), k28 v1 v2 σ = some (r, τ) → Jd X 3 28 [(0, .ref (wad (xw X) 0)), (1, .int v1), (2, .int v2)] [] σ)) (v2 : Int32) (s0 : Int32) (σ : St) (h : rM_isName_62 k28 v2 s0 σ = some (r, τ)) : Jd X 3 62 [(0, .ref (wad (xw X) 0)), (2, .int v2)] [.int s0] σ := by
  unfold rM_isName_62 at h
  refine K_istore_n (fun v1_3 => [(1, .int v1_3), (0, .ref (wad (xw X) 0)), (2, .int v2)]) hX dX12_isName_62 rfl (by decide) (fun _ => rfl) h (fun v1_3 h => ?_)
  refine K_iinc (q := 2) (fun v2_4 => [(2, .int v2_4), (1, .int v1_3), (0, .ref (wad (xw X) 0))]) hX dX12_isName_63 rfl (by decide) (fun _ => rfl) h (fun v2_4 h => ?_)
  refine J_goto (tgt := 28) hX dX12_isName_66 rfl ?_
  refine J_sub [2, 1, 0] rfl ?_
  exact hk28 v1_3 v2_4 σ h

def rM_isName_61 (k28 : Int32 → Int32 → St → Option (Int32 × St)) (v2 : Int32) (σ : St) : Option (Int32 × St) :=
  rM_isName_62 k28 v2 (0 : Int32) σ
set_option maxRecDepth 100000 in
theorem tM_isName_61 {X : CX} (hX : gd X cX12_isName 3 RX12 (some .boolean)) (hw : (xw X).1 = mLy) (hg : nA X) (hR : xR X = rmOf 0 0 0 0) {r : Int32} {τ : St} (hr : xr X = (some (.int r), τ)) {k28 : Int32 → Int32 → St → Option (Int32 × St)} (hk28 : (∀ (v1 : Int32) (v2 : Int32) (σ : St), k28 v1 v2 σ = some (r, τ) → Jd X 3 28 [(0, .ref (wad (xw X) 0)), (1, .int v1), (2, .int v2)] [] σ)) (v2 : Int32) (σ : St) (h : rM_isName_61 k28 v2 σ = some (r, τ)) : Jd X 3 61 [(0, .ref (wad (xw X) 0)), (2, .int v2)] [] σ := by
  unfold rM_isName_61 at h
  refine J_iconst (v := (0 : Int32)) hX dX12_isName_61 (by decide) ?_
  refine J_sub [0, 1] rfl ?_
  exact tM_isName_62 hX hw hg hR hr hk28 v2 (0 : Int32) σ h

def rM_isName_28 (k28 : Int32 → Int32 → St → Option (Int32 × St)) (v1 : Int32) (v2 : Int32) (σ : St) : Option (Int32 × St) :=
  brc ((25 : Int32) ≤ v2) (chk (decide (v1 = 0 ∨ v1 = 1)) (some (v1, σ))) (brc (v1 = 0) (rM_isName_61 k28 v2 σ) (chk (ib (σ.1 0 7) 1002) (chk (ib v2 30) (brc ((lg_cmp (σ.2.1 4 (σ.1 0 7).toNatClampNeg) (σ.2.1 5 v2.toNatClampNeg)) = 0) (rM_isName_61 k28 v2 σ) (rM_isName_62 k28 v2 (1 : Int32) σ)))))
set_option maxRecDepth 100000 in
theorem tM_isName_28b {X : CX} (hX : gd X cX12_isName 3 RX12 (some .boolean)) (hw : (xw X).1 = mLy) (hg : nA X) (hR : xR X = rmOf 0 0 0 0) {r : Int32} {τ : St} (hr : xr X = (some (.int r), τ)) {k28 : Int32 → Int32 → St → Option (Int32 × St)} (hk28 : (∀ (v1 : Int32) (v2 : Int32) (σ : St), k28 v1 v2 σ = some (r, τ) → Jd X 3 28 [(0, .ref (wad (xw X) 0)), (1, .int v1), (2, .int v2)] [] σ)) (v1 : Int32) (v2 : Int32) (σ : St) (h : rM_isName_28 k28 v1 v2 σ = some (r, τ)) : Jd X 3 28 [(0, .ref (wad (xw X) 0)), (1, .int v1), (2, .int v2)] [] σ := by
  unfold rM_isName_28 at h
  refine J_iload_n (q := 2) hX dX12_isName_28 rfl rfl ?_
  refine J_bipush (v := (25 : Int32)) hX dX12_isName_29 (by decide) ?_
  refine K_icmp_ge (tgt := 69) hX dX12_isName_31 rfl h (fun h => ?_) (fun h => ?_)
  · refine J_iload_n (q := 1) hX dX12_isName_69 rfl rfl ?_
    exact K_zret hX hr dX12_isName_70 h
  · refine J_iload_n (q := 1) hX dX12_isName_34 rfl rfl ?_
    refine K_if_eq (tgt := 61) hX dX12_isName_35 rfl h (fun h => ?_) (fun h => ?_)
    · refine J_sub [0, 2] rfl ?_
      exact tM_isName_61 hX hw hg hR hr hk28 v2 σ h
    · refine J_aload_n (q := 0) hX dX12_isName_38 rfl rfl ?_
      refine K_getc 4 hX (mc_0 hw) cls_X12 (k := 6) (by decide) uw_6_53 rfl dX12_isName_39 ?_
      refine J_aload_n (q := 0) hX dX12_isName_42 rfl rfl ?_
      refine K_geti hX (mc_0 hw) cls_X12 (k := 7) (by decide) uw_6_54 rfl dX12_isName_43 ?_
      refine K_lald hX (mc_4 hw) dX12_isName_46 h (fun h => ?_)
      refine J_aload_n (q := 0) hX dX12_isName_47 rfl rfl ?_
      refine K_getc 5 hX (mc_0 hw) cls_X12 (k := 9) (by decide) uw_6_56 rfl dX12_isName_48 ?_
      refine J_iload_n (q := 2) hX dX12_isName_51 rfl rfl ?_
      refine K_lald hX (mc_5 hw) dX12_isName_52 h (fun h => ?_)
      refine J_lcmp hX dX12_isName_53 ?_
      refine K_if_eq (tgt := 61) hX dX12_isName_54 rfl h (fun h => ?_) (fun h => ?_)
      · refine J_sub [0, 2] rfl ?_
        exact tM_isName_61 hX hw hg hR hr hk28 v2 σ h
      · refine J_iconst (v := (1 : Int32)) hX dX12_isName_57 (by decide) ?_
        refine J_goto (tgt := 62) hX dX12_isName_58 rfl ?_
        refine J_sub [0, 2] rfl ?_
        exact tM_isName_62 hX hw hg hR hr hk28 v2 (1 : Int32) σ h
def rM_isName_28L : ((Int32 × Int32 × St) → Option (Int32 × St)) → (Int32 × Int32 × St) → Option (Int32 × St) := fun k a => rM_isName_28 (fun v1 v2 σ => k (v1, v2, σ)) a.1 a.2.1 a.2.2
theorem tM_isName_28 {X : CX} (hX : gd X cX12_isName 3 RX12 (some .boolean)) (hw : (xw X).1 = mLy) (hg : nA X) (hR : xR X = rmOf 0 0 0 0) {r : Int32} {τ : St} (hr : xr X = (some (.int r), τ)) (n : Nat) (v1 : Int32) (v2 : Int32) (σ : St) (h : lp (rM_isName_28L) n (v1, v2, σ) = some (r, τ)) : Jd X 3 28 [(0, .ref (wad (xw X) 0)), (1, .int v1), (2, .int v2)] [] σ :=
  lp_ind (F := rM_isName_28L) (P := fun a => Jd X 3 28 [(0, .ref (wad (xw X) 0)), (1, .int a.1), (2, .int a.2.1)] [] a.2.2) (fun k a hk h => tM_isName_28b hX hw hg hR hr (fun v1 v2 σ h => hk (v1, v2, σ) h) a.1 a.2.1 a.2.2 h) n (v1, v2, σ) h

def rM_isName_25 (s0 : Int32) (σ : St) : Option (Int32 × St) :=
  nm s0 fun v1_1 => nm (0 : Int32) fun v2_2 => lp (rM_isName_28L) fu (v1_1, v2_2, σ)
set_option maxRecDepth 100000 in
theorem tM_isName_25 {X : CX} (hX : gd X cX12_isName 3 RX12 (some .boolean)) (hw : (xw X).1 = mLy) (hg : nA X) (hR : xR X = rmOf 0 0 0 0) {r : Int32} {τ : St} (hr : xr X = (some (.int r), τ)) (s0 : Int32) (σ : St) (h : rM_isName_25 s0 σ = some (r, τ)) : Jd X 3 25 [(0, .ref (wad (xw X) 0))] [.int s0] σ := by
  unfold rM_isName_25 at h
  refine K_istore_n (fun v1_1 => [(1, .int v1_1), (0, .ref (wad (xw X) 0))]) hX dX12_isName_25 rfl (by decide) (fun _ => rfl) h (fun v1_1 h => ?_)
  refine J_iconst (v := (0 : Int32)) hX dX12_isName_26 (by decide) ?_
  refine K_istore_n (fun v2_2 => [(2, .int v2_2), (1, .int v1_1), (0, .ref (wad (xw X) 0))]) hX dX12_isName_27 rfl (by decide) (fun _ => rfl) h (fun v2_2 h => ?_)
  refine J_sub [2, 1, 0] rfl ?_
  exact tM_isName_28 hX hw hg hR hr fu v1_1 v2_2 σ h

def rM_isName_24 (σ : St) : Option (Int32 × St) :=
  rM_isName_25 (0 : Int32) σ
set_option maxRecDepth 100000 in
theorem tM_isName_24 {X : CX} (hX : gd X cX12_isName 3 RX12 (some .boolean)) (hw : (xw X).1 = mLy) (hg : nA X) (hR : xR X = rmOf 0 0 0 0) {r : Int32} {τ : St} (hr : xr X = (some (.int r), τ)) (σ : St) (h : rM_isName_24 σ = some (r, τ)) : Jd X 3 24 [(0, .ref (wad (xw X) 0))] [] σ := by
  unfold rM_isName_24 at h
  refine J_iconst (v := (0 : Int32)) hX dX12_isName_24 (by decide) ?_
  refine J_sub [0] rfl ?_
  exact tM_isName_25 hX hw hg hR hr (0 : Int32) σ h

def rM_isName (σ : St) : Option (Int32 × St) :=
  brc (¬ (σ.1 0 8) = 0) (rM_isName_24 σ) (chk (ib (σ.1 0 7) 1002) (brc (¬ (σ.1 2 (σ.1 0 7).toNatClampNeg) = (1 : Int32)) (rM_isName_24 σ) (rM_isName_25 (1 : Int32) σ)))
set_option maxRecDepth 100000 in
theorem tM_isName {X : CX} (hX : gd X cX12_isName 3 RX12 (some .boolean)) (hw : (xw X).1 = mLy) (hg : nA X) (hR : xR X = rmOf 0 0 0 0) {r : Int32} {τ : St} (hr : xr X = (some (.int r), τ)) (σ : St) (h : rM_isName σ = some (r, τ)) : Jd X 3 0 [(0, .ref (wad (xw X) 0))] [] σ := by
  unfold rM_isName at h
  refine J_aload_n (q := 0) hX dX12_isName_0 rfl rfl ?_
  refine K_geti hX (mc_0 hw) cls_X12 (k := 8) (by decide) uw_6_55 rfl dX12_isName_1 ?_
  refine K_if_ne (tgt := 24) hX dX12_isName_4 rfl h (fun h => ?_) (fun h => ?_)
  · refine J_sub [0] rfl ?_
    exact tM_isName_24 hX hw hg hR hr σ h
  · refine J_aload_n (q := 0) hX dX12_isName_7 rfl rfl ?_
    refine K_getc 2 hX (mc_0 hw) cls_X12 (k := 4) (by decide) uw_6_51 rfl dX12_isName_8 ?_
    refine J_aload_n (q := 0) hX dX12_isName_11 rfl rfl ?_
    refine K_geti hX (mc_0 hw) cls_X12 (k := 7) (by decide) uw_6_54 rfl dX12_isName_12 ?_
    refine K_iald hX (mc_2 hw) dX12_isName_15 h (fun h => ?_)
    refine J_iconst (v := (1 : Int32)) hX dX12_isName_16 (by decide) ?_
    refine K_icmp_ne (tgt := 24) hX dX12_isName_17 rfl h (fun h => ?_) (fun h => ?_)
    · refine J_sub [0] rfl ?_
      exact tM_isName_24 hX hw hg hR hr σ h
    · refine J_iconst (v := (1 : Int32)) hX dX12_isName_20 (by decide) ?_
      refine J_goto (tgt := 25) hX dX12_isName_21 rfl ?_
      refine J_sub [0] rfl ?_
      exact tM_isName_25 hX hw hg hR hr (1 : Int32) σ h
theorem ctM_isName {w : WT} (hw : w.1 = mLy) {σ : St} {r : Int32} {τ : St} (h : rM_isName σ = some (r, τ)) : Ct yX12_isName cX12_isName 3 (some .boolean) 0 0 w [.ref (wad w 0)] σ (some (.int r)) τ 0 0 :=
  Ct_intro (fun _ => (0, 0)) (by decide) rfl ⟨rfl, Nat.le_refl _⟩ (Nat.le_of_ble_eq_true rfl) (fun X hX hR hwX hg hr => by subst hwX; exact tM_isName hX hw hg hR hr  σ h)

def rM_find_2 (k2 : Int32 → St → Option (Int32 × St)) (v1 : Int32) (σ : St) : Option (Int32 × St) :=
  brc ((σ.1 0 17) ≤ v1) (some ((-1 : Int32), σ)) (chk (ib v1 13) (chk (ib (σ.1 0 7) 1002) (brc (¬ (lg_cmp (σ.2.1 10 v1.toNatClampNeg) (σ.2.1 4 (σ.1 0 7).toNatClampNeg)) = 0) (nm (v1 + Int32.ofInt 1) fun v1_2 => k2 v1_2 σ) (chk (ib v1 13) (some (σ.1 11 v1.toNatClampNeg, σ))))))
set_option maxRecDepth 100000 in
theorem tM_find_2b {X : CX} (hX : gd X cX12_find 2 RX12 (some .int)) (hw : (xw X).1 = mLy) (hg : nA X) (hR : xR X = rmOf 0 0 0 0) {r : Int32} {τ : St} (hr : xr X = (some (.int r), τ)) {k2 : Int32 → St → Option (Int32 × St)} (hk2 : (∀ (v1 : Int32) (σ : St), k2 v1 σ = some (r, τ) → Jd X 2 2 [(0, .ref (wad (xw X) 0)), (1, .int v1)] [] σ)) (v1 : Int32) (σ : St) (h : rM_find_2 k2 v1 σ = some (r, τ)) : Jd X 2 2 [(0, .ref (wad (xw X) 0)), (1, .int v1)] [] σ := by
  unfold rM_find_2 at h
  refine J_iload_n (q := 1) hX dX12_find_2 rfl rfl ?_
  refine J_aload_n (q := 0) hX dX12_find_3 rfl rfl ?_
  refine K_geti hX (mc_0 hw) cls_X12 (k := 17) (by decide) uw_6_64 rfl dX12_find_4 ?_
  refine K_icmp_ge (tgt := 42) hX dX12_find_7 rfl h (fun h => ?_) (fun h => ?_)
  · refine J_iconst (v := (-1 : Int32)) hX dX12_find_42 (by decide) ?_
    exact K_iret hX hr dX12_find_43 h
  · refine J_aload_n (q := 0) hX dX12_find_10 rfl rfl ?_
    refine K_getc 10 hX (mc_0 hw) cls_X12 (k := 15) (by decide) uw_6_62 rfl dX12_find_11 ?_
    refine J_iload_n (q := 1) hX dX12_find_14 rfl rfl ?_
    refine K_lald hX (mc_10 hw) dX12_find_15 h (fun h => ?_)
    refine J_aload_n (q := 0) hX dX12_find_16 rfl rfl ?_
    refine K_getc 4 hX (mc_0 hw) cls_X12 (k := 6) (by decide) uw_6_53 rfl dX12_find_17 ?_
    refine J_aload_n (q := 0) hX dX12_find_20 rfl rfl ?_
    refine K_geti hX (mc_0 hw) cls_X12 (k := 7) (by decide) uw_6_54 rfl dX12_find_21 ?_
    refine K_lald hX (mc_4 hw) dX12_find_24 h (fun h => ?_)
    refine J_lcmp hX dX12_find_25 ?_
    refine K_if_ne (tgt := 36) hX dX12_find_26 rfl h (fun h => ?_) (fun h => ?_)
    · refine K_iinc (q := 1) (fun v1_2 => [(1, .int v1_2), (0, .ref (wad (xw X) 0))]) hX dX12_find_36 rfl (by decide) (fun _ => rfl) h (fun v1_2 h => ?_)
      refine J_goto (tgt := 2) hX dX12_find_39 rfl ?_
      refine J_sub [1, 0] rfl ?_
      exact hk2 v1_2 σ h
    · refine J_aload_n (q := 0) hX dX12_find_29 rfl rfl ?_
      refine K_getc 11 hX (mc_0 hw) cls_X12 (k := 16) (by decide) uw_6_63 rfl dX12_find_30 ?_
      refine J_iload_n (q := 1) hX dX12_find_33 rfl rfl ?_
      refine K_iald hX (mc_11 hw) dX12_find_34 h (fun h => ?_)
      exact K_iret hX hr dX12_find_35 h
def rM_find_2L : ((Int32 × St) → Option (Int32 × St)) → (Int32 × St) → Option (Int32 × St) := fun k a => rM_find_2 (fun v1 σ => k (v1, σ)) a.1 a.2
theorem tM_find_2 {X : CX} (hX : gd X cX12_find 2 RX12 (some .int)) (hw : (xw X).1 = mLy) (hg : nA X) (hR : xR X = rmOf 0 0 0 0) {r : Int32} {τ : St} (hr : xr X = (some (.int r), τ)) (n : Nat) (v1 : Int32) (σ : St) (h : lp (rM_find_2L) n (v1, σ) = some (r, τ)) : Jd X 2 2 [(0, .ref (wad (xw X) 0)), (1, .int v1)] [] σ :=
  lp_ind (F := rM_find_2L) (P := fun a => Jd X 2 2 [(0, .ref (wad (xw X) 0)), (1, .int a.1)] [] a.2) (fun k a hk h => tM_find_2b hX hw hg hR hr (fun v1 σ h => hk (v1, σ) h) a.1 a.2 h) n (v1, σ) h

def rM_find (σ : St) : Option (Int32 × St) :=
  nm (0 : Int32) fun v1_1 => lp (rM_find_2L) fu (v1_1, σ)
set_option maxRecDepth 100000 in
theorem tM_find {X : CX} (hX : gd X cX12_find 2 RX12 (some .int)) (hw : (xw X).1 = mLy) (hg : nA X) (hR : xR X = rmOf 0 0 0 0) {r : Int32} {τ : St} (hr : xr X = (some (.int r), τ)) (σ : St) (h : rM_find σ = some (r, τ)) : Jd X 2 0 [(0, .ref (wad (xw X) 0))] [] σ := by
  unfold rM_find at h
  refine J_iconst (v := (0 : Int32)) hX dX12_find_0 (by decide) ?_
  refine K_istore_n (fun v1_1 => [(1, .int v1_1), (0, .ref (wad (xw X) 0))]) hX dX12_find_1 rfl (by decide) (fun _ => rfl) h (fun v1_1 h => ?_)
  refine J_sub [1, 0] rfl ?_
  exact tM_find_2 hX hw hg hR hr fu v1_1 σ h
theorem ctM_find {w : WT} (hw : w.1 = mLy) {σ : St} {r : Int32} {τ : St} (h : rM_find σ = some (r, τ)) : Ct yX12_find cX12_find 2 (some .int) 0 0 w [.ref (wad w 0)] σ (some (.int r)) τ 0 0 :=
  Ct_intro (fun _ => (0, 0)) (by decide) rfl ⟨rfl, Nat.le_refl _⟩ (Nat.le_of_ble_eq_true rfl) (fun X hX hR hwX hg hr => by subst hwX; exact tM_find hX hw hg hR hr  σ h)

def rM_emit (v1 : Int32) (v2 : Int32) (σ : St) : Option (St) :=
  chk (ib ((1100 : Int32) + (σ.1 0 14)) 2200) (nm (setI σ 8 ((1100 : Int32) + (σ.1 0 14)).toNatClampNeg v1) fun σ_1 => chk (ib ((1100 : Int32) + (σ_1.1 0 14)) 2200) (nm (setI σ_1 9 ((1100 : Int32) + (σ_1.1 0 14)).toNatClampNeg v2) fun σ_2 => nm (setI σ_2 0 14 ((σ_2.1 0 14) + (1 : Int32))) fun σ_3 => some σ_3))
set_option maxRecDepth 100000 in
theorem tM_emit {X : CX} (hX : gd X cX12_emit 3 RX12 none) (hw : (xw X).1 = mLy) (hg : nA X) (hR : xR X = rmOf 0 0 0 0) {τ : St} (hr : xr X = (none, τ)) (v1 : Int32) (v2 : Int32) (σ : St) (h : rM_emit v1 v2 σ = some τ) : Jd X 3 0 [(0, .ref (wad (xw X) 0)), (1, .int v1), (2, .int v2)] [] σ := by
  unfold rM_emit at h
  refine J_aload_n (q := 0) hX dX12_emit_0 rfl rfl ?_
  refine K_getc 8 hX (mc_0 hw) cls_X12 (k := 12) (by decide) uw_6_59 rfl dX12_emit_1 ?_
  refine J_sipush (v := (1100 : Int32)) hX dX12_emit_4 (by decide) ?_
  refine J_aload_n (q := 0) hX dX12_emit_7 rfl rfl ?_
  refine K_geti hX (mc_0 hw) cls_X12 (k := 14) (by decide) uw_6_61 rfl dX12_emit_8 ?_
  refine J_iadd hX dX12_emit_11 ?_
  refine J_iload_n (q := 1) hX dX12_emit_12 rfl rfl ?_
  refine K_iast hX (mc_8 hw) dX12_emit_13 h (fun σ_1 h => ?_)
  refine J_aload_n (q := 0) hX dX12_emit_14 rfl rfl ?_
  refine K_getc 9 hX (mc_0 hw) cls_X12 (k := 13) (by decide) uw_6_60 rfl dX12_emit_15 ?_
  refine J_sipush (v := (1100 : Int32)) hX dX12_emit_18 (by decide) ?_
  refine J_aload_n (q := 0) hX dX12_emit_21 rfl rfl ?_
  refine K_geti hX (mc_0 hw) cls_X12 (k := 14) (by decide) uw_6_61 rfl dX12_emit_22 ?_
  refine J_iadd hX dX12_emit_25 ?_
  refine J_iload_n (q := 2) hX dX12_emit_26 rfl rfl ?_
  refine K_iast hX (mc_9 hw) dX12_emit_27 h (fun σ_2 h => ?_)
  refine J_aload_n (q := 0) hX dX12_emit_28 rfl rfl ?_
  refine J_dup hX dX12_emit_29 rfl ?_
  refine K_geti hX (mc_0 hw) cls_X12 (k := 14) (by decide) uw_6_61 rfl dX12_emit_30 ?_
  refine J_iconst (v := (1 : Int32)) hX dX12_emit_33 (by decide) ?_
  refine J_iadd hX dX12_emit_34 ?_
  refine K_puti hX (mc_0 hw) cls_X12 (k := 14) (by decide) uw_6_61 rfl rfl rfl dX12_emit_35 h (fun σ_3 h => ?_)
  exact K_vret hX hr dX12_emit_38 h
theorem ctM_emit {w : WT} (hw : w.1 = mLy) {v1 : Int32} {v2 : Int32} {σ : St} {τ : St} (h : rM_emit v1 v2 σ = some τ) : Ct yX12_emit cX12_emit 3 none 0 0 w [.ref (wad w 0), .int v1, .int v2] σ none τ 0 0 :=
  Ct_intro (fun _ => (0, 0)) (by decide) rfl ⟨rfl, Nat.le_refl _⟩ (Nat.le_of_ble_eq_true rfl) (fun X hX hR hwX hg hr => by subst hwX; exact tM_emit hX hw hg hR hr v1 v2 σ h)

def rM_both_62 (s0 : Int32) (σ : St) : Option (Int32 × St) :=
  some (s0, σ)
set_option maxRecDepth 100000 in
theorem tM_both_62 {X : CX} (hX : gd X cX12_both 3 RX12 (some .int)) (hw : (xw X).1 = mLy) (hg : nA X) (hR : xR X = rmOf 0 0 0 0) {r : Int32} {τ : St} (hr : xr X = (some (.int r), τ)) (s0 : Int32) (σ : St) (h : rM_both_62 s0 σ = some (r, τ)) : Jd X 3 62 [] [.int s0] σ := by
  unfold rM_both_62 at h
  exact K_iret hX hr dX12_both_62 h

def rM_both_73 (s0 : Int32) (σ : St) : Option (Int32 × St) :=
  some (s0, σ)
set_option maxRecDepth 100000 in
theorem tM_both_73 {X : CX} (hX : gd X cX12_both 3 RX12 (some .int)) (hw : (xw X).1 = mLy) (hg : nA X) (hR : xR X = rmOf 0 0 0 0) {r : Int32} {τ : St} (hr : xr X = (some (.int r), τ)) (s0 : Int32) (σ : St) (h : rM_both_73 s0 σ = some (r, τ)) : Jd X 3 73 [] [.int s0] σ := by
  unfold rM_both_73 at h
  exact K_iret hX hr dX12_both_73 h

def rM_both_87 (s0 : Int32) (σ : St) : Option (Int32 × St) :=
  some (s0, σ)
set_option maxRecDepth 100000 in
theorem tM_both_87 {X : CX} (hX : gd X cX12_both 3 RX12 (some .int)) (hw : (xw X).1 = mLy) (hg : nA X) (hR : xR X = rmOf 0 0 0 0) {r : Int32} {τ : St} (hr : xr X = (some (.int r), τ)) (s0 : Int32) (σ : St) (h : rM_both_87 s0 σ = some (r, τ)) : Jd X 3 87 [] [.int s0] σ := by
  unfold rM_both_87 at h
  exact K_iret hX hr dX12_both_87 h

def rM_both_86 (σ : St) : Option (Int32 × St) :=
  rM_both_87 (0 : Int32) σ
set_option maxRecDepth 100000 in
theorem tM_both_86 {X : CX} (hX : gd X cX12_both 3 RX12 (some .int)) (hw : (xw X).1 = mLy) (hg : nA X) (hR : xR X = rmOf 0 0 0 0) {r : Int32} {τ : St} (hr : xr X = (some (.int r), τ)) (σ : St) (h : rM_both_86 σ = some (r, τ)) : Jd X 3 86 [] [] σ := by
  unfold rM_both_86 at h
  refine J_iconst (v := (0 : Int32)) hX dX12_both_86 (by decide) ?_
  refine J_sub [] rfl ?_
  exact tM_both_87 hX hw hg hR hr (0 : Int32) σ h

def rM_both_101 (s0 : Int32) (σ : St) : Option (Int32 × St) :=
  some (s0, σ)
set_option maxRecDepth 100000 in
theorem tM_both_101 {X : CX} (hX : gd X cX12_both 3 RX12 (some .int)) (hw : (xw X).1 = mLy) (hg : nA X) (hR : xR X = rmOf 0 0 0 0) {r : Int32} {τ : St} (hr : xr X = (some (.int r), τ)) (s0 : Int32) (σ : St) (h : rM_both_101 s0 σ = some (r, τ)) : Jd X 3 101 [] [.int s0] σ := by
  unfold rM_both_101 at h
  exact K_iret hX hr dX12_both_101 h

def rM_both_96 (σ : St) : Option (Int32 × St) :=
  rM_both_101 (1 : Int32) σ
set_option maxRecDepth 100000 in
theorem tM_both_96 {X : CX} (hX : gd X cX12_both 3 RX12 (some .int)) (hw : (xw X).1 = mLy) (hg : nA X) (hR : xR X = rmOf 0 0 0 0) {r : Int32} {τ : St} (hr : xr X = (some (.int r), τ)) (σ : St) (h : rM_both_96 σ = some (r, τ)) : Jd X 3 96 [] [] σ := by
  unfold rM_both_96 at h
  refine J_iconst (v := (1 : Int32)) hX dX12_both_96 (by decide) ?_
  refine J_goto (tgt := 101) hX dX12_both_97 rfl ?_
  refine J_sub [] rfl ?_
  exact tM_both_101 hX hw hg hR hr (1 : Int32) σ h

def rM_both (v0 : Int32) (v1 : Int32) (v2 : Int32) (σ : St) : Option (Int32 × St) :=
  brc ((v0).toInt = 4) (some (v1 + v2, σ)) (brc ((v0).toInt = 5) (some (v1 - v2, σ)) (brc ((v0).toInt = 6) (some (v1 * v2, σ)) (brc ((v0).toInt = 7) (brc (v2 ≤ v1) (rM_both_62 (0 : Int32) σ) (rM_both_62 (1 : Int32) σ)) (brc ((v0).toInt = 8) (brc (¬ v1 = v2) (rM_both_73 (0 : Int32) σ) (rM_both_73 (1 : Int32) σ)) (brc ((v0).toInt = 9) (brc (v1 = 0) (rM_both_86 σ) (brc (v2 = 0) (rM_both_86 σ) (rM_both_87 (1 : Int32) σ))) (brc (¬ v1 = 0) (rM_both_96 σ) (brc (v2 = 0) (rM_both_101 (0 : Int32) σ) (rM_both_96 σ))))))))
set_option maxRecDepth 100000 in
theorem tM_both {X : CX} (hX : gd X cX12_both 3 RX12 (some .int)) (hw : (xw X).1 = mLy) (hg : nA X) (hR : xR X = rmOf 0 0 0 0) {r : Int32} {τ : St} (hr : xr X = (some (.int r), τ)) (v0 : Int32) (v1 : Int32) (v2 : Int32) (σ : St) (h : rM_both v0 v1 v2 σ = some (r, τ)) : Jd X 3 0 [(0, .int v0), (1, .int v1), (2, .int v2)] [] σ := by
  unfold rM_both at h
  refine J_iload_n (q := 0) hX dX12_both_0 rfl rfl ?_
  rcases brc_some h with ⟨hc, h⟩ | ⟨hn_1, h⟩
  · refine K_tabIn (v := 4) (tgt := 40) hX dX12_both_1 hc (by decide) (by decide) rfl rfl ?_
    refine J_iload_n (q := 1) hX dX12_both_40 rfl rfl ?_
    refine J_iload_n (q := 2) hX dX12_both_41 rfl rfl ?_
    refine J_iadd hX dX12_both_42 ?_
    exact K_iret hX hr dX12_both_43 h
  rcases brc_some h with ⟨hc, h⟩ | ⟨hn_2, h⟩
  · refine K_tabIn (v := 5) (tgt := 44) hX dX12_both_1 hc (by decide) (by decide) rfl rfl ?_
    refine J_iload_n (q := 1) hX dX12_both_44 rfl rfl ?_
    refine J_iload_n (q := 2) hX dX12_both_45 rfl rfl ?_
    refine J_isub hX dX12_both_46 ?_
    exact K_iret hX hr dX12_both_47 h
  rcases brc_some h with ⟨hc, h⟩ | ⟨hn_3, h⟩
  · refine K_tabIn (v := 6) (tgt := 48) hX dX12_both_1 hc (by decide) (by decide) rfl rfl ?_
    refine J_iload_n (q := 1) hX dX12_both_48 rfl rfl ?_
    refine J_iload_n (q := 2) hX dX12_both_49 rfl rfl ?_
    refine J_imul hX dX12_both_50 ?_
    exact K_iret hX hr dX12_both_51 h
  rcases brc_some h with ⟨hc, h⟩ | ⟨hn_4, h⟩
  · refine K_tabIn (v := 7) (tgt := 52) hX dX12_both_1 hc (by decide) (by decide) rfl rfl ?_
    refine J_iload_n (q := 1) hX dX12_both_52 rfl rfl ?_
    refine J_iload_n (q := 2) hX dX12_both_53 rfl rfl ?_
    refine K_icmp_ge (tgt := 61) hX dX12_both_54 rfl h (fun h => ?_) (fun h => ?_)
    · refine J_iconst (v := (0 : Int32)) hX dX12_both_61 (by decide) ?_
      refine J_sub [] rfl ?_
      exact tM_both_62 hX hw hg hR hr (0 : Int32) σ h
    · refine J_iconst (v := (1 : Int32)) hX dX12_both_57 (by decide) ?_
      refine J_goto (tgt := 62) hX dX12_both_58 rfl ?_
      refine J_sub [] rfl ?_
      exact tM_both_62 hX hw hg hR hr (1 : Int32) σ h
  rcases brc_some h with ⟨hc, h⟩ | ⟨hn_5, h⟩
  · refine K_tabIn (v := 8) (tgt := 63) hX dX12_both_1 hc (by decide) (by decide) rfl rfl ?_
    refine J_iload_n (q := 1) hX dX12_both_63 rfl rfl ?_
    refine J_iload_n (q := 2) hX dX12_both_64 rfl rfl ?_
    refine K_icmp_ne (tgt := 72) hX dX12_both_65 rfl h (fun h => ?_) (fun h => ?_)
    · refine J_iconst (v := (0 : Int32)) hX dX12_both_72 (by decide) ?_
      refine J_sub [] rfl ?_
      exact tM_both_73 hX hw hg hR hr (0 : Int32) σ h
    · refine J_iconst (v := (1 : Int32)) hX dX12_both_68 (by decide) ?_
      refine J_goto (tgt := 73) hX dX12_both_69 rfl ?_
      refine J_sub [] rfl ?_
      exact tM_both_73 hX hw hg hR hr (1 : Int32) σ h
  rcases brc_some h with ⟨hc, h⟩ | ⟨hn_6, h⟩
  · refine K_tabIn (v := 9) (tgt := 74) hX dX12_both_1 hc (by decide) (by decide) rfl rfl ?_
    refine J_iload_n (q := 1) hX dX12_both_74 rfl rfl ?_
    refine K_if_eq (tgt := 86) hX dX12_both_75 rfl h (fun h => ?_) (fun h => ?_)
    · refine J_sub [] rfl ?_
      exact tM_both_86 hX hw hg hR hr σ h
    · refine J_iload_n (q := 2) hX dX12_both_78 rfl rfl ?_
      refine K_if_eq (tgt := 86) hX dX12_both_79 rfl h (fun h => ?_) (fun h => ?_)
      · refine J_sub [] rfl ?_
        exact tM_both_86 hX hw hg hR hr σ h
      · refine J_iconst (v := (1 : Int32)) hX dX12_both_82 (by decide) ?_
        refine J_goto (tgt := 87) hX dX12_both_83 rfl ?_
        refine J_sub [] rfl ?_
        exact tM_both_87 hX hw hg hR hr (1 : Int32) σ h
  refine K_tabOut (tgt := 88) hX dX12_both_1 (by omega) rfl ?_
  refine J_iload_n (q := 1) hX dX12_both_88 rfl rfl ?_
  refine K_if_ne (tgt := 96) hX dX12_both_89 rfl h (fun h => ?_) (fun h => ?_)
  · refine J_sub [] rfl ?_
    exact tM_both_96 hX hw hg hR hr σ h
  · refine J_iload_n (q := 2) hX dX12_both_92 rfl rfl ?_
    refine K_if_eq (tgt := 100) hX dX12_both_93 rfl h (fun h => ?_) (fun h => ?_)
    · refine J_iconst (v := (0 : Int32)) hX dX12_both_100 (by decide) ?_
      refine J_sub [] rfl ?_
      exact tM_both_101 hX hw hg hR hr (0 : Int32) σ h
    · refine J_sub [] rfl ?_
      exact tM_both_96 hX hw hg hR hr σ h
theorem ctM_both {w : WT} (hw : w.1 = mLy) {v0 : Int32} {v1 : Int32} {v2 : Int32} {σ : St} {r : Int32} {τ : St} (h : rM_both v0 v1 v2 σ = some (r, τ)) : Ct yX12_both cX12_both 3 (some .int) 0 0 w [.int v0, .int v1, .int v2] σ (some (.int r)) τ 0 0 :=
  Ct_intro (fun _ => (0, 0)) (by decide) rfl ⟨rfl, Nat.le_refl _⟩ (Nat.le_of_ble_eq_true rfl) (fun X hX hR hwX hg hr => by subst hwX; exact tM_both hX hw hg hR hr v0 v1 v2 σ h)

def rM_copies_3 (k3 : Int32 → Int32 → Int32 → Int32 → St → Option (St)) (v1 : Int32) (v2 : Int32) (v3 : Int32) (v4 : Int32) (σ : St) : Option (St) :=
  brc (v3 ≤ v4) (some σ) (chk (ib (((240 : Int32) * v1) + v4) 6000) (chk (ib (((240 : Int32) * v2) + v4) 6000) (nm (setI σ 16 (((240 : Int32) * v2) + v4).toNatClampNeg (σ.1 16 (((240 : Int32) * v1) + v4).toNatClampNeg)) fun σ_2 => nm (v4 + Int32.ofInt 1) fun v4_3 => k3 v1 v2 v3 v4_3 σ_2)))
set_option maxRecDepth 100000 in
theorem tM_copies_3b {X : CX} (hX : gd X cX12_copies 5 RX12 none) (hw : (xw X).1 = mLy) (hg : nA X) (hR : xR X = rmOf 0 0 0 0) {τ : St} (hr : xr X = (none, τ)) {k3 : Int32 → Int32 → Int32 → Int32 → St → Option (St)} (hk3 : (∀ (v1 : Int32) (v2 : Int32) (v3 : Int32) (v4 : Int32) (σ : St), k3 v1 v2 v3 v4 σ = some τ → Jd X 5 3 [(0, .ref (wad (xw X) 0)), (1, .int v1), (2, .int v2), (3, .int v3), (4, .int v4)] [] σ)) (v1 : Int32) (v2 : Int32) (v3 : Int32) (v4 : Int32) (σ : St) (h : rM_copies_3 k3 v1 v2 v3 v4 σ = some τ) : Jd X 5 3 [(0, .ref (wad (xw X) 0)), (1, .int v1), (2, .int v2), (3, .int v3), (4, .int v4)] [] σ := by
  unfold rM_copies_3 at h
  refine J_iload (q := 4) hX dX12_copies_3 rfl ?_
  refine J_iload_n (q := 3) hX dX12_copies_5 rfl rfl ?_
  refine K_icmp_ge (tgt := 41) hX dX12_copies_6 rfl h (fun h => ?_) (fun h => ?_)
  · exact K_vret hX hr dX12_copies_41 h
  · refine J_aload_n (q := 0) hX dX12_copies_9 rfl rfl ?_
    refine K_getc 16 hX (mc_0 hw) cls_X12 (k := 24) (by decide) uw_6_71 rfl dX12_copies_10 ?_
    refine J_sipush (v := (240 : Int32)) hX dX12_copies_13 (by decide) ?_
    refine J_iload_n (q := 2) hX dX12_copies_16 rfl rfl ?_
    refine J_imul hX dX12_copies_17 ?_
    refine J_iload (q := 4) hX dX12_copies_18 rfl ?_
    refine J_iadd hX dX12_copies_20 ?_
    refine J_aload_n (q := 0) hX dX12_copies_21 rfl rfl ?_
    refine K_getc 16 hX (mc_0 hw) cls_X12 (k := 24) (by decide) uw_6_71 rfl dX12_copies_22 ?_
    refine J_sipush (v := (240 : Int32)) hX dX12_copies_25 (by decide) ?_
    refine J_iload_n (q := 1) hX dX12_copies_28 rfl rfl ?_
    refine J_imul hX dX12_copies_29 ?_
    refine J_iload (q := 4) hX dX12_copies_30 rfl ?_
    refine J_iadd hX dX12_copies_32 ?_
    refine K_iald hX (mc_16 hw) dX12_copies_33 h (fun h => ?_)
    refine K_iast hX (mc_16 hw) dX12_copies_34 h (fun σ_2 h => ?_)
    refine K_iinc (q := 4) (fun v4_3 => [(4, .int v4_3), (0, .ref (wad (xw X) 0)), (1, .int v1), (2, .int v2), (3, .int v3)]) hX dX12_copies_35 rfl (by decide) (fun _ => rfl) h (fun v4_3 h => ?_)
    refine J_goto (tgt := 3) hX dX12_copies_38 rfl ?_
    refine J_sub [1, 2, 3, 4, 0] rfl ?_
    exact hk3 v1 v2 v3 v4_3 σ_2 h
def rM_copies_3L : ((Int32 × Int32 × Int32 × Int32 × St) → Option (St)) → (Int32 × Int32 × Int32 × Int32 × St) → Option (St) := fun k a => rM_copies_3 (fun v1 v2 v3 v4 σ => k (v1, v2, v3, v4, σ)) a.1 a.2.1 a.2.2.1 a.2.2.2.1 a.2.2.2.2
theorem tM_copies_3 {X : CX} (hX : gd X cX12_copies 5 RX12 none) (hw : (xw X).1 = mLy) (hg : nA X) (hR : xR X = rmOf 0 0 0 0) {τ : St} (hr : xr X = (none, τ)) (n : Nat) (v1 : Int32) (v2 : Int32) (v3 : Int32) (v4 : Int32) (σ : St) (h : lp (rM_copies_3L) n (v1, v2, v3, v4, σ) = some τ) : Jd X 5 3 [(0, .ref (wad (xw X) 0)), (1, .int v1), (2, .int v2), (3, .int v3), (4, .int v4)] [] σ :=
  lp_ind (F := rM_copies_3L) (P := fun a => Jd X 5 3 [(0, .ref (wad (xw X) 0)), (1, .int a.1), (2, .int a.2.1), (3, .int a.2.2.1), (4, .int a.2.2.2.1)] [] a.2.2.2.2) (fun k a hk h => tM_copies_3b hX hw hg hR hr (fun v1 v2 v3 v4 σ h => hk (v1, v2, v3, v4, σ) h) a.1 a.2.1 a.2.2.1 a.2.2.2.1 a.2.2.2.2 h) n (v1, v2, v3, v4, σ) h

def rM_copies (v1 : Int32) (v2 : Int32) (v3 : Int32) (σ : St) : Option (St) :=
  nm (0 : Int32) fun v4_1 => lp (rM_copies_3L) fu (v1, v2, v3, v4_1, σ)
set_option maxRecDepth 100000 in
theorem tM_copies {X : CX} (hX : gd X cX12_copies 5 RX12 none) (hw : (xw X).1 = mLy) (hg : nA X) (hR : xR X = rmOf 0 0 0 0) {τ : St} (hr : xr X = (none, τ)) (v1 : Int32) (v2 : Int32) (v3 : Int32) (σ : St) (h : rM_copies v1 v2 v3 σ = some τ) : Jd X 5 0 [(0, .ref (wad (xw X) 0)), (1, .int v1), (2, .int v2), (3, .int v3)] [] σ := by
  unfold rM_copies at h
  refine J_iconst (v := (0 : Int32)) hX dX12_copies_0 (by decide) ?_
  refine K_istore (fun v4_1 => [(4, .int v4_1), (0, .ref (wad (xw X) 0)), (1, .int v1), (2, .int v2), (3, .int v3)]) hX dX12_copies_1 (by decide) (fun _ => rfl) h (fun v4_1 h => ?_)
  refine J_sub [1, 2, 3, 4, 0] rfl ?_
  exact tM_copies_3 hX hw hg hR hr fu v1 v2 v3 v4_1 σ h
theorem ctM_copies {w : WT} (hw : w.1 = mLy) {v1 : Int32} {v2 : Int32} {v3 : Int32} {σ : St} {τ : St} (h : rM_copies v1 v2 v3 σ = some τ) : Ct yX12_copies cX12_copies 5 none 0 0 w [.ref (wad w 0), .int v1, .int v2, .int v3] σ none τ 0 0 :=
  Ct_intro (fun _ => (0, 0)) (by decide) rfl ⟨rfl, Nat.le_refl _⟩ (Nat.le_of_ble_eq_true rfl) (fun X hX hR hwX hg hr => by subst hwX; exact tM_copies hX hw hg hR hr v1 v2 v3 σ h)

def rM_rests_47 (k47 : Int32 → St → Option (St)) (v1 : Int32) (σ : St) : Option (St) :=
  brc ((7 : Int32) ≤ v1) (some σ) (chk (ib (((8 : Int32) + ((2 : Int32) * v1)) + (1 : Int32)) 320) (chk (ib ((43 : Int32) + v1) 6000) (nm (setI σ 16 ((43 : Int32) + v1).toNatClampNeg (σ.1 6 (((8 : Int32) + ((2 : Int32) * v1)) + (1 : Int32)).toNatClampNeg)) fun σ_7 => nm (v1 + Int32.ofInt 1) fun v1_8 => k47 v1_8 σ_7)))
set_option maxRecDepth 100000 in
theorem tM_rests_47b {X : CX} (hX : gd X cX12_rests 2 RX12 none) (hw : (xw X).1 = mLy) (hg : nA X) (hR : xR X = rmOf 0 0 0 0) {τ : St} (hr : xr X = (none, τ)) {k47 : Int32 → St → Option (St)} (hk47 : (∀ (v1 : Int32) (σ : St), k47 v1 σ = some τ → Jd X 2 47 [(0, .ref (wad (xw X) 0)), (1, .int v1)] [] σ)) (v1 : Int32) (σ : St) (h : rM_rests_47 k47 v1 σ = some τ) : Jd X 2 47 [(0, .ref (wad (xw X) 0)), (1, .int v1)] [] σ := by
  unfold rM_rests_47 at h
  refine J_iload_n (q := 1) hX dX12_rests_47 rfl rfl ?_
  refine J_bipush (v := (7 : Int32)) hX dX12_rests_48 (by decide) ?_
  refine K_icmp_ge (tgt := 81) hX dX12_rests_50 rfl h (fun h => ?_) (fun h => ?_)
  · exact K_vret hX hr dX12_rests_81 h
  · refine J_aload_n (q := 0) hX dX12_rests_53 rfl rfl ?_
    refine K_getc 16 hX (mc_0 hw) cls_X12 (k := 24) (by decide) uw_6_71 rfl dX12_rests_54 ?_
    refine J_bipush (v := (43 : Int32)) hX dX12_rests_57 (by decide) ?_
    refine J_iload_n (q := 1) hX dX12_rests_59 rfl rfl ?_
    refine J_iadd hX dX12_rests_60 ?_
    refine J_aload_n (q := 0) hX dX12_rests_61 rfl rfl ?_
    refine K_getc 6 hX (mc_0 hw) cls_X12 (k := 10) (by decide) uw_6_57 rfl dX12_rests_62 ?_
    refine J_bipush (v := (8 : Int32)) hX dX12_rests_65 (by decide) ?_
    refine J_iconst (v := (2 : Int32)) hX dX12_rests_67 (by decide) ?_
    refine J_iload_n (q := 1) hX dX12_rests_68 rfl rfl ?_
    refine J_imul hX dX12_rests_69 ?_
    refine J_iadd hX dX12_rests_70 ?_
    refine J_iconst (v := (1 : Int32)) hX dX12_rests_71 (by decide) ?_
    refine J_iadd hX dX12_rests_72 ?_
    refine K_iald hX (mc_6 hw) dX12_rests_73 h (fun h => ?_)
    refine K_iast hX (mc_16 hw) dX12_rests_74 h (fun σ_7 h => ?_)
    refine K_iinc (q := 1) (fun v1_8 => [(1, .int v1_8), (0, .ref (wad (xw X) 0))]) hX dX12_rests_75 rfl (by decide) (fun _ => rfl) h (fun v1_8 h => ?_)
    refine J_goto (tgt := 47) hX dX12_rests_78 rfl ?_
    refine J_sub [1, 0] rfl ?_
    exact hk47 v1_8 σ_7 h
def rM_rests_47L : ((Int32 × St) → Option (St)) → (Int32 × St) → Option (St) := fun k a => rM_rests_47 (fun v1 σ => k (v1, σ)) a.1 a.2
theorem tM_rests_47 {X : CX} (hX : gd X cX12_rests 2 RX12 none) (hw : (xw X).1 = mLy) (hg : nA X) (hR : xR X = rmOf 0 0 0 0) {τ : St} (hr : xr X = (none, τ)) (n : Nat) (v1 : Int32) (σ : St) (h : lp (rM_rests_47L) n (v1, σ) = some τ) : Jd X 2 47 [(0, .ref (wad (xw X) 0)), (1, .int v1)] [] σ :=
  lp_ind (F := rM_rests_47L) (P := fun a => Jd X 2 47 [(0, .ref (wad (xw X) 0)), (1, .int a.1)] [] a.2) (fun k a hk h => tM_rests_47b hX hw hg hR hr (fun v1 σ h => hk (v1, σ) h) a.1 a.2 h) n (v1, σ) h

def rM_rests (σ : St) : Option (St) :=
  chk (ib (38 : Int32) 6000) (nm (setI σ 16 (38 : Int32).toNatClampNeg (0 : Int32)) fun σ_1 => chk (ib (4 : Int32) 320) (chk (ib (39 : Int32) 6000) (nm (setI σ_1 16 (39 : Int32).toNatClampNeg (σ_1.1 6 (4 : Int32).toNatClampNeg)) fun σ_2 => chk (ib (40 : Int32) 6000) (nm (setI σ_2 16 (40 : Int32).toNatClampNeg (0 : Int32)) fun σ_3 => chk (ib (41 : Int32) 6000) (nm (setI σ_3 16 (41 : Int32).toNatClampNeg (0 : Int32)) fun σ_4 => chk (ib (42 : Int32) 6000) (nm (setI σ_4 16 (42 : Int32).toNatClampNeg (0 : Int32)) fun σ_5 => nm (0 : Int32) fun v1_6 => lp (rM_rests_47L) fu (v1_6, σ_5)))))))
set_option maxRecDepth 100000 in
theorem tM_rests {X : CX} (hX : gd X cX12_rests 2 RX12 none) (hw : (xw X).1 = mLy) (hg : nA X) (hR : xR X = rmOf 0 0 0 0) {τ : St} (hr : xr X = (none, τ)) (σ : St) (h : rM_rests σ = some τ) : Jd X 2 0 [(0, .ref (wad (xw X) 0))] [] σ := by
  unfold rM_rests at h
  refine J_aload_n (q := 0) hX dX12_rests_0 rfl rfl ?_
  refine K_getc 16 hX (mc_0 hw) cls_X12 (k := 24) (by decide) uw_6_71 rfl dX12_rests_1 ?_
  refine J_bipush (v := (38 : Int32)) hX dX12_rests_4 (by decide) ?_
  refine J_iconst (v := (0 : Int32)) hX dX12_rests_6 (by decide) ?_
  refine K_iast hX (mc_16 hw) dX12_rests_7 h (fun σ_1 h => ?_)
  refine J_aload_n (q := 0) hX dX12_rests_8 rfl rfl ?_
  refine K_getc 16 hX (mc_0 hw) cls_X12 (k := 24) (by decide) uw_6_71 rfl dX12_rests_9 ?_
  refine J_bipush (v := (39 : Int32)) hX dX12_rests_12 (by decide) ?_
  refine J_aload_n (q := 0) hX dX12_rests_14 rfl rfl ?_
  refine K_getc 6 hX (mc_0 hw) cls_X12 (k := 10) (by decide) uw_6_57 rfl dX12_rests_15 ?_
  refine J_iconst (v := (4 : Int32)) hX dX12_rests_18 (by decide) ?_
  refine K_iald hX (mc_6 hw) dX12_rests_19 h (fun h => ?_)
  refine K_iast hX (mc_16 hw) dX12_rests_20 h (fun σ_2 h => ?_)
  refine J_aload_n (q := 0) hX dX12_rests_21 rfl rfl ?_
  refine K_getc 16 hX (mc_0 hw) cls_X12 (k := 24) (by decide) uw_6_71 rfl dX12_rests_22 ?_
  refine J_bipush (v := (40 : Int32)) hX dX12_rests_25 (by decide) ?_
  refine J_iconst (v := (0 : Int32)) hX dX12_rests_27 (by decide) ?_
  refine K_iast hX (mc_16 hw) dX12_rests_28 h (fun σ_3 h => ?_)
  refine J_aload_n (q := 0) hX dX12_rests_29 rfl rfl ?_
  refine K_getc 16 hX (mc_0 hw) cls_X12 (k := 24) (by decide) uw_6_71 rfl dX12_rests_30 ?_
  refine J_bipush (v := (41 : Int32)) hX dX12_rests_33 (by decide) ?_
  refine J_iconst (v := (0 : Int32)) hX dX12_rests_35 (by decide) ?_
  refine K_iast hX (mc_16 hw) dX12_rests_36 h (fun σ_4 h => ?_)
  refine J_aload_n (q := 0) hX dX12_rests_37 rfl rfl ?_
  refine K_getc 16 hX (mc_0 hw) cls_X12 (k := 24) (by decide) uw_6_71 rfl dX12_rests_38 ?_
  refine J_bipush (v := (42 : Int32)) hX dX12_rests_41 (by decide) ?_
  refine J_iconst (v := (0 : Int32)) hX dX12_rests_43 (by decide) ?_
  refine K_iast hX (mc_16 hw) dX12_rests_44 h (fun σ_5 h => ?_)
  refine J_iconst (v := (0 : Int32)) hX dX12_rests_45 (by decide) ?_
  refine K_istore_n (fun v1_6 => [(1, .int v1_6), (0, .ref (wad (xw X) 0))]) hX dX12_rests_46 rfl (by decide) (fun _ => rfl) h (fun v1_6 h => ?_)
  refine J_sub [1, 0] rfl ?_
  exact tM_rests_47 hX hw hg hR hr fu v1_6 σ_5 h
theorem ctM_rests {w : WT} (hw : w.1 = mLy) {σ : St} {τ : St} (h : rM_rests σ = some τ) : Ct yX12_rests cX12_rests 2 none 0 0 w [.ref (wad w 0)] σ none τ 0 0 :=
  Ct_intro (fun _ => (0, 0)) (by decide) rfl ⟨rfl, Nat.le_refl _⟩ (Nat.le_of_ble_eq_true rfl) (fun X hX hR hwX hg hr => by subst hwX; exact tM_rests hX hw hg hR hr  σ h)

def rM_stations (σ : St) : Option (Int32 × St) :=
  chk (ib (0 : Int32) 320) (some (σ.1 6 (0 : Int32).toNatClampNeg, σ))
set_option maxRecDepth 100000 in
theorem tM_stations {X : CX} (hX : gd X cX12_stations 1 RX12 (some .int)) (hw : (xw X).1 = mLy) (hg : nA X) (hR : xR X = rmOf 0 0 0 0) {r : Int32} {τ : St} (hr : xr X = (some (.int r), τ)) (σ : St) (h : rM_stations σ = some (r, τ)) : Jd X 1 0 [(0, .ref (wad (xw X) 0))] [] σ := by
  unfold rM_stations at h
  refine J_aload_n (q := 0) hX dX12_stations_0 rfl rfl ?_
  refine K_getc 6 hX (mc_0 hw) cls_X12 (k := 10) (by decide) uw_6_57 rfl dX12_stations_1 ?_
  refine J_iconst (v := (0 : Int32)) hX dX12_stations_4 (by decide) ?_
  refine K_iald hX (mc_6 hw) dX12_stations_5 h (fun h => ?_)
  exact K_iret hX hr dX12_stations_6 h
theorem ctM_stations {w : WT} (hw : w.1 = mLy) {σ : St} {r : Int32} {τ : St} (h : rM_stations σ = some (r, τ)) : Ct yX12_stations cX12_stations 1 (some .int) 0 0 w [.ref (wad w 0)] σ (some (.int r)) τ 0 0 :=
  Ct_intro (fun _ => (0, 0)) (by decide) rfl ⟨rfl, Nat.le_refl _⟩ (Nat.le_of_ble_eq_true rfl) (fun X hX hR hwX hg hr => by subst hwX; exact tM_stations hX hw hg hR hr  σ h)

def rM_carriers (σ : St) : Option (Int32 × St) :=
  chk (ib (2 : Int32) 320) (some (σ.1 6 (2 : Int32).toNatClampNeg, σ))
set_option maxRecDepth 100000 in
theorem tM_carriers {X : CX} (hX : gd X cX12_carriers 1 RX12 (some .int)) (hw : (xw X).1 = mLy) (hg : nA X) (hR : xR X = rmOf 0 0 0 0) {r : Int32} {τ : St} (hr : xr X = (some (.int r), τ)) (σ : St) (h : rM_carriers σ = some (r, τ)) : Jd X 1 0 [(0, .ref (wad (xw X) 0))] [] σ := by
  unfold rM_carriers at h
  refine J_aload_n (q := 0) hX dX12_carriers_0 rfl rfl ?_
  refine K_getc 6 hX (mc_0 hw) cls_X12 (k := 10) (by decide) uw_6_57 rfl dX12_carriers_1 ?_
  refine J_iconst (v := (2 : Int32)) hX dX12_carriers_4 (by decide) ?_
  refine K_iald hX (mc_6 hw) dX12_carriers_5 h (fun h => ?_)
  exact K_iret hX hr dX12_carriers_6 h
theorem ctM_carriers {w : WT} (hw : w.1 = mLy) {σ : St} {r : Int32} {τ : St} (h : rM_carriers σ = some (r, τ)) : Ct yX12_carriers cX12_carriers 1 (some .int) 0 0 w [.ref (wad w 0)] σ (some (.int r)) τ 0 0 :=
  Ct_intro (fun _ => (0, 0)) (by decide) rfl ⟨rfl, Nat.le_refl _⟩ (Nat.le_of_ble_eq_true rfl) (fun X hX hR hwX hg hr => by subst hwX; exact tM_carriers hX hw hg hR hr  σ h)

def rM_carrierOf (v1 : Int32) (v2 : Int32) (σ : St) : Option (Int32 × St) :=
  chk (ib (((120 : Int32) + ((4 : Int32) * v1)) + v2) 320) (some (σ.1 6 (((120 : Int32) + ((4 : Int32) * v1)) + v2).toNatClampNeg, σ))
set_option maxRecDepth 100000 in
theorem tM_carrierOf {X : CX} (hX : gd X cX12_carrierOf 3 RX12 (some .int)) (hw : (xw X).1 = mLy) (hg : nA X) (hR : xR X = rmOf 0 0 0 0) {r : Int32} {τ : St} (hr : xr X = (some (.int r), τ)) (v1 : Int32) (v2 : Int32) (σ : St) (h : rM_carrierOf v1 v2 σ = some (r, τ)) : Jd X 3 0 [(0, .ref (wad (xw X) 0)), (1, .int v1), (2, .int v2)] [] σ := by
  unfold rM_carrierOf at h
  refine J_aload_n (q := 0) hX dX12_carrierOf_0 rfl rfl ?_
  refine K_getc 6 hX (mc_0 hw) cls_X12 (k := 10) (by decide) uw_6_57 rfl dX12_carrierOf_1 ?_
  refine J_bipush (v := (120 : Int32)) hX dX12_carrierOf_4 (by decide) ?_
  refine J_iconst (v := (4 : Int32)) hX dX12_carrierOf_6 (by decide) ?_
  refine J_iload_n (q := 1) hX dX12_carrierOf_7 rfl rfl ?_
  refine J_imul hX dX12_carrierOf_8 ?_
  refine J_iadd hX dX12_carrierOf_9 ?_
  refine J_iload_n (q := 2) hX dX12_carrierOf_10 rfl rfl ?_
  refine J_iadd hX dX12_carrierOf_11 ?_
  refine K_iald hX (mc_6 hw) dX12_carrierOf_12 h (fun h => ?_)
  exact K_iret hX hr dX12_carrierOf_13 h
theorem ctM_carrierOf {w : WT} (hw : w.1 = mLy) {v1 : Int32} {v2 : Int32} {σ : St} {r : Int32} {τ : St} (h : rM_carrierOf v1 v2 σ = some (r, τ)) : Ct yX12_carrierOf cX12_carrierOf 3 (some .int) 0 0 w [.ref (wad w 0), .int v1, .int v2] σ (some (.int r)) τ 0 0 :=
  Ct_intro (fun _ => (0, 0)) (by decide) rfl ⟨rfl, Nat.le_refl _⟩ (Nat.le_of_ble_eq_true rfl) (fun X hX hR hwX hg hr => by subst hwX; exact tM_carrierOf hX hw hg hR hr v1 v2 σ h)

def rM_wayOf (v1 : Int32) (v2 : Int32) (v3 : Int32) (σ : St) : Option (Int32 × St) :=
  chk (ib (((22 : Int32) + ((2 : Int32) * (((7 : Int32) * v1) + v2))) + v3) 320) (some (σ.1 6 (((22 : Int32) + ((2 : Int32) * (((7 : Int32) * v1) + v2))) + v3).toNatClampNeg, σ))
set_option maxRecDepth 100000 in
theorem tM_wayOf {X : CX} (hX : gd X cX12_wayOf 4 RX12 (some .int)) (hw : (xw X).1 = mLy) (hg : nA X) (hR : xR X = rmOf 0 0 0 0) {r : Int32} {τ : St} (hr : xr X = (some (.int r), τ)) (v1 : Int32) (v2 : Int32) (v3 : Int32) (σ : St) (h : rM_wayOf v1 v2 v3 σ = some (r, τ)) : Jd X 4 0 [(0, .ref (wad (xw X) 0)), (1, .int v1), (2, .int v2), (3, .int v3)] [] σ := by
  unfold rM_wayOf at h
  refine J_aload_n (q := 0) hX dX12_wayOf_0 rfl rfl ?_
  refine K_getc 6 hX (mc_0 hw) cls_X12 (k := 10) (by decide) uw_6_57 rfl dX12_wayOf_1 ?_
  refine J_bipush (v := (22 : Int32)) hX dX12_wayOf_4 (by decide) ?_
  refine J_iconst (v := (2 : Int32)) hX dX12_wayOf_6 (by decide) ?_
  refine J_bipush (v := (7 : Int32)) hX dX12_wayOf_7 (by decide) ?_
  refine J_iload_n (q := 1) hX dX12_wayOf_9 rfl rfl ?_
  refine J_imul hX dX12_wayOf_10 ?_
  refine J_iload_n (q := 2) hX dX12_wayOf_11 rfl rfl ?_
  refine J_iadd hX dX12_wayOf_12 ?_
  refine J_imul hX dX12_wayOf_13 ?_
  refine J_iadd hX dX12_wayOf_14 ?_
  refine J_iload_n (q := 3) hX dX12_wayOf_15 rfl rfl ?_
  refine J_iadd hX dX12_wayOf_16 ?_
  refine K_iald hX (mc_6 hw) dX12_wayOf_17 h (fun h => ?_)
  exact K_iret hX hr dX12_wayOf_18 h
theorem ctM_wayOf {w : WT} (hw : w.1 = mLy) {v1 : Int32} {v2 : Int32} {v3 : Int32} {σ : St} {r : Int32} {τ : St} (h : rM_wayOf v1 v2 v3 σ = some (r, τ)) : Ct yX12_wayOf cX12_wayOf 4 (some .int) 0 0 w [.ref (wad w 0), .int v1, .int v2, .int v3] σ (some (.int r)) τ 0 0 :=
  Ct_intro (fun _ => (0, 0)) (by decide) rfl ⟨rfl, Nat.le_refl _⟩ (Nat.le_of_ble_eq_true rfl) (fun X hX hR hwX hg hr => by subst hwX; exact tM_wayOf hX hw hg hR hr v1 v2 v3 σ h)

def rM_isPatched_20 (s0 : Int32) (σ : St) : Option (Int32 × St) :=
  chk (decide (s0 = 0 ∨ s0 = 1)) (some (s0, σ))
set_option maxRecDepth 100000 in
theorem tM_isPatched_20 {X : CX} (hX : gd X cX12_isPatched 2 RX12 (some .boolean)) (hw : (xw X).1 = mLy) (hg : nA X) (hR : xR X = rmOf 0 0 0 0) {r : Int32} {τ : St} (hr : xr X = (some (.int r), τ)) (s0 : Int32) (σ : St) (h : rM_isPatched_20 s0 σ = some (r, τ)) : Jd X 2 20 [] [.int s0] σ := by
  unfold rM_isPatched_20 at h
  exact K_zret hX hr dX12_isPatched_20 h

def rM_isPatched (v1 : Int32) (σ : St) : Option (Int32 × St) :=
  chk (ib (36 : Int32) 6000) (brc (¬ (((σ.1 16 (36 : Int32).toNatClampNeg) >>> (v1 &&& 31)) &&& (1 : Int32)) = (1 : Int32)) (rM_isPatched_20 (0 : Int32) σ) (rM_isPatched_20 (1 : Int32) σ))
set_option maxRecDepth 100000 in
theorem tM_isPatched {X : CX} (hX : gd X cX12_isPatched 2 RX12 (some .boolean)) (hw : (xw X).1 = mLy) (hg : nA X) (hR : xR X = rmOf 0 0 0 0) {r : Int32} {τ : St} (hr : xr X = (some (.int r), τ)) (v1 : Int32) (σ : St) (h : rM_isPatched v1 σ = some (r, τ)) : Jd X 2 0 [(0, .ref (wad (xw X) 0)), (1, .int v1)] [] σ := by
  unfold rM_isPatched at h
  refine J_aload_n (q := 0) hX dX12_isPatched_0 rfl rfl ?_
  refine K_getc 16 hX (mc_0 hw) cls_X12 (k := 24) (by decide) uw_6_71 rfl dX12_isPatched_1 ?_
  refine J_bipush (v := (36 : Int32)) hX dX12_isPatched_4 (by decide) ?_
  refine K_iald hX (mc_16 hw) dX12_isPatched_6 h (fun h => ?_)
  refine J_iload_n (q := 1) hX dX12_isPatched_7 rfl rfl ?_
  refine J_ishr hX dX12_isPatched_8 ?_
  refine J_iconst (v := (1 : Int32)) hX dX12_isPatched_9 (by decide) ?_
  refine J_iand hX dX12_isPatched_10 ?_
  refine J_iconst (v := (1 : Int32)) hX dX12_isPatched_11 (by decide) ?_
  refine K_icmp_ne (tgt := 19) hX dX12_isPatched_12 rfl h (fun h => ?_) (fun h => ?_)
  · refine J_iconst (v := (0 : Int32)) hX dX12_isPatched_19 (by decide) ?_
    refine J_sub [] rfl ?_
    exact tM_isPatched_20 hX hw hg hR hr (0 : Int32) σ h
  · refine J_iconst (v := (1 : Int32)) hX dX12_isPatched_15 (by decide) ?_
    refine J_goto (tgt := 20) hX dX12_isPatched_16 rfl ?_
    refine J_sub [] rfl ?_
    exact tM_isPatched_20 hX hw hg hR hr (1 : Int32) σ h
theorem ctM_isPatched {w : WT} (hw : w.1 = mLy) {v1 : Int32} {σ : St} {r : Int32} {τ : St} (h : rM_isPatched v1 σ = some (r, τ)) : Ct yX12_isPatched cX12_isPatched 2 (some .boolean) 0 0 w [.ref (wad w 0), .int v1] σ (some (.int r)) τ 0 0 :=
  Ct_intro (fun _ => (0, 0)) (by decide) rfl ⟨rfl, Nat.le_refl _⟩ (Nat.le_of_ble_eq_true rfl) (fun X hX hR hwX hg hr => by subst hwX; exact tM_isPatched hX hw hg hR hr v1 σ h)

def rM_debtOf_4 (k4 : Int32 → Int32 → Int32 → St → Option (Int32 × St)) (v1 : Int32) (v2 : Int32) (v3 : Int32) (σ : St) : Option (Int32 × St) :=
  brc ((6 : Int32) ≤ v3) (some (v2, σ)) (chk (ib (((6 : Int32) * v1) + v3) 6000) (chk (ib (((6 : Int32) * v3) + v1) 6000) (nm (v2 + ((σ.1 16 (((6 : Int32) * v1) + v3).toNatClampNeg) - (σ.1 16 (((6 : Int32) * v3) + v1).toNatClampNeg))) fun v2_3 => nm (v3 + Int32.ofInt 1) fun v3_4 => k4 v1 v2_3 v3_4 σ)))
set_option maxRecDepth 100000 in
theorem tM_debtOf_4b {X : CX} (hX : gd X cX12_debtOf 4 RX12 (some .int)) (hw : (xw X).1 = mLy) (hg : nA X) (hR : xR X = rmOf 0 0 0 0) {r : Int32} {τ : St} (hr : xr X = (some (.int r), τ)) {k4 : Int32 → Int32 → Int32 → St → Option (Int32 × St)} (hk4 : (∀ (v1 : Int32) (v2 : Int32) (v3 : Int32) (σ : St), k4 v1 v2 v3 σ = some (r, τ) → Jd X 4 4 [(0, .ref (wad (xw X) 0)), (1, .int v1), (2, .int v2), (3, .int v3)] [] σ)) (v1 : Int32) (v2 : Int32) (v3 : Int32) (σ : St) (h : rM_debtOf_4 k4 v1 v2 v3 σ = some (r, τ)) : Jd X 4 4 [(0, .ref (wad (xw X) 0)), (1, .int v1), (2, .int v2), (3, .int v3)] [] σ := by
  unfold rM_debtOf_4 at h
  refine J_iload_n (q := 3) hX dX12_debtOf_4 rfl rfl ?_
  refine J_bipush (v := (6 : Int32)) hX dX12_debtOf_5 (by decide) ?_
  refine K_icmp_ge (tgt := 42) hX dX12_debtOf_7 rfl h (fun h => ?_) (fun h => ?_)
  · refine J_iload_n (q := 2) hX dX12_debtOf_42 rfl rfl ?_
    exact K_iret hX hr dX12_debtOf_43 h
  · refine J_iload_n (q := 2) hX dX12_debtOf_10 rfl rfl ?_
    refine J_aload_n (q := 0) hX dX12_debtOf_11 rfl rfl ?_
    refine K_getc 16 hX (mc_0 hw) cls_X12 (k := 24) (by decide) uw_6_71 rfl dX12_debtOf_12 ?_
    refine J_bipush (v := (6 : Int32)) hX dX12_debtOf_15 (by decide) ?_
    refine J_iload_n (q := 1) hX dX12_debtOf_17 rfl rfl ?_
    refine J_imul hX dX12_debtOf_18 ?_
    refine J_iload_n (q := 3) hX dX12_debtOf_19 rfl rfl ?_
    refine J_iadd hX dX12_debtOf_20 ?_
    refine K_iald hX (mc_16 hw) dX12_debtOf_21 h (fun h => ?_)
    refine J_aload_n (q := 0) hX dX12_debtOf_22 rfl rfl ?_
    refine K_getc 16 hX (mc_0 hw) cls_X12 (k := 24) (by decide) uw_6_71 rfl dX12_debtOf_23 ?_
    refine J_bipush (v := (6 : Int32)) hX dX12_debtOf_26 (by decide) ?_
    refine J_iload_n (q := 3) hX dX12_debtOf_28 rfl rfl ?_
    refine J_imul hX dX12_debtOf_29 ?_
    refine J_iload_n (q := 1) hX dX12_debtOf_30 rfl rfl ?_
    refine J_iadd hX dX12_debtOf_31 ?_
    refine K_iald hX (mc_16 hw) dX12_debtOf_32 h (fun h => ?_)
    refine J_isub hX dX12_debtOf_33 ?_
    refine J_iadd hX dX12_debtOf_34 ?_
    refine K_istore_n (fun v2_3 => [(2, .int v2_3), (0, .ref (wad (xw X) 0)), (1, .int v1), (3, .int v3)]) hX dX12_debtOf_35 rfl (by decide) (fun _ => rfl) h (fun v2_3 h => ?_)
    refine K_iinc (q := 3) (fun v3_4 => [(3, .int v3_4), (2, .int v2_3), (0, .ref (wad (xw X) 0)), (1, .int v1)]) hX dX12_debtOf_36 rfl (by decide) (fun _ => rfl) h (fun v3_4 h => ?_)
    refine J_goto (tgt := 4) hX dX12_debtOf_39 rfl ?_
    refine J_sub [2, 3, 1, 0] rfl ?_
    exact hk4 v1 v2_3 v3_4 σ h
def rM_debtOf_4L : ((Int32 × Int32 × Int32 × St) → Option (Int32 × St)) → (Int32 × Int32 × Int32 × St) → Option (Int32 × St) := fun k a => rM_debtOf_4 (fun v1 v2 v3 σ => k (v1, v2, v3, σ)) a.1 a.2.1 a.2.2.1 a.2.2.2
theorem tM_debtOf_4 {X : CX} (hX : gd X cX12_debtOf 4 RX12 (some .int)) (hw : (xw X).1 = mLy) (hg : nA X) (hR : xR X = rmOf 0 0 0 0) {r : Int32} {τ : St} (hr : xr X = (some (.int r), τ)) (n : Nat) (v1 : Int32) (v2 : Int32) (v3 : Int32) (σ : St) (h : lp (rM_debtOf_4L) n (v1, v2, v3, σ) = some (r, τ)) : Jd X 4 4 [(0, .ref (wad (xw X) 0)), (1, .int v1), (2, .int v2), (3, .int v3)] [] σ :=
  lp_ind (F := rM_debtOf_4L) (P := fun a => Jd X 4 4 [(0, .ref (wad (xw X) 0)), (1, .int a.1), (2, .int a.2.1), (3, .int a.2.2.1)] [] a.2.2.2) (fun k a hk h => tM_debtOf_4b hX hw hg hR hr (fun v1 v2 v3 σ h => hk (v1, v2, v3, σ) h) a.1 a.2.1 a.2.2.1 a.2.2.2 h) n (v1, v2, v3, σ) h

def rM_debtOf (v1 : Int32) (σ : St) : Option (Int32 × St) :=
  nm (0 : Int32) fun v2_1 => nm (0 : Int32) fun v3_2 => lp (rM_debtOf_4L) fu (v1, v2_1, v3_2, σ)
set_option maxRecDepth 100000 in
theorem tM_debtOf {X : CX} (hX : gd X cX12_debtOf 4 RX12 (some .int)) (hw : (xw X).1 = mLy) (hg : nA X) (hR : xR X = rmOf 0 0 0 0) {r : Int32} {τ : St} (hr : xr X = (some (.int r), τ)) (v1 : Int32) (σ : St) (h : rM_debtOf v1 σ = some (r, τ)) : Jd X 4 0 [(0, .ref (wad (xw X) 0)), (1, .int v1)] [] σ := by
  unfold rM_debtOf at h
  refine J_iconst (v := (0 : Int32)) hX dX12_debtOf_0 (by decide) ?_
  refine K_istore_n (fun v2_1 => [(2, .int v2_1), (0, .ref (wad (xw X) 0)), (1, .int v1)]) hX dX12_debtOf_1 rfl (by decide) (fun _ => rfl) h (fun v2_1 h => ?_)
  refine J_iconst (v := (0 : Int32)) hX dX12_debtOf_2 (by decide) ?_
  refine K_istore_n (fun v3_2 => [(3, .int v3_2), (2, .int v2_1), (0, .ref (wad (xw X) 0)), (1, .int v1)]) hX dX12_debtOf_3 rfl (by decide) (fun _ => rfl) h (fun v3_2 h => ?_)
  refine J_sub [2, 3, 1, 0] rfl ?_
  exact tM_debtOf_4 hX hw hg hR hr fu v1 v2_1 v3_2 σ h
theorem ctM_debtOf {w : WT} (hw : w.1 = mLy) {v1 : Int32} {σ : St} {r : Int32} {τ : St} (h : rM_debtOf v1 σ = some (r, τ)) : Ct yX12_debtOf cX12_debtOf 4 (some .int) 0 0 w [.ref (wad w 0), .int v1] σ (some (.int r)) τ 0 0 :=
  Ct_intro (fun _ => (0, 0)) (by decide) rfl ⟨rfl, Nat.le_refl _⟩ (Nat.le_of_ble_eq_true rfl) (fun X hX hR hwX hg hr => by subst hwX; exact tM_debtOf hX hw hg hR hr v1 σ h)

def rM_isPath_17 (s0 : Int32) (σ : St) : Option (Int32 × St) :=
  chk (decide (s0 = 0 ∨ s0 = 1)) (some (s0, σ))
set_option maxRecDepth 100000 in
theorem tM_isPath_17 {X : CX} (hX : gd X cX12_isPath 2 RX12 (some .boolean)) (hw : (xw X).1 = mLy) (hg : nA X) (hR : xR X = rmOf 0 0 0 0) {r : Int32} {τ : St} (hr : xr X = (some (.int r), τ)) (s0 : Int32) (σ : St) (h : rM_isPath_17 s0 σ = some (r, τ)) : Jd X 2 17 [] [.int s0] σ := by
  unfold rM_isPath_17 at h
  exact K_zret hX hr dX12_isPath_17 h

def rM_isPath_16 (σ : St) : Option (Int32 × St) :=
  rM_isPath_17 (0 : Int32) σ
set_option maxRecDepth 100000 in
theorem tM_isPath_16 {X : CX} (hX : gd X cX12_isPath 2 RX12 (some .boolean)) (hw : (xw X).1 = mLy) (hg : nA X) (hR : xR X = rmOf 0 0 0 0) {r : Int32} {τ : St} (hr : xr X = (some (.int r), τ)) (σ : St) (h : rM_isPath_16 σ = some (r, τ)) : Jd X 2 16 [] [] σ := by
  unfold rM_isPath_16 at h
  refine J_iconst (v := (0 : Int32)) hX dX12_isPath_16 (by decide) ?_
  refine J_sub [] rfl ?_
  exact tM_isPath_17 hX hw hg hR hr (0 : Int32) σ h

def rM_isPath (v1 : Int32) (σ : St) : Option (Int32 × St) :=
  brc (v1 < 0) (rM_isPath_16 σ) (brc ((σ.1 0 27) ≤ v1) (rM_isPath_16 σ) (rM_isPath_17 (1 : Int32) σ))
set_option maxRecDepth 100000 in
theorem tM_isPath {X : CX} (hX : gd X cX12_isPath 2 RX12 (some .boolean)) (hw : (xw X).1 = mLy) (hg : nA X) (hR : xR X = rmOf 0 0 0 0) {r : Int32} {τ : St} (hr : xr X = (some (.int r), τ)) (v1 : Int32) (σ : St) (h : rM_isPath v1 σ = some (r, τ)) : Jd X 2 0 [(0, .ref (wad (xw X) 0)), (1, .int v1)] [] σ := by
  unfold rM_isPath at h
  refine J_iload_n (q := 1) hX dX12_isPath_0 rfl rfl ?_
  refine K_if_lt (tgt := 16) hX dX12_isPath_1 rfl h (fun h => ?_) (fun h => ?_)
  · refine J_sub [] rfl ?_
    exact tM_isPath_16 hX hw hg hR hr σ h
  · refine J_iload_n (q := 1) hX dX12_isPath_4 rfl rfl ?_
    refine J_aload_n (q := 0) hX dX12_isPath_5 rfl rfl ?_
    refine K_geti hX (mc_0 hw) cls_X12 (k := 27) (by decide) uw_6_74 rfl dX12_isPath_6 ?_
    refine K_icmp_ge (tgt := 16) hX dX12_isPath_9 rfl h (fun h => ?_) (fun h => ?_)
    · refine J_sub [] rfl ?_
      exact tM_isPath_16 hX hw hg hR hr σ h
    · refine J_iconst (v := (1 : Int32)) hX dX12_isPath_12 (by decide) ?_
      refine J_goto (tgt := 17) hX dX12_isPath_13 rfl ?_
      refine J_sub [] rfl ?_
      exact tM_isPath_17 hX hw hg hR hr (1 : Int32) σ h
theorem ctM_isPath {w : WT} (hw : w.1 = mLy) {v1 : Int32} {σ : St} {r : Int32} {τ : St} (h : rM_isPath v1 σ = some (r, τ)) : Ct yX12_isPath cX12_isPath 2 (some .boolean) 0 0 w [.ref (wad w 0), .int v1] σ (some (.int r)) τ 0 0 :=
  Ct_intro (fun _ => (0, 0)) (by decide) rfl ⟨rfl, Nat.le_refl _⟩ (Nat.le_of_ble_eq_true rfl) (fun X hX hR hwX hg hr => by subst hwX; exact tM_isPath hX hw hg hR hr v1 σ h)

def rM_lengthOf (v1 : Int32) (σ : St) : Option (Int32 × St) :=
  chk (ib ((8 : Int32) * v1) 3200) (some (σ.1 18 ((8 : Int32) * v1).toNatClampNeg, σ))
set_option maxRecDepth 100000 in
theorem tM_lengthOf {X : CX} (hX : gd X cX12_lengthOf 2 RX12 (some .int)) (hw : (xw X).1 = mLy) (hg : nA X) (hR : xR X = rmOf 0 0 0 0) {r : Int32} {τ : St} (hr : xr X = (some (.int r), τ)) (v1 : Int32) (σ : St) (h : rM_lengthOf v1 σ = some (r, τ)) : Jd X 2 0 [(0, .ref (wad (xw X) 0)), (1, .int v1)] [] σ := by
  unfold rM_lengthOf at h
  refine J_aload_n (q := 0) hX dX12_lengthOf_0 rfl rfl ?_
  refine K_getc 18 hX (mc_0 hw) cls_X12 (k := 28) (by decide) uw_6_75 rfl dX12_lengthOf_1 ?_
  refine J_bipush (v := (8 : Int32)) hX dX12_lengthOf_4 (by decide) ?_
  refine J_iload_n (q := 1) hX dX12_lengthOf_6 rfl rfl ?_
  refine J_imul hX dX12_lengthOf_7 ?_
  refine K_iald hX (mc_18 hw) dX12_lengthOf_8 h (fun h => ?_)
  exact K_iret hX hr dX12_lengthOf_9 h
theorem ctM_lengthOf {w : WT} (hw : w.1 = mLy) {v1 : Int32} {σ : St} {r : Int32} {τ : St} (h : rM_lengthOf v1 σ = some (r, τ)) : Ct yX12_lengthOf cX12_lengthOf 2 (some .int) 0 0 w [.ref (wad w 0), .int v1] σ (some (.int r)) τ 0 0 :=
  Ct_intro (fun _ => (0, 0)) (by decide) rfl ⟨rfl, Nat.le_refl _⟩ (Nat.le_of_ble_eq_true rfl) (fun X hX hR hwX hg hr => by subst hwX; exact tM_lengthOf hX hw hg hR hr v1 σ h)

def rM_stationOf (v1 : Int32) (v2 : Int32) (σ : St) : Option (Int32 × St) :=
  chk (ib ((((8 : Int32) * v1) + (1 : Int32)) + v2) 3200) (some (σ.1 18 ((((8 : Int32) * v1) + (1 : Int32)) + v2).toNatClampNeg, σ))
set_option maxRecDepth 100000 in
theorem tM_stationOf {X : CX} (hX : gd X cX12_stationOf 3 RX12 (some .int)) (hw : (xw X).1 = mLy) (hg : nA X) (hR : xR X = rmOf 0 0 0 0) {r : Int32} {τ : St} (hr : xr X = (some (.int r), τ)) (v1 : Int32) (v2 : Int32) (σ : St) (h : rM_stationOf v1 v2 σ = some (r, τ)) : Jd X 3 0 [(0, .ref (wad (xw X) 0)), (1, .int v1), (2, .int v2)] [] σ := by
  unfold rM_stationOf at h
  refine J_aload_n (q := 0) hX dX12_stationOf_0 rfl rfl ?_
  refine K_getc 18 hX (mc_0 hw) cls_X12 (k := 28) (by decide) uw_6_75 rfl dX12_stationOf_1 ?_
  refine J_bipush (v := (8 : Int32)) hX dX12_stationOf_4 (by decide) ?_
  refine J_iload_n (q := 1) hX dX12_stationOf_6 rfl rfl ?_
  refine J_imul hX dX12_stationOf_7 ?_
  refine J_iconst (v := (1 : Int32)) hX dX12_stationOf_8 (by decide) ?_
  refine J_iadd hX dX12_stationOf_9 ?_
  refine J_iload_n (q := 2) hX dX12_stationOf_10 rfl rfl ?_
  refine J_iadd hX dX12_stationOf_11 ?_
  refine K_iald hX (mc_18 hw) dX12_stationOf_12 h (fun h => ?_)
  exact K_iret hX hr dX12_stationOf_13 h
theorem ctM_stationOf {w : WT} (hw : w.1 = mLy) {v1 : Int32} {v2 : Int32} {σ : St} {r : Int32} {τ : St} (h : rM_stationOf v1 v2 σ = some (r, τ)) : Ct yX12_stationOf cX12_stationOf 3 (some .int) 0 0 w [.ref (wad w 0), .int v1, .int v2] σ (some (.int r)) τ 0 0 :=
  Ct_intro (fun _ => (0, 0)) (by decide) rfl ⟨rfl, Nat.le_refl _⟩ (Nat.le_of_ble_eq_true rfl) (fun X hX hR hwX hg hr => by subst hwX; exact tM_stationOf hX hw hg hR hr v1 v2 σ h)

def rM_starts (v1 : Int32) (σ : St) : Option (St) :=
  nm (setI σ 0 30 v1) fun σ_1 => nm (setI σ_1 0 31 (0 : Int32)) fun σ_2 => nm (setI σ_2 0 32 (0 : Int32)) fun σ_3 => nm (setI σ_3 0 33 (0 : Int32)) fun σ_4 => some σ_4
set_option maxRecDepth 100000 in
theorem tM_starts {X : CX} (hX : gd X cX12_starts 2 RX12 none) (hw : (xw X).1 = mLy) (hg : nA X) (hR : xR X = rmOf 0 0 0 0) {τ : St} (hr : xr X = (none, τ)) (v1 : Int32) (σ : St) (h : rM_starts v1 σ = some τ) : Jd X 2 0 [(0, .ref (wad (xw X) 0)), (1, .int v1)] [] σ := by
  unfold rM_starts at h
  refine J_aload_n (q := 0) hX dX12_starts_0 rfl rfl ?_
  refine J_iload_n (q := 1) hX dX12_starts_1 rfl rfl ?_
  refine K_puti hX (mc_0 hw) cls_X12 (k := 30) (by decide) uw_6_77 rfl rfl rfl dX12_starts_2 h (fun σ_1 h => ?_)
  refine J_aload_n (q := 0) hX dX12_starts_5 rfl rfl ?_
  refine J_iconst (v := (0 : Int32)) hX dX12_starts_6 (by decide) ?_
  refine K_puti hX (mc_0 hw) cls_X12 (k := 31) (by decide) uw_6_78 rfl rfl rfl dX12_starts_7 h (fun σ_2 h => ?_)
  refine J_aload_n (q := 0) hX dX12_starts_10 rfl rfl ?_
  refine J_iconst (v := (0 : Int32)) hX dX12_starts_11 (by decide) ?_
  refine K_puti hX (mc_0 hw) cls_X12 (k := 32) (by decide) uw_6_79 rfl rfl rfl dX12_starts_12 h (fun σ_3 h => ?_)
  refine J_aload_n (q := 0) hX dX12_starts_15 rfl rfl ?_
  refine J_iconst (v := (0 : Int32)) hX dX12_starts_16 (by decide) ?_
  refine K_puti hX (mc_0 hw) cls_X12 (k := 33) (by decide) uw_6_80 rfl rfl rfl dX12_starts_17 h (fun σ_4 h => ?_)
  exact K_vret hX hr dX12_starts_20 h
theorem ctM_starts {w : WT} (hw : w.1 = mLy) {v1 : Int32} {σ : St} {τ : St} (h : rM_starts v1 σ = some τ) : Ct yX12_starts cX12_starts 2 none 0 0 w [.ref (wad w 0), .int v1] σ none τ 0 0 :=
  Ct_intro (fun _ => (0, 0)) (by decide) rfl ⟨rfl, Nat.le_refl _⟩ (Nat.le_of_ble_eq_true rfl) (fun X hX hR hwX hg hr => by subst hwX; exact tM_starts hX hw hg hR hr v1 σ h)

def rM_paths (σ : St) : Option (Int32 × St) :=
  nm (setI σ 0 0 (0 : Int32)) fun σ_1 => some (σ_1.1 0 27, σ_1)
set_option maxRecDepth 100000 in
theorem tM_paths {X : CX} (hX : gd X cX12_paths 1 RX12 (some .int)) (hw : (xw X).1 = mLy) (hg : nA X) (hR : xR X = rmOf 0 0 0 0) {r : Int32} {τ : St} (hr : xr X = (some (.int r), τ)) (σ : St) (h : rM_paths σ = some (r, τ)) : Jd X 1 0 [(0, .ref (wad (xw X) 0))] [] σ := by
  unfold rM_paths at h
  refine J_aload_n (q := 0) hX dX12_paths_0 rfl rfl ?_
  refine J_iconst (v := (0 : Int32)) hX dX12_paths_1 (by decide) ?_
  refine K_puti hX (mc_0 hw) cls_X12 (k := 0) (by decide) uw_6_47 rfl rfl rfl dX12_paths_2 h (fun σ_1 h => ?_)
  refine J_aload_n (q := 0) hX dX12_paths_5 rfl rfl ?_
  refine K_geti hX (mc_0 hw) cls_X12 (k := 27) (by decide) uw_6_74 rfl dX12_paths_6 ?_
  exact K_iret hX hr dX12_paths_9 h
theorem ctM_paths {w : WT} (hw : w.1 = mLy) {σ : St} {r : Int32} {τ : St} (h : rM_paths σ = some (r, τ)) : Ct yX12_paths cX12_paths 1 (some .int) 0 0 w [.ref (wad w 0)] σ (some (.int r)) τ 0 0 :=
  Ct_intro (fun _ => (0, 0)) (by decide) rfl ⟨rfl, Nat.le_refl _⟩ (Nat.le_of_ble_eq_true rfl) (fun X hX hR hwX hg hr => by subst hwX; exact tM_paths hX hw hg hR hr  σ h)

def rM_draw (v1 : Int32) (σ : St) : Option (Int32 × St) :=
  chk (ib (37 : Int32) 6000) (chk (decide (¬ (2147483648 : Int64) = 0)) (nm (((((σ.1 16 (37 : Int32).toNatClampNeg).toInt64) * (1103515245 : Int64)) + (12345 : Int64)) - ((((σ.1 16 (37 : Int32).toNatClampNeg).toInt64) * (1103515245 : Int64)) + (12345 : Int64)) / (2147483648 : Int64) * (2147483648 : Int64)) fun v2_1 => chk (ib (37 : Int32) 6000) (nm (setI σ 16 (37 : Int32).toNatClampNeg v2_1.toInt32) fun σ_2 => chk (decide (¬ (65536 : Int64) = 0)) (chk (decide (¬ v1.toInt64 = 0)) (some (((v2_1 / (65536 : Int64)) - (v2_1 / (65536 : Int64)) / v1.toInt64 * v1.toInt64).toInt32, σ_2))))))
set_option maxRecDepth 100000 in
theorem tM_draw {X : CX} (hX : gd X cX12_draw 4 RX12 (some .int)) (hw : (xw X).1 = mLy) (hg : nA X) (hR : xR X = rmOf 0 0 0 0) {r : Int32} {τ : St} (hr : xr X = (some (.int r), τ)) (v1 : Int32) (σ : St) (h : rM_draw v1 σ = some (r, τ)) : Jd X 4 0 [(0, .ref (wad (xw X) 0)), (1, .int v1)] [] σ := by
  unfold rM_draw at h
  refine J_aload_n (q := 0) hX dX12_draw_0 rfl rfl ?_
  refine K_getc 16 hX (mc_0 hw) cls_X12 (k := 24) (by decide) uw_6_71 rfl dX12_draw_1 ?_
  refine J_bipush (v := (37 : Int32)) hX dX12_draw_4 (by decide) ?_
  refine K_iald hX (mc_16 hw) dX12_draw_6 h (fun h => ?_)
  refine J_i2l hX dX12_draw_7 ?_
  refine K_ldc2 (v := (1103515245 : Int64)) hX uw_7_193 dX12_draw_8 ?_
  refine J_lmul hX dX12_draw_11 ?_
  refine K_ldc2 (v := (12345 : Int64)) hX uw_7_194 dX12_draw_12 ?_
  refine J_ladd hX dX12_draw_15 ?_
  refine K_ldc2 (v := (2147483648 : Int64)) hX uw_7_195 dX12_draw_16 ?_
  refine K_lrem hX dX12_draw_19 h (fun h => ?_)
  refine K_lstore_n (fun v2_1 => [(2, .long v2_1), (0, .ref (wad (xw X) 0)), (1, .int v1)]) hX dX12_draw_20 rfl (by decide) (fun _ => rfl) h (fun v2_1 h => ?_)
  refine J_aload_n (q := 1) hX dX12_draw_21 rfl rfl ?_
  refine K_getc 16 hX (mc_0 hw) cls_X12 (k := 24) (by decide) uw_6_71 rfl dX12_draw_22 ?_
  refine J_bipush (v := (37 : Int32)) hX dX12_draw_25 (by decide) ?_
  refine J_lload_n (q := 0) hX dX12_draw_27 rfl rfl ?_
  refine J_l2i hX dX12_draw_28 ?_
  refine K_iast hX (mc_16 hw) dX12_draw_29 h (fun σ_2 h => ?_)
  refine J_lload_n (q := 0) hX dX12_draw_30 rfl rfl ?_
  refine K_ldc2 (v := (65536 : Int64)) hX uw_7_196 dX12_draw_31 ?_
  refine K_ldiv hX dX12_draw_34 h (fun h => ?_)
  refine J_iload_n (q := 2) hX dX12_draw_35 rfl rfl ?_
  refine J_i2l hX dX12_draw_36 ?_
  refine K_lrem hX dX12_draw_37 h (fun h => ?_)
  refine J_l2i hX dX12_draw_38 ?_
  exact K_iret hX hr dX12_draw_39 h
theorem ctM_draw {w : WT} (hw : w.1 = mLy) {v1 : Int32} {σ : St} {r : Int32} {τ : St} (h : rM_draw v1 σ = some (r, τ)) : Ct yX12_draw cX12_draw 4 (some .int) 0 0 w [.ref (wad w 0), .int v1] σ (some (.int r)) τ 0 0 :=
  Ct_intro (fun _ => (0, 0)) (by decide) rfl ⟨rfl, Nat.le_refl _⟩ (Nat.le_of_ble_eq_true rfl) (fun X hX hR hwX hg hr => by subst hwX; exact tM_draw hX hw hg hR hr v1 σ h)

def rM_writes_74 (σ : St) : Option (St) :=
  some σ
set_option maxRecDepth 100000 in
theorem tM_writes_74 {X : CX} (hX : gd X cX12_writes 5 RX12 none) (hw : (xw X).1 = mLy) (hg : nA X) (hR : xR X = rmOf 0 0 0 0) {τ : St} (hr : xr X = (none, τ)) (σ : St) (h : rM_writes_74 σ = some τ) : Jd X 5 74 [] [] σ := by
  unfold rM_writes_74 at h
  exact K_vret hX hr dX12_writes_74 h

def rM_writes (v1 : Int32) (v2 : Int32) (v3 : Int32) (σ : St) : Option (St) :=
  chk (ib (42 : Int32) 6000) (nm (σ.1 16 (42 : Int32).toNatClampNeg) fun v4_1 => brc (v3 ≤ 0) (rM_writes_74 σ) (brc ((60 : Int32) ≤ v4_1) (rM_writes_74 σ) (chk (ib ((56 : Int32) + ((3 : Int32) * v4_1)) 6000) (nm (setI σ 16 ((56 : Int32) + ((3 : Int32) * v4_1)).toNatClampNeg v1) fun σ_2 => chk (ib (((56 : Int32) + ((3 : Int32) * v4_1)) + (1 : Int32)) 6000) (nm (setI σ_2 16 (((56 : Int32) + ((3 : Int32) * v4_1)) + (1 : Int32)).toNatClampNeg v2) fun σ_3 => chk (ib (((56 : Int32) + ((3 : Int32) * v4_1)) + (2 : Int32)) 6000) (nm (setI σ_3 16 (((56 : Int32) + ((3 : Int32) * v4_1)) + (2 : Int32)).toNatClampNeg v3) fun σ_4 => chk (ib (42 : Int32) 6000) (chk (ib (42 : Int32) 6000) (nm (setI σ_4 16 (42 : Int32).toNatClampNeg ((σ_4.1 16 (42 : Int32).toNatClampNeg) + (1 : Int32))) fun σ_5 => rM_writes_74 σ_5))))))))
set_option maxRecDepth 100000 in
theorem tM_writes {X : CX} (hX : gd X cX12_writes 5 RX12 none) (hw : (xw X).1 = mLy) (hg : nA X) (hR : xR X = rmOf 0 0 0 0) {τ : St} (hr : xr X = (none, τ)) (v1 : Int32) (v2 : Int32) (v3 : Int32) (σ : St) (h : rM_writes v1 v2 v3 σ = some τ) : Jd X 5 0 [(0, .ref (wad (xw X) 0)), (1, .int v1), (2, .int v2), (3, .int v3)] [] σ := by
  unfold rM_writes at h
  refine J_aload_n (q := 0) hX dX12_writes_0 rfl rfl ?_
  refine K_getc 16 hX (mc_0 hw) cls_X12 (k := 24) (by decide) uw_6_71 rfl dX12_writes_1 ?_
  refine J_bipush (v := (42 : Int32)) hX dX12_writes_4 (by decide) ?_
  refine K_iald hX (mc_16 hw) dX12_writes_6 h (fun h => ?_)
  refine K_istore (fun v4_1 => [(4, .int v4_1), (0, .ref (wad (xw X) 0)), (1, .int v1), (2, .int v2), (3, .int v3)]) hX dX12_writes_7 (by decide) (fun _ => rfl) h (fun v4_1 h => ?_)
  refine J_iload_n (q := 4) hX dX12_writes_9 rfl rfl ?_
  refine K_if_le (tgt := 74) hX dX12_writes_10 rfl h (fun h => ?_) (fun h => ?_)
  · refine J_sub [] rfl ?_
    exact tM_writes_74 hX hw hg hR hr σ h
  · refine J_iload (q := 0) hX dX12_writes_13 rfl ?_
    refine J_bipush (v := (60 : Int32)) hX dX12_writes_15 (by decide) ?_
    refine K_icmp_ge (tgt := 74) hX dX12_writes_17 rfl h (fun h => ?_) (fun h => ?_)
    · refine J_sub [] rfl ?_
      exact tM_writes_74 hX hw hg hR hr σ h
    · refine J_aload_n (q := 1) hX dX12_writes_20 rfl rfl ?_
      refine K_getc 16 hX (mc_0 hw) cls_X12 (k := 24) (by decide) uw_6_71 rfl dX12_writes_21 ?_
      refine J_bipush (v := (56 : Int32)) hX dX12_writes_24 (by decide) ?_
      refine J_iconst (v := (3 : Int32)) hX dX12_writes_26 (by decide) ?_
      refine J_iload (q := 0) hX dX12_writes_27 rfl ?_
      refine J_imul hX dX12_writes_29 ?_
      refine J_iadd hX dX12_writes_30 ?_
      refine J_iload_n (q := 2) hX dX12_writes_31 rfl rfl ?_
      refine K_iast hX (mc_16 hw) dX12_writes_32 h (fun σ_2 h => ?_)
      refine J_aload_n (q := 1) hX dX12_writes_33 rfl rfl ?_
      refine K_getc 16 hX (mc_0 hw) cls_X12 (k := 24) (by decide) uw_6_71 rfl dX12_writes_34 ?_
      refine J_bipush (v := (56 : Int32)) hX dX12_writes_37 (by decide) ?_
      refine J_iconst (v := (3 : Int32)) hX dX12_writes_39 (by decide) ?_
      refine J_iload (q := 0) hX dX12_writes_40 rfl ?_
      refine J_imul hX dX12_writes_42 ?_
      refine J_iadd hX dX12_writes_43 ?_
      refine J_iconst (v := (1 : Int32)) hX dX12_writes_44 (by decide) ?_
      refine J_iadd hX dX12_writes_45 ?_
      refine J_iload_n (q := 3) hX dX12_writes_46 rfl rfl ?_
      refine K_iast hX (mc_16 hw) dX12_writes_47 h (fun σ_3 h => ?_)
      refine J_aload_n (q := 1) hX dX12_writes_48 rfl rfl ?_
      refine K_getc 16 hX (mc_0 hw) cls_X12 (k := 24) (by decide) uw_6_71 rfl dX12_writes_49 ?_
      refine J_bipush (v := (56 : Int32)) hX dX12_writes_52 (by decide) ?_
      refine J_iconst (v := (3 : Int32)) hX dX12_writes_54 (by decide) ?_
      refine J_iload (q := 0) hX dX12_writes_55 rfl ?_
      refine J_imul hX dX12_writes_57 ?_
      refine J_iadd hX dX12_writes_58 ?_
      refine J_iconst (v := (2 : Int32)) hX dX12_writes_59 (by decide) ?_
      refine J_iadd hX dX12_writes_60 ?_
      refine J_iload_n (q := 4) hX dX12_writes_61 rfl rfl ?_
      refine K_iast hX (mc_16 hw) dX12_writes_62 h (fun σ_4 h => ?_)
      refine J_aload_n (q := 1) hX dX12_writes_63 rfl rfl ?_
      refine K_getc 16 hX (mc_0 hw) cls_X12 (k := 24) (by decide) uw_6_71 rfl dX12_writes_64 ?_
      refine J_bipush (v := (42 : Int32)) hX dX12_writes_67 (by decide) ?_
      refine J_dup2 hX dX12_writes_69 rfl rfl ?_
      refine K_iald hX (mc_16 hw) dX12_writes_70 h (fun h => ?_)
      refine J_iconst (v := (1 : Int32)) hX dX12_writes_71 (by decide) ?_
      refine J_iadd hX dX12_writes_72 ?_
      refine K_iast hX (mc_16 hw) dX12_writes_73 h (fun σ_5 h => ?_)
      refine J_sub [] rfl ?_
      exact tM_writes_74 hX hw hg hR hr σ_5 h
theorem ctM_writes {w : WT} (hw : w.1 = mLy) {v1 : Int32} {v2 : Int32} {v3 : Int32} {σ : St} {τ : St} (h : rM_writes v1 v2 v3 σ = some τ) : Ct yX12_writes cX12_writes 5 none 0 0 w [.ref (wad w 0), .int v1, .int v2, .int v3] σ none τ 0 0 :=
  Ct_intro (fun _ => (0, 0)) (by decide) rfl ⟨rfl, Nat.le_refl _⟩ (Nat.le_of_ble_eq_true rfl) (fun X hX hR hwX hg hr => by subst hwX; exact tM_writes hX hw hg hR hr v1 v2 v3 σ h)

def rM_common_4 (k4 : Int32 → Int32 → St → Option (Int32 × St)) (v2 : Int32) (v3 : Int32) (σ : St) : Option (Int32 × St) :=
  brc (v3 = 0) (some (v2, σ)) (chk (decide (¬ v3 = 0)) (nm (v2 - v2 / v3 * v3) fun v4_3 => nm v3 fun v2_4 => nm v4_3 fun v3_5 => k4 v2_4 v3_5 σ))
set_option maxRecDepth 100000 in
theorem tM_common_4b {X : CX} (hX : gd X cX12_common 5 RX12 (some .int)) (hw : (xw X).1 = mLy) (hg : nA X) (hR : xR X = rmOf 0 0 0 0) {r : Int32} {τ : St} (hr : xr X = (some (.int r), τ)) {k4 : Int32 → Int32 → St → Option (Int32 × St)} (hk4 : (∀ (v2 : Int32) (v3 : Int32) (σ : St), k4 v2 v3 σ = some (r, τ) → Jd X 5 4 [(2, .int v2), (3, .int v3)] [] σ)) (v2 : Int32) (v3 : Int32) (σ : St) (h : rM_common_4 k4 v2 v3 σ = some (r, τ)) : Jd X 5 4 [(2, .int v2), (3, .int v3)] [] σ := by
  unfold rM_common_4 at h
  refine J_iload_n (q := 1) hX dX12_common_4 rfl rfl ?_
  refine K_if_eq (tgt := 21) hX dX12_common_5 rfl h (fun h => ?_) (fun h => ?_)
  · refine J_iload_n (q := 0) hX dX12_common_21 rfl rfl ?_
    exact K_iret hX hr dX12_common_22 h
  · refine J_iload_n (q := 0) hX dX12_common_8 rfl rfl ?_
    refine J_iload_n (q := 1) hX dX12_common_9 rfl rfl ?_
    refine K_irem hX dX12_common_10 h (fun h => ?_)
    refine K_istore (fun v4_3 => [(4, .int v4_3), (2, .int v2), (3, .int v3)]) hX dX12_common_11 (by decide) (fun _ => rfl) h (fun v4_3 h => ?_)
    refine J_iload_n (q := 2) hX dX12_common_13 rfl rfl ?_
    refine K_istore_n (fun v2_4 => [(2, .int v2_4), (4, .int v4_3), (3, .int v3)]) hX dX12_common_14 rfl (by decide) (fun _ => rfl) h (fun v2_4 h => ?_)
    refine J_iload (q := 1) hX dX12_common_15 rfl ?_
    refine K_istore_n (fun v3_5 => [(3, .int v3_5), (2, .int v2_4), (4, .int v4_3)]) hX dX12_common_17 rfl (by decide) (fun _ => rfl) h (fun v3_5 h => ?_)
    refine J_goto (tgt := 4) hX dX12_common_18 rfl ?_
    refine J_sub [1, 0] rfl ?_
    exact hk4 v2_4 v3_5 σ h
def rM_common_4L : ((Int32 × Int32 × St) → Option (Int32 × St)) → (Int32 × Int32 × St) → Option (Int32 × St) := fun k a => rM_common_4 (fun v2 v3 σ => k (v2, v3, σ)) a.1 a.2.1 a.2.2
theorem tM_common_4 {X : CX} (hX : gd X cX12_common 5 RX12 (some .int)) (hw : (xw X).1 = mLy) (hg : nA X) (hR : xR X = rmOf 0 0 0 0) {r : Int32} {τ : St} (hr : xr X = (some (.int r), τ)) (n : Nat) (v2 : Int32) (v3 : Int32) (σ : St) (h : lp (rM_common_4L) n (v2, v3, σ) = some (r, τ)) : Jd X 5 4 [(2, .int v2), (3, .int v3)] [] σ :=
  lp_ind (F := rM_common_4L) (P := fun a => Jd X 5 4 [(2, .int a.1), (3, .int a.2.1)] [] a.2.2) (fun k a hk h => tM_common_4b hX hw hg hR hr (fun v2 v3 σ h => hk (v2, v3, σ) h) a.1 a.2.1 a.2.2 h) n (v2, v3, σ) h

def rM_common (v0 : Int32) (v1 : Int32) (σ : St) : Option (Int32 × St) :=
  nm v0 fun v2_1 => nm v1 fun v3_2 => lp (rM_common_4L) fu (v2_1, v3_2, σ)
set_option maxRecDepth 100000 in
theorem tM_common {X : CX} (hX : gd X cX12_common 5 RX12 (some .int)) (hw : (xw X).1 = mLy) (hg : nA X) (hR : xR X = rmOf 0 0 0 0) {r : Int32} {τ : St} (hr : xr X = (some (.int r), τ)) (v0 : Int32) (v1 : Int32) (σ : St) (h : rM_common v0 v1 σ = some (r, τ)) : Jd X 5 0 [(0, .int v0), (1, .int v1)] [] σ := by
  unfold rM_common at h
  refine J_iload_n (q := 0) hX dX12_common_0 rfl rfl ?_
  refine K_istore_n (fun v2_1 => [(2, .int v2_1), (0, .int v0), (1, .int v1)]) hX dX12_common_1 rfl (by decide) (fun _ => rfl) h (fun v2_1 h => ?_)
  refine J_iload_n (q := 2) hX dX12_common_2 rfl rfl ?_
  refine K_istore_n (fun v3_2 => [(3, .int v3_2), (2, .int v2_1), (0, .int v0), (1, .int v1)]) hX dX12_common_3 rfl (by decide) (fun _ => rfl) h (fun v3_2 h => ?_)
  refine J_sub [1, 0] rfl ?_
  exact tM_common_4 hX hw hg hR hr fu v2_1 v3_2 σ h
theorem ctM_common {w : WT} (hw : w.1 = mLy) {v0 : Int32} {v1 : Int32} {σ : St} {r : Int32} {τ : St} (h : rM_common v0 v1 σ = some (r, τ)) : Ct yX12_common cX12_common 5 (some .int) 0 0 w [.int v0, .int v1] σ (some (.int r)) τ 0 0 :=
  Ct_intro (fun _ => (0, 0)) (by decide) rfl ⟨rfl, Nat.le_refl _⟩ (Nat.le_of_ble_eq_true rfl) (fun X hX hR hwX hg hr => by subst hwX; exact tM_common hX hw hg hR hr v0 v1 σ h)

def rM_feed (v1 : Int64) (v3 : Int64) (v5 : Int64) (σ : St) : Option (Int32 × St) :=
  nm (setI σ 0 0 (0 : Int32)) fun σ_1 => bnd1 (rM_lay v1 σ_1) fun σ_2 => bnd1 (rM_lay v3 σ_2) fun σ_4 => bnd1 (rM_lay v5 σ_4) fun σ_6 => some (σ_6.1 0 2, σ_6)
set_option maxRecDepth 100000 in
theorem tM_feed {X : CX} (hX : gd X cX12_feed 7 RX12 (some .int)) (hw : (xw X).1 = mLy) (hg : nA X) (hR : xR X = rmOf 1 24 0 0) {r : Int32} {τ : St} (hr : xr X = (some (.int r), τ)) (v1 : Int64) (v3 : Int64) (v5 : Int64) (σ : St) (h : rM_feed v1 v3 v5 σ = some (r, τ)) : Jd X 7 0 [(0, .ref (wad (xw X) 0)), (1, .long v1), (3, .long v3), (5, .long v5)] [] σ := by
  unfold rM_feed at h
  refine J_aload_n (q := 0) hX dX12_feed_0 rfl rfl ?_
  refine J_iconst (v := (0 : Int32)) hX dX12_feed_1 (by decide) ?_
  refine K_puti hX (mc_0 hw) cls_X12 (k := 0) (by decide) uw_6_47 rfl rfl rfl dX12_feed_2 h (fun σ_1 h => ?_)
  refine J_aload_n (q := 0) hX dX12_feed_5 rfl rfl ?_
  refine J_lload_n (q := 1) hX dX12_feed_6 rfl rfl ?_
  obtain ⟨σ_2, hc_3, h⟩ := bnd1_some h
  refine K_callV [.long v1] hX hg hR (ctM_lay hw hc_3) lk_X12_7_X12_lay md_X12_lay (mc_0 hw) cls_X12 ⟨by decide, by decide⟩ rfl rfl (Nat.le_of_ble_eq_true rfl) dX12_feed_7 ?_
  refine J_aload_n (q := 0) hX dX12_feed_10 rfl rfl ?_
  refine J_lload_n (q := 2) hX dX12_feed_11 rfl rfl ?_
  obtain ⟨σ_4, hc_5, h⟩ := bnd1_some h
  refine K_callV [.long v3] hX hg hR (ctM_lay hw hc_5) lk_X12_7_X12_lay md_X12_lay (mc_0 hw) cls_X12 ⟨by decide, by decide⟩ rfl rfl (Nat.le_of_ble_eq_true rfl) dX12_feed_12 ?_
  refine J_aload_n (q := 0) hX dX12_feed_15 rfl rfl ?_
  refine J_lload (q := 3) hX dX12_feed_16 rfl ?_
  obtain ⟨σ_6, hc_7, h⟩ := bnd1_some h
  refine K_callV [.long v5] hX hg hR (ctM_lay hw hc_7) lk_X12_7_X12_lay md_X12_lay (mc_0 hw) cls_X12 ⟨by decide, by decide⟩ rfl rfl (Nat.le_of_ble_eq_true rfl) dX12_feed_18 ?_
  refine J_aload_n (q := 0) hX dX12_feed_21 rfl rfl ?_
  refine K_geti hX (mc_0 hw) cls_X12 (k := 2) (by decide) uw_6_49 rfl dX12_feed_22 ?_
  exact K_iret hX hr dX12_feed_25 h
theorem ctM_feed {w : WT} (hw : w.1 = mLy) {v1 : Int64} {v3 : Int64} {v5 : Int64} {σ : St} {r : Int32} {τ : St} (h : rM_feed v1 v3 v5 σ = some (r, τ)) : Ct yX12_feed cX12_feed 7 (some .int) 1 24 w [.ref (wad w 0), .long v1, .long v3, .long v5] σ (some (.int r)) τ 0 0 :=
  Ct_intro (fun _ => (0, 0)) (by decide) rfl ⟨rfl, Nat.le_refl _⟩ (Nat.le_of_ble_eq_true rfl) (fun X hX hR hwX hg hr => by subst hwX; exact tM_feed hX hw hg hR hr v1 v3 v5 σ h)

def rM_rank_18 (s0 : Int32) (σ : St) : Option (Int32 × St) :=
  some (s0, σ)
set_option maxRecDepth 100000 in
theorem tM_rank_18 {X : CX} (hX : gd X cX12_rank 1 RX12 (some .int)) (hw : (xw X).1 = mLy) (hg : nA X) (hR : xR X = rmOf 1 20 0 0) {r : Int32} {τ : St} (hr : xr X = (some (.int r), τ)) (s0 : Int32) (σ : St) (h : rM_rank_18 s0 σ = some (r, τ)) : Jd X 1 18 [] [.int s0] σ := by
  unfold rM_rank_18 at h
  exact K_iret hX hr dX12_rank_18 h

def rM_rank (v0 : Int32) (σ : St) : Option (Int32 × St) :=
  bnd2 (rM_isLetter v0 σ) fun r_3 σ_1 => brc (r_3 = 0) (rM_rank_18 (v0 - (21 : Int32)) σ_1) (rM_rank_18 (v0 - (96 : Int32)) σ_1)
set_option maxRecDepth 100000 in
theorem tM_rank {X : CX} (hX : gd X cX12_rank 1 RX12 (some .int)) (hw : (xw X).1 = mLy) (hg : nA X) (hR : xR X = rmOf 1 20 0 0) {r : Int32} {τ : St} (hr : xr X = (some (.int r), τ)) (v0 : Int32) (σ : St) (h : rM_rank v0 σ = some (r, τ)) : Jd X 1 0 [(0, .int v0)] [] σ := by
  unfold rM_rank at h
  refine J_iload_n (q := 0) hX dX12_rank_0 rfl rfl ?_
  obtain ⟨r_3, σ_1, hc_2, h⟩ := bnd2_some h
  refine K_callS [.int v0] hX hg hR (ctM_isLetter hw hc_2) lk_X12_165_X12_isLetter md_X12_isLetter ⟨by decide, by decide⟩ rfl rfl (Nat.le_of_ble_eq_true rfl) dX12_rank_1 ?_
  refine K_if_eq (tgt := 14) hX dX12_rank_4 rfl h (fun h => ?_) (fun h => ?_)
  · refine J_iload_n (q := 0) hX dX12_rank_14 rfl rfl ?_
    refine J_bipush (v := (21 : Int32)) hX dX12_rank_15 (by decide) ?_
    refine J_isub hX dX12_rank_17 ?_
    refine J_sub [] rfl ?_
    exact tM_rank_18 hX hw hg hR hr (v0 - (21 : Int32)) σ_1 h
  · refine J_iload_n (q := 0) hX dX12_rank_7 rfl rfl ?_
    refine J_bipush (v := (96 : Int32)) hX dX12_rank_8 (by decide) ?_
    refine J_isub hX dX12_rank_10 ?_
    refine J_goto (tgt := 18) hX dX12_rank_11 rfl ?_
    refine J_sub [] rfl ?_
    exact tM_rank_18 hX hw hg hR hr (v0 - (96 : Int32)) σ_1 h
theorem ctM_rank {w : WT} (hw : w.1 = mLy) {v0 : Int32} {σ : St} {r : Int32} {τ : St} (h : rM_rank v0 σ = some (r, τ)) : Ct yX12_rank cX12_rank 1 (some .int) 1 20 w [.int v0] σ (some (.int r)) τ 0 0 :=
  Ct_intro (fun _ => (0, 0)) (by decide) rfl ⟨rfl, Nat.le_refl _⟩ (Nat.le_of_ble_eq_true rfl) (fun X hX hR hwX hg hr => by subst hwX; exact tM_rank hX hw hg hR hr v0 σ h)

def rM_takeSign_26 (σ : St) : Option (St) :=
  some σ
set_option maxRecDepth 100000 in
theorem tM_takeSign_26 {X : CX} (hX : gd X cX12_takeSign 2 RX12 none) (hw : (xw X).1 = mLy) (hg : nA X) (hR : xR X = rmOf 1 21 0 0) {τ : St} (hr : xr X = (none, τ)) (σ : St) (h : rM_takeSign_26 σ = some τ) : Jd X 2 26 [] [] σ := by
  unfold rM_takeSign_26 at h
  exact K_vret hX hr dX12_takeSign_26 h

def rM_takeSign (v1 : Int32) (σ : St) : Option (St) :=
  bnd2 (rM_isSign v1 σ) fun r_3 σ_1 => brc (r_3 = 0) (bnd1 (rM_wrong (1 : Int32) σ_1) fun σ_4 => rM_takeSign_26 σ_4) (nm (setI σ_1 0 7 ((σ_1.1 0 7) + (1 : Int32))) fun σ_6 => rM_takeSign_26 σ_6)
set_option maxRecDepth 100000 in
theorem tM_takeSign {X : CX} (hX : gd X cX12_takeSign 2 RX12 none) (hw : (xw X).1 = mLy) (hg : nA X) (hR : xR X = rmOf 1 21 0 0) {τ : St} (hr : xr X = (none, τ)) (v1 : Int32) (σ : St) (h : rM_takeSign v1 σ = some τ) : Jd X 2 0 [(0, .ref (wad (xw X) 0)), (1, .int v1)] [] σ := by
  unfold rM_takeSign at h
  refine J_aload_n (q := 0) hX dX12_takeSign_0 rfl rfl ?_
  refine J_iload_n (q := 1) hX dX12_takeSign_1 rfl rfl ?_
  obtain ⟨r_3, σ_1, hc_2, h⟩ := bnd2_some h
  refine K_callV [.int v1] hX hg hR (ctM_isSign hw hc_2) lk_X12_194_X12_isSign md_X12_isSign (mc_0 hw) cls_X12 ⟨by decide, by decide⟩ rfl rfl (Nat.le_of_ble_eq_true rfl) dX12_takeSign_2 ?_
  refine K_if_eq (tgt := 21) hX dX12_takeSign_5 rfl h (fun h => ?_) (fun h => ?_)
  · refine J_aload_n (q := 0) hX dX12_takeSign_21 rfl rfl ?_
    refine J_iconst (v := (1 : Int32)) hX dX12_takeSign_22 (by decide) ?_
    obtain ⟨σ_4, hc_5, h⟩ := bnd1_some h
    refine K_callV [.int (1 : Int32)] hX hg hR (ctM_wrong hw hc_5) lk_X12_197_X12_wrong md_X12_wrong (mc_0 hw) cls_X12 ⟨by decide, by decide⟩ rfl rfl (Nat.le_of_ble_eq_true rfl) dX12_takeSign_23 ?_
    refine J_sub [] rfl ?_
    exact tM_takeSign_26 hX hw hg hR hr σ_4 h
  · refine J_aload_n (q := 0) hX dX12_takeSign_8 rfl rfl ?_
    refine J_dup hX dX12_takeSign_9 rfl ?_
    refine K_geti hX (mc_0 hw) cls_X12 (k := 7) (by decide) uw_6_54 rfl dX12_takeSign_10 ?_
    refine J_iconst (v := (1 : Int32)) hX dX12_takeSign_13 (by decide) ?_
    refine J_iadd hX dX12_takeSign_14 ?_
    refine K_puti hX (mc_0 hw) cls_X12 (k := 7) (by decide) uw_6_54 rfl rfl rfl dX12_takeSign_15 h (fun σ_6 h => ?_)
    refine J_goto (tgt := 26) hX dX12_takeSign_18 rfl ?_
    refine J_sub [] rfl ?_
    exact tM_takeSign_26 hX hw hg hR hr σ_6 h
theorem ctM_takeSign {w : WT} (hw : w.1 = mLy) {v1 : Int32} {σ : St} {τ : St} (h : rM_takeSign v1 σ = some τ) : Ct yX12_takeSign cX12_takeSign 2 none 1 21 w [.ref (wad w 0), .int v1] σ none τ 0 0 :=
  Ct_intro (fun _ => (0, 0)) (by decide) rfl ⟨rfl, Nat.le_refl _⟩ (Nat.le_of_ble_eq_true rfl) (fun X hX hR hwX hg hr => by subst hwX; exact tM_takeSign hX hw hg hR hr v1 σ h)

def rM_hasSign_20 (v2 : Int32) (s0 : Int32) (s1 : Int32) (σ : St) : Option (Int32 × St) :=
  nm (setI σ 0 7 (s1 + s0)) fun σ_5 => chk (decide (v2 = 0 ∨ v2 = 1)) (some (v2, σ_5))
set_option maxRecDepth 100000 in
theorem tM_hasSign_20 {X : CX} (hX : gd X cX12_hasSign 3 RX12 (some .boolean)) (hw : (xw X).1 = mLy) (hg : nA X) (hR : xR X = rmOf 1 21 0 0) {r : Int32} {τ : St} (hr : xr X = (some (.int r), τ)) (v2 : Int32) (s0 : Int32) (s1 : Int32) (σ : St) (h : rM_hasSign_20 v2 s0 s1 σ = some (r, τ)) : Jd X 3 20 [(2, .int v2)] [.int s0, .int s1, .ref (wad (xw X) 0)] σ := by
  unfold rM_hasSign_20 at h
  refine J_iadd hX dX12_hasSign_20 ?_
  refine K_puti hX (mc_0 hw) cls_X12 (k := 7) (by decide) uw_6_54 rfl rfl rfl dX12_hasSign_21 h (fun σ_5 h => ?_)
  refine J_iload_n (q := 0) hX dX12_hasSign_24 rfl rfl ?_
  exact K_zret hX hr dX12_hasSign_25 h

def rM_hasSign (v1 : Int32) (σ : St) : Option (Int32 × St) :=
  bnd2 (rM_isSign v1 σ) fun r_3 σ_1 => nm r_3 fun v2_4 => brc (v2_4 = 0) (rM_hasSign_20 v2_4 (0 : Int32) (σ_1.1 0 7) σ_1) (rM_hasSign_20 v2_4 (1 : Int32) (σ_1.1 0 7) σ_1)
set_option maxRecDepth 100000 in
theorem tM_hasSign {X : CX} (hX : gd X cX12_hasSign 3 RX12 (some .boolean)) (hw : (xw X).1 = mLy) (hg : nA X) (hR : xR X = rmOf 1 21 0 0) {r : Int32} {τ : St} (hr : xr X = (some (.int r), τ)) (v1 : Int32) (σ : St) (h : rM_hasSign v1 σ = some (r, τ)) : Jd X 3 0 [(0, .ref (wad (xw X) 0)), (1, .int v1)] [] σ := by
  unfold rM_hasSign at h
  refine J_aload_n (q := 0) hX dX12_hasSign_0 rfl rfl ?_
  refine J_iload_n (q := 1) hX dX12_hasSign_1 rfl rfl ?_
  obtain ⟨r_3, σ_1, hc_2, h⟩ := bnd2_some h
  refine K_callV [.int v1] hX hg hR (ctM_isSign hw hc_2) lk_X12_194_X12_isSign md_X12_isSign (mc_0 hw) cls_X12 ⟨by decide, by decide⟩ rfl rfl (Nat.le_of_ble_eq_true rfl) dX12_hasSign_2 ?_
  refine K_istore_n (fun v2_4 => [(2, .int v2_4), (0, .ref (wad (xw X) 0)), (1, .int v1)]) hX dX12_hasSign_5 rfl (by decide) (fun _ => rfl) h (fun v2_4 h => ?_)
  refine J_aload_n (q := 1) hX dX12_hasSign_6 rfl rfl ?_
  refine J_dup hX dX12_hasSign_7 rfl ?_
  refine K_geti hX (mc_0 hw) cls_X12 (k := 7) (by decide) uw_6_54 rfl dX12_hasSign_8 ?_
  refine J_iload_n (q := 0) hX dX12_hasSign_11 rfl rfl ?_
  refine K_if_eq (tgt := 19) hX dX12_hasSign_12 rfl h (fun h => ?_) (fun h => ?_)
  · refine J_iconst (v := (0 : Int32)) hX dX12_hasSign_19 (by decide) ?_
    refine J_sub [0] rfl ?_
    exact tM_hasSign_20 hX hw hg hR hr v2_4 (0 : Int32) (σ_1.1 0 7) σ_1 h
  · refine J_iconst (v := (1 : Int32)) hX dX12_hasSign_15 (by decide) ?_
    refine J_goto (tgt := 20) hX dX12_hasSign_16 rfl ?_
    refine J_sub [0] rfl ?_
    exact tM_hasSign_20 hX hw hg hR hr v2_4 (1 : Int32) (σ_1.1 0 7) σ_1 h
theorem ctM_hasSign {w : WT} (hw : w.1 = mLy) {v1 : Int32} {σ : St} {r : Int32} {τ : St} (h : rM_hasSign v1 σ = some (r, τ)) : Ct yX12_hasSign cX12_hasSign 3 (some .boolean) 1 21 w [.ref (wad w 0), .int v1] σ (some (.int r)) τ 0 0 :=
  Ct_intro (fun _ => (0, 0)) (by decide) rfl ⟨rfl, Nat.le_refl _⟩ (Nat.le_of_ble_eq_true rfl) (fun X hX hR hwX hg hr => by subst hwX; exact tM_hasSign hX hw hg hR hr v1 σ h)

def rM_hasWord_20 (v2 : Int32) (s0 : Int32) (s1 : Int32) (σ : St) : Option (Int32 × St) :=
  nm (setI σ 0 7 (s1 + s0)) fun σ_5 => chk (decide (v2 = 0 ∨ v2 = 1)) (some (v2, σ_5))
set_option maxRecDepth 100000 in
theorem tM_hasWord_20 {X : CX} (hX : gd X cX12_hasWord 3 RX12 (some .boolean)) (hw : (xw X).1 = mLy) (hg : nA X) (hR : xR X = rmOf 1 21 0 0) {r : Int32} {τ : St} (hr : xr X = (some (.int r), τ)) (v2 : Int32) (s0 : Int32) (s1 : Int32) (σ : St) (h : rM_hasWord_20 v2 s0 s1 σ = some (r, τ)) : Jd X 3 20 [(2, .int v2)] [.int s0, .int s1, .ref (wad (xw X) 0)] σ := by
  unfold rM_hasWord_20 at h
  refine J_iadd hX dX12_hasWord_20 ?_
  refine K_puti hX (mc_0 hw) cls_X12 (k := 7) (by decide) uw_6_54 rfl rfl rfl dX12_hasWord_21 h (fun σ_5 h => ?_)
  refine J_iload_n (q := 0) hX dX12_hasWord_24 rfl rfl ?_
  exact K_zret hX hr dX12_hasWord_25 h

def rM_hasWord (v1 : Int32) (σ : St) : Option (Int32 × St) :=
  bnd2 (rM_isWord v1 σ) fun r_3 σ_1 => nm r_3 fun v2_4 => brc (v2_4 = 0) (rM_hasWord_20 v2_4 (0 : Int32) (σ_1.1 0 7) σ_1) (rM_hasWord_20 v2_4 (1 : Int32) (σ_1.1 0 7) σ_1)
set_option maxRecDepth 100000 in
theorem tM_hasWord {X : CX} (hX : gd X cX12_hasWord 3 RX12 (some .boolean)) (hw : (xw X).1 = mLy) (hg : nA X) (hR : xR X = rmOf 1 21 0 0) {r : Int32} {τ : St} (hr : xr X = (some (.int r), τ)) (v1 : Int32) (σ : St) (h : rM_hasWord v1 σ = some (r, τ)) : Jd X 3 0 [(0, .ref (wad (xw X) 0)), (1, .int v1)] [] σ := by
  unfold rM_hasWord at h
  refine J_aload_n (q := 0) hX dX12_hasWord_0 rfl rfl ?_
  refine J_iload_n (q := 1) hX dX12_hasWord_1 rfl rfl ?_
  obtain ⟨r_3, σ_1, hc_2, h⟩ := bnd2_some h
  refine K_callV [.int v1] hX hg hR (ctM_isWord hw hc_2) lk_X12_200_X12_isWord md_X12_isWord (mc_0 hw) cls_X12 ⟨by decide, by decide⟩ rfl rfl (Nat.le_of_ble_eq_true rfl) dX12_hasWord_2 ?_
  refine K_istore_n (fun v2_4 => [(2, .int v2_4), (0, .ref (wad (xw X) 0)), (1, .int v1)]) hX dX12_hasWord_5 rfl (by decide) (fun _ => rfl) h (fun v2_4 h => ?_)
  refine J_aload_n (q := 1) hX dX12_hasWord_6 rfl rfl ?_
  refine J_dup hX dX12_hasWord_7 rfl ?_
  refine K_geti hX (mc_0 hw) cls_X12 (k := 7) (by decide) uw_6_54 rfl dX12_hasWord_8 ?_
  refine J_iload_n (q := 0) hX dX12_hasWord_11 rfl rfl ?_
  refine K_if_eq (tgt := 19) hX dX12_hasWord_12 rfl h (fun h => ?_) (fun h => ?_)
  · refine J_iconst (v := (0 : Int32)) hX dX12_hasWord_19 (by decide) ?_
    refine J_sub [0] rfl ?_
    exact tM_hasWord_20 hX hw hg hR hr v2_4 (0 : Int32) (σ_1.1 0 7) σ_1 h
  · refine J_iconst (v := (1 : Int32)) hX dX12_hasWord_15 (by decide) ?_
    refine J_goto (tgt := 20) hX dX12_hasWord_16 rfl ?_
    refine J_sub [0] rfl ?_
    exact tM_hasWord_20 hX hw hg hR hr v2_4 (1 : Int32) (σ_1.1 0 7) σ_1 h
theorem ctM_hasWord {w : WT} (hw : w.1 = mLy) {v1 : Int32} {σ : St} {r : Int32} {τ : St} (h : rM_hasWord v1 σ = some (r, τ)) : Ct yX12_hasWord cX12_hasWord 3 (some .boolean) 1 21 w [.ref (wad w 0), .int v1] σ (some (.int r)) τ 0 0 :=
  Ct_intro (fun _ => (0, 0)) (by decide) rfl ⟨rfl, Nat.le_refl _⟩ (Nat.le_of_ble_eq_true rfl) (fun X hX hR hwX hg hr => by subst hwX; exact tM_hasWord hX hw hg hR hr v1 σ h)

def rM_takeNumber_70 (σ : St) : Option (Int32 × St) :=
  brc ((σ.1 0 8) ≤ 0) (nm (setI σ 0 7 ((σ.1 0 7) + (1 : Int32))) fun σ_1 => chk (ib ((σ_1.1 0 7) - (1 : Int32)) 1002) (some ((σ_1.2.1 4 ((σ_1.1 0 7) - (1 : Int32)).toNatClampNeg).toInt32, σ_1))) (some ((0 : Int32), σ))
set_option maxRecDepth 100000 in
theorem tM_takeNumber_70 {X : CX} (hX : gd X cX12_takeNumber 3 RX12 (some .int)) (hw : (xw X).1 = mLy) (hg : nA X) (hR : xR X = rmOf 1 21 0 0) {r : Int32} {τ : St} (hr : xr X = (some (.int r), τ)) (σ : St) (h : rM_takeNumber_70 σ = some (r, τ)) : Jd X 3 70 [(0, .ref (wad (xw X) 0))] [] σ := by
  unfold rM_takeNumber_70 at h
  refine J_aload_n (q := 0) hX dX12_takeNumber_70 rfl rfl ?_
  refine K_geti hX (mc_0 hw) cls_X12 (k := 8) (by decide) uw_6_55 rfl dX12_takeNumber_71 ?_
  refine K_if_le (tgt := 79) hX dX12_takeNumber_74 rfl h (fun h => ?_) (fun h => ?_)
  · refine J_aload_n (q := 0) hX dX12_takeNumber_79 rfl rfl ?_
    refine J_dup hX dX12_takeNumber_80 rfl ?_
    refine K_geti hX (mc_0 hw) cls_X12 (k := 7) (by decide) uw_6_54 rfl dX12_takeNumber_81 ?_
    refine J_iconst (v := (1 : Int32)) hX dX12_takeNumber_84 (by decide) ?_
    refine J_iadd hX dX12_takeNumber_85 ?_
    refine K_puti hX (mc_0 hw) cls_X12 (k := 7) (by decide) uw_6_54 rfl rfl rfl dX12_takeNumber_86 h (fun σ_1 h => ?_)
    refine J_aload_n (q := 0) hX dX12_takeNumber_89 rfl rfl ?_
    refine K_getc 4 hX (mc_0 hw) cls_X12 (k := 6) (by decide) uw_6_53 rfl dX12_takeNumber_90 ?_
    refine J_aload_n (q := 0) hX dX12_takeNumber_93 rfl rfl ?_
    refine K_geti hX (mc_0 hw) cls_X12 (k := 7) (by decide) uw_6_54 rfl dX12_takeNumber_94 ?_
    refine J_iconst (v := (1 : Int32)) hX dX12_takeNumber_97 (by decide) ?_
    refine J_isub hX dX12_takeNumber_98 ?_
    refine K_lald hX (mc_4 hw) dX12_takeNumber_99 h (fun h => ?_)
    refine J_l2i hX dX12_takeNumber_100 ?_
    exact K_iret hX hr dX12_takeNumber_101 h
  · refine J_iconst (v := (0 : Int32)) hX dX12_takeNumber_77 (by decide) ?_
    exact K_iret hX hr dX12_takeNumber_78 h

def rM_takeNumber_65 (σ : St) : Option (Int32 × St) :=
  bnd1 (rM_wrong (4 : Int32) σ) fun σ_2 => rM_takeNumber_70 σ_2
set_option maxRecDepth 100000 in
theorem tM_takeNumber_65 {X : CX} (hX : gd X cX12_takeNumber 3 RX12 (some .int)) (hw : (xw X).1 = mLy) (hg : nA X) (hR : xR X = rmOf 1 21 0 0) {r : Int32} {τ : St} (hr : xr X = (some (.int r), τ)) (σ : St) (h : rM_takeNumber_65 σ = some (r, τ)) : Jd X 3 65 [(0, .ref (wad (xw X) 0))] [] σ := by
  unfold rM_takeNumber_65 at h
  refine J_aload_n (q := 0) hX dX12_takeNumber_65 rfl rfl ?_
  refine J_iconst (v := (4 : Int32)) hX dX12_takeNumber_66 (by decide) ?_
  obtain ⟨σ_2, hc_3, h⟩ := bnd1_some h
  refine K_callV [.int (4 : Int32)] hX hg hR (ctM_wrong hw hc_3) lk_X12_197_X12_wrong md_X12_wrong (mc_0 hw) cls_X12 ⟨by decide, by decide⟩ rfl rfl (Nat.le_of_ble_eq_true rfl) dX12_takeNumber_67 ?_
  refine J_sub [0] rfl ?_
  exact tM_takeNumber_70 hX hw hg hR hr σ_2 h

def rM_takeNumber_28 (v1 : Int32) (v2 : Int32) (σ : St) : Option (Int32 × St) :=
  brc (¬ (σ.1 0 8) = 0) (rM_takeNumber_70 σ) (chk (ib (σ.1 0 7) 1002) (brc ((lg_cmp (σ.2.1 4 (σ.1 0 7).toNatClampNeg) v1.toInt64) < 0) (rM_takeNumber_65 σ) (chk (ib (σ.1 0 7) 1002) (brc ((lg_cmp (σ.2.1 4 (σ.1 0 7).toNatClampNeg) v2.toInt64) ≤ 0) (rM_takeNumber_70 σ) (rM_takeNumber_65 σ)))))
set_option maxRecDepth 100000 in
theorem tM_takeNumber_28 {X : CX} (hX : gd X cX12_takeNumber 3 RX12 (some .int)) (hw : (xw X).1 = mLy) (hg : nA X) (hR : xR X = rmOf 1 21 0 0) {r : Int32} {τ : St} (hr : xr X = (some (.int r), τ)) (v1 : Int32) (v2 : Int32) (σ : St) (h : rM_takeNumber_28 v1 v2 σ = some (r, τ)) : Jd X 3 28 [(0, .ref (wad (xw X) 0)), (1, .int v1), (2, .int v2)] [] σ := by
  unfold rM_takeNumber_28 at h
  refine J_aload_n (q := 0) hX dX12_takeNumber_28 rfl rfl ?_
  refine K_geti hX (mc_0 hw) cls_X12 (k := 8) (by decide) uw_6_55 rfl dX12_takeNumber_29 ?_
  refine K_if_ne (tgt := 70) hX dX12_takeNumber_32 rfl h (fun h => ?_) (fun h => ?_)
  · refine J_sub [0] rfl ?_
    exact tM_takeNumber_70 hX hw hg hR hr σ h
  · refine J_aload_n (q := 0) hX dX12_takeNumber_35 rfl rfl ?_
    refine K_getc 4 hX (mc_0 hw) cls_X12 (k := 6) (by decide) uw_6_53 rfl dX12_takeNumber_36 ?_
    refine J_aload_n (q := 0) hX dX12_takeNumber_39 rfl rfl ?_
    refine K_geti hX (mc_0 hw) cls_X12 (k := 7) (by decide) uw_6_54 rfl dX12_takeNumber_40 ?_
    refine K_lald hX (mc_4 hw) dX12_takeNumber_43 h (fun h => ?_)
    refine J_iload_n (q := 1) hX dX12_takeNumber_44 rfl rfl ?_
    refine J_i2l hX dX12_takeNumber_45 ?_
    refine J_lcmp hX dX12_takeNumber_46 ?_
    refine K_if_lt (tgt := 65) hX dX12_takeNumber_47 rfl h (fun h => ?_) (fun h => ?_)
    · refine J_sub [0] rfl ?_
      exact tM_takeNumber_65 hX hw hg hR hr σ h
    · refine J_aload_n (q := 0) hX dX12_takeNumber_50 rfl rfl ?_
      refine K_getc 4 hX (mc_0 hw) cls_X12 (k := 6) (by decide) uw_6_53 rfl dX12_takeNumber_51 ?_
      refine J_aload_n (q := 0) hX dX12_takeNumber_54 rfl rfl ?_
      refine K_geti hX (mc_0 hw) cls_X12 (k := 7) (by decide) uw_6_54 rfl dX12_takeNumber_55 ?_
      refine K_lald hX (mc_4 hw) dX12_takeNumber_58 h (fun h => ?_)
      refine J_iload_n (q := 2) hX dX12_takeNumber_59 rfl rfl ?_
      refine J_i2l hX dX12_takeNumber_60 ?_
      refine J_lcmp hX dX12_takeNumber_61 ?_
      refine K_if_le (tgt := 70) hX dX12_takeNumber_62 rfl h (fun h => ?_) (fun h => ?_)
      · refine J_sub [0] rfl ?_
        exact tM_takeNumber_70 hX hw hg hR hr σ h
      · refine J_sub [0] rfl ?_
        exact tM_takeNumber_65 hX hw hg hR hr σ h

def rM_takeNumber (v1 : Int32) (v2 : Int32) (σ : St) : Option (Int32 × St) :=
  brc (¬ (σ.1 0 8) = 0) (rM_takeNumber_28 v1 v2 σ) (chk (ib (σ.1 0 7) 1002) (brc ((σ.1 2 (σ.1 0 7).toNatClampNeg) = (2 : Int32)) (rM_takeNumber_28 v1 v2 σ) (bnd1 (rM_wrong (1 : Int32) σ) fun σ_4 => rM_takeNumber_70 σ_4)))
set_option maxRecDepth 100000 in
theorem tM_takeNumber {X : CX} (hX : gd X cX12_takeNumber 3 RX12 (some .int)) (hw : (xw X).1 = mLy) (hg : nA X) (hR : xR X = rmOf 1 21 0 0) {r : Int32} {τ : St} (hr : xr X = (some (.int r), τ)) (v1 : Int32) (v2 : Int32) (σ : St) (h : rM_takeNumber v1 v2 σ = some (r, τ)) : Jd X 3 0 [(0, .ref (wad (xw X) 0)), (1, .int v1), (2, .int v2)] [] σ := by
  unfold rM_takeNumber at h
  refine J_aload_n (q := 0) hX dX12_takeNumber_0 rfl rfl ?_
  refine K_geti hX (mc_0 hw) cls_X12 (k := 8) (by decide) uw_6_55 rfl dX12_takeNumber_1 ?_
  refine K_if_ne (tgt := 28) hX dX12_takeNumber_4 rfl h (fun h => ?_) (fun h => ?_)
  · refine J_sub [0, 1, 2] rfl ?_
    exact tM_takeNumber_28 hX hw hg hR hr v1 v2 σ h
  · refine J_aload_n (q := 0) hX dX12_takeNumber_7 rfl rfl ?_
    refine K_getc 2 hX (mc_0 hw) cls_X12 (k := 4) (by decide) uw_6_51 rfl dX12_takeNumber_8 ?_
    refine J_aload_n (q := 0) hX dX12_takeNumber_11 rfl rfl ?_
    refine K_geti hX (mc_0 hw) cls_X12 (k := 7) (by decide) uw_6_54 rfl dX12_takeNumber_12 ?_
    refine K_iald hX (mc_2 hw) dX12_takeNumber_15 h (fun h => ?_)
    refine J_iconst (v := (2 : Int32)) hX dX12_takeNumber_16 (by decide) ?_
    refine K_icmp_eq (tgt := 28) hX dX12_takeNumber_17 rfl h (fun h => ?_) (fun h => ?_)
    · refine J_sub [0, 1, 2] rfl ?_
      exact tM_takeNumber_28 hX hw hg hR hr v1 v2 σ h
    · refine J_aload_n (q := 0) hX dX12_takeNumber_20 rfl rfl ?_
      refine J_iconst (v := (1 : Int32)) hX dX12_takeNumber_21 (by decide) ?_
      obtain ⟨σ_4, hc_5, h⟩ := bnd1_some h
      refine K_callV [.int (1 : Int32)] hX hg hR (ctM_wrong hw hc_5) lk_X12_197_X12_wrong md_X12_wrong (mc_0 hw) cls_X12 ⟨by decide, by decide⟩ rfl rfl (Nat.le_of_ble_eq_true rfl) dX12_takeNumber_22 ?_
      refine J_goto (tgt := 70) hX dX12_takeNumber_25 rfl ?_
      refine J_sub [0] rfl ?_
      exact tM_takeNumber_70 hX hw hg hR hr σ_4 h
theorem ctM_takeNumber {w : WT} (hw : w.1 = mLy) {v1 : Int32} {v2 : Int32} {σ : St} {r : Int32} {τ : St} (h : rM_takeNumber v1 v2 σ = some (r, τ)) : Ct yX12_takeNumber cX12_takeNumber 3 (some .int) 1 21 w [.ref (wad w 0), .int v1, .int v2] σ (some (.int r)) τ 0 0 :=
  Ct_intro (fun _ => (0, 0)) (by decide) rfl ⟨rfl, Nat.le_refl _⟩ (Nat.le_of_ble_eq_true rfl) (fun X hX hR hwX hg hr => by subst hwX; exact tM_takeNumber hX hw hg hR hr v1 v2 σ h)

def rM_readName_92 (σ : St) : Option (St) :=
  some σ
set_option maxRecDepth 100000 in
theorem tM_readName_92 {X : CX} (hX : gd X cX12_readName 2 RX12 none) (hw : (xw X).1 = mLy) (hg : nA X) (hR : xR X = rmOf 1 22 0 0) {τ : St} (hr : xr X = (none, τ)) (σ : St) (h : rM_readName_92 σ = some τ) : Jd X 2 92 [] [] σ := by
  unfold rM_readName_92 at h
  exact K_vret hX hr dX12_readName_92 h

def rM_readName_37 (v1 : Int32) (σ : St) : Option (St) :=
  brc (¬ (σ.1 0 8) = 0) (rM_readName_92 σ) (chk (ib (σ.1 0 7) 1002) (chk (ib (σ.1 0 17) 13) (nm (setJ σ 10 (σ.1 0 17).toNatClampNeg (σ.2.1 4 (σ.1 0 7).toNatClampNeg)) fun σ_8 => chk (ib (σ_8.1 0 17) 13) (nm (setI σ_8 11 (σ_8.1 0 17).toNatClampNeg v1) fun σ_9 => nm (setI σ_9 0 17 ((σ_9.1 0 17) + (1 : Int32))) fun σ_10 => nm (setI σ_10 0 7 ((σ_10.1 0 7) + (1 : Int32))) fun σ_11 => rM_readName_92 σ_11))))
set_option maxRecDepth 100000 in
theorem tM_readName_37 {X : CX} (hX : gd X cX12_readName 2 RX12 none) (hw : (xw X).1 = mLy) (hg : nA X) (hR : xR X = rmOf 1 22 0 0) {τ : St} (hr : xr X = (none, τ)) (v1 : Int32) (σ : St) (h : rM_readName_37 v1 σ = some τ) : Jd X 2 37 [(0, .ref (wad (xw X) 0)), (1, .int v1)] [] σ := by
  unfold rM_readName_37 at h
  refine J_aload_n (q := 0) hX dX12_readName_37 rfl rfl ?_
  refine K_geti hX (mc_0 hw) cls_X12 (k := 8) (by decide) uw_6_55 rfl dX12_readName_38 ?_
  refine K_if_ne (tgt := 92) hX dX12_readName_41 rfl h (fun h => ?_) (fun h => ?_)
  · refine J_sub [] rfl ?_
    exact tM_readName_92 hX hw hg hR hr σ h
  · refine J_aload_n (q := 0) hX dX12_readName_44 rfl rfl ?_
    refine K_getc 10 hX (mc_0 hw) cls_X12 (k := 15) (by decide) uw_6_62 rfl dX12_readName_45 ?_
    refine J_aload_n (q := 0) hX dX12_readName_48 rfl rfl ?_
    refine K_geti hX (mc_0 hw) cls_X12 (k := 17) (by decide) uw_6_64 rfl dX12_readName_49 ?_
    refine J_aload_n (q := 0) hX dX12_readName_52 rfl rfl ?_
    refine K_getc 4 hX (mc_0 hw) cls_X12 (k := 6) (by decide) uw_6_53 rfl dX12_readName_53 ?_
    refine J_aload_n (q := 0) hX dX12_readName_56 rfl rfl ?_
    refine K_geti hX (mc_0 hw) cls_X12 (k := 7) (by decide) uw_6_54 rfl dX12_readName_57 ?_
    refine K_lald hX (mc_4 hw) dX12_readName_60 h (fun h => ?_)
    refine K_last hX (mc_10 hw) dX12_readName_61 h (fun σ_8 h => ?_)
    refine J_aload_n (q := 0) hX dX12_readName_62 rfl rfl ?_
    refine K_getc 11 hX (mc_0 hw) cls_X12 (k := 16) (by decide) uw_6_63 rfl dX12_readName_63 ?_
    refine J_aload_n (q := 0) hX dX12_readName_66 rfl rfl ?_
    refine K_geti hX (mc_0 hw) cls_X12 (k := 17) (by decide) uw_6_64 rfl dX12_readName_67 ?_
    refine J_iload_n (q := 1) hX dX12_readName_70 rfl rfl ?_
    refine K_iast hX (mc_11 hw) dX12_readName_71 h (fun σ_9 h => ?_)
    refine J_aload_n (q := 0) hX dX12_readName_72 rfl rfl ?_
    refine J_dup hX dX12_readName_73 rfl ?_
    refine K_geti hX (mc_0 hw) cls_X12 (k := 17) (by decide) uw_6_64 rfl dX12_readName_74 ?_
    refine J_iconst (v := (1 : Int32)) hX dX12_readName_77 (by decide) ?_
    refine J_iadd hX dX12_readName_78 ?_
    refine K_puti hX (mc_0 hw) cls_X12 (k := 17) (by decide) uw_6_64 rfl rfl rfl dX12_readName_79 h (fun σ_10 h => ?_)
    refine J_aload_n (q := 0) hX dX12_readName_82 rfl rfl ?_
    refine J_dup hX dX12_readName_83 rfl ?_
    refine K_geti hX (mc_0 hw) cls_X12 (k := 7) (by decide) uw_6_54 rfl dX12_readName_84 ?_
    refine J_iconst (v := (1 : Int32)) hX dX12_readName_87 (by decide) ?_
    refine J_iadd hX dX12_readName_88 ?_
    refine K_puti hX (mc_0 hw) cls_X12 (k := 7) (by decide) uw_6_54 rfl rfl rfl dX12_readName_89 h (fun σ_11 h => ?_)
    refine J_sub [] rfl ?_
    exact tM_readName_92 hX hw hg hR hr σ_11 h

def rM_readName (v1 : Int32) (σ : St) : Option (St) :=
  nm (setI σ 0 7 ((σ.1 0 7) + (1 : Int32))) fun σ_1 => bnd2 (rM_isName σ_1) fun r_4 σ_2 => brc (¬ r_4 = 0) (bnd2 (rM_find σ_2) fun r_7 σ_5 => brc (r_7 < 0) (rM_readName_37 v1 σ_5) (bnd1 (rM_wrong (3 : Int32) σ_5) fun σ_12 => rM_readName_37 v1 σ_12)) (bnd1 (rM_wrong (1 : Int32) σ_2) fun σ_14 => rM_readName_37 v1 σ_14)
set_option maxRecDepth 100000 in
theorem tM_readName {X : CX} (hX : gd X cX12_readName 2 RX12 none) (hw : (xw X).1 = mLy) (hg : nA X) (hR : xR X = rmOf 1 22 0 0) {τ : St} (hr : xr X = (none, τ)) (v1 : Int32) (σ : St) (h : rM_readName v1 σ = some τ) : Jd X 2 0 [(0, .ref (wad (xw X) 0)), (1, .int v1)] [] σ := by
  unfold rM_readName at h
  refine J_aload_n (q := 0) hX dX12_readName_0 rfl rfl ?_
  refine J_dup hX dX12_readName_1 rfl ?_
  refine K_geti hX (mc_0 hw) cls_X12 (k := 7) (by decide) uw_6_54 rfl dX12_readName_2 ?_
  refine J_iconst (v := (1 : Int32)) hX dX12_readName_5 (by decide) ?_
  refine J_iadd hX dX12_readName_6 ?_
  refine K_puti hX (mc_0 hw) cls_X12 (k := 7) (by decide) uw_6_54 rfl rfl rfl dX12_readName_7 h (fun σ_1 h => ?_)
  refine J_aload_n (q := 0) hX dX12_readName_10 rfl rfl ?_
  obtain ⟨r_4, σ_2, hc_3, h⟩ := bnd2_some h
  refine K_callV [] hX hg hR (ctM_isName hw hc_3) lk_X12_255_X12_isName md_X12_isName (mc_0 hw) cls_X12 ⟨by decide, by decide⟩ rfl rfl (Nat.le_of_ble_eq_true rfl) dX12_readName_11 ?_
  refine K_if_ne (tgt := 25) hX dX12_readName_14 rfl h (fun h => ?_) (fun h => ?_)
  · refine J_aload_n (q := 0) hX dX12_readName_25 rfl rfl ?_
    obtain ⟨r_7, σ_5, hc_6, h⟩ := bnd2_some h
    refine K_callV [] hX hg hR (ctM_find hw hc_6) lk_X12_259_X12_find md_X12_find (mc_0 hw) cls_X12 ⟨by decide, by decide⟩ rfl rfl (Nat.le_of_ble_eq_true rfl) dX12_readName_26 ?_
    refine K_if_lt (tgt := 37) hX dX12_readName_29 rfl h (fun h => ?_) (fun h => ?_)
    · refine J_sub [0, 1] rfl ?_
      exact tM_readName_37 hX hw hg hR hr v1 σ_5 h
    · refine J_aload_n (q := 0) hX dX12_readName_32 rfl rfl ?_
      refine J_iconst (v := (3 : Int32)) hX dX12_readName_33 (by decide) ?_
      obtain ⟨σ_12, hc_13, h⟩ := bnd1_some h
      refine K_callV [.int (3 : Int32)] hX hg hR (ctM_wrong hw hc_13) lk_X12_197_X12_wrong md_X12_wrong (mc_0 hw) cls_X12 ⟨by decide, by decide⟩ rfl rfl (Nat.le_of_ble_eq_true rfl) dX12_readName_34 ?_
      refine J_sub [0, 1] rfl ?_
      exact tM_readName_37 hX hw hg hR hr v1 σ_12 h
  · refine J_aload_n (q := 0) hX dX12_readName_17 rfl rfl ?_
    refine J_iconst (v := (1 : Int32)) hX dX12_readName_18 (by decide) ?_
    obtain ⟨σ_14, hc_15, h⟩ := bnd1_some h
    refine K_callV [.int (1 : Int32)] hX hg hR (ctM_wrong hw hc_15) lk_X12_197_X12_wrong md_X12_wrong (mc_0 hw) cls_X12 ⟨by decide, by decide⟩ rfl rfl (Nat.le_of_ble_eq_true rfl) dX12_readName_19 ?_
    refine J_goto (tgt := 37) hX dX12_readName_22 rfl ?_
    refine J_sub [0, 1] rfl ?_
    exact tM_readName_37 hX hw hg hR hr v1 σ_14 h
theorem ctM_readName {w : WT} (hw : w.1 = mLy) {v1 : Int32} {σ : St} {τ : St} (h : rM_readName v1 σ = some τ) : Ct yX12_readName cX12_readName 2 none 1 22 w [.ref (wad w 0), .int v1] σ none τ 0 0 :=
  Ct_intro (fun _ => (0, 0)) (by decide) rfl ⟨rfl, Nat.le_refl _⟩ (Nat.le_of_ble_eq_true rfl) (fun X hX hR hwX hg hr => by subst hwX; exact tM_readName hX hw hg hR hr v1 σ h)

def rM_nameHere_59 (v4 : Int32) (σ : St) : Option (Int32 × St) :=
  some (v4, σ)
set_option maxRecDepth 100000 in
theorem tM_nameHere_59 {X : CX} (hX : gd X cX12_nameHere 5 RX12 (some .int)) (hw : (xw X).1 = mLy) (hg : nA X) (hR : xR X = rmOf 1 22 0 0) {r : Int32} {τ : St} (hr : xr X = (some (.int r), τ)) (v4 : Int32) (σ : St) (h : rM_nameHere_59 v4 σ = some (r, τ)) : Jd X 5 59 [(4, .int v4)] [] σ := by
  unfold rM_nameHere_59 at h
  refine J_iload (q := 0) hX dX12_nameHere_59 rfl ?_
  exact K_iret hX hr dX12_nameHere_61 h

def rM_nameHere_40 (v4 : Int32) (σ : St) : Option (Int32 × St) :=
  bnd1 (rM_wrong (2 : Int32) σ) fun σ_12 => rM_nameHere_59 v4 σ_12
set_option maxRecDepth 100000 in
theorem tM_nameHere_40 {X : CX} (hX : gd X cX12_nameHere 5 RX12 (some .int)) (hw : (xw X).1 = mLy) (hg : nA X) (hR : xR X = rmOf 1 22 0 0) {r : Int32} {τ : St} (hr : xr X = (some (.int r), τ)) (v4 : Int32) (σ : St) (h : rM_nameHere_40 v4 σ = some (r, τ)) : Jd X 5 40 [(0, .ref (wad (xw X) 0)), (4, .int v4)] [] σ := by
  unfold rM_nameHere_40 at h
  refine J_aload_n (q := 0) hX dX12_nameHere_40 rfl rfl ?_
  refine J_iconst (v := (2 : Int32)) hX dX12_nameHere_41 (by decide) ?_
  obtain ⟨σ_12, hc_13, h⟩ := bnd1_some h
  refine K_callV [.int (2 : Int32)] hX hg hR (ctM_wrong hw hc_13) lk_X12_197_X12_wrong md_X12_wrong (mc_0 hw) cls_X12 ⟨by decide, by decide⟩ rfl rfl (Nat.le_of_ble_eq_true rfl) dX12_nameHere_42 ?_
  refine J_goto (tgt := 59) hX dX12_nameHere_45 rfl ?_
  refine J_sub [1] rfl ?_
  exact tM_nameHere_59 hX hw hg hR hr v4 σ_12 h

def rM_nameHere (v1 : Int32) (v2 : Int32) (v3 : Int32) (σ : St) : Option (Int32 × St) :=
  nm (-1 : Int32) fun v4_1 => bnd2 (rM_isName σ) fun r_4 σ_2 => brc (¬ r_4 = 0) (bnd2 (rM_find σ_2) fun r_7 σ_5 => nm (r_7 - v1) fun v4_8 => bnd2 (rM_find σ_5) fun r_11 σ_9 => brc (r_11 < v1) (rM_nameHere_40 v4_8 σ_9) (brc (v4_8 < v2) (brc (¬ v4_8 = v3) (rM_nameHere_59 v4_8 σ_9) (bnd1 (rM_wrong (3 : Int32) σ_9) fun σ_14 => rM_nameHere_59 v4_8 σ_14)) (rM_nameHere_40 v4_8 σ_9))) (bnd1 (rM_wrong (1 : Int32) σ_2) fun σ_16 => rM_nameHere_59 v4_1 σ_16)
set_option maxRecDepth 100000 in
theorem tM_nameHere {X : CX} (hX : gd X cX12_nameHere 5 RX12 (some .int)) (hw : (xw X).1 = mLy) (hg : nA X) (hR : xR X = rmOf 1 22 0 0) {r : Int32} {τ : St} (hr : xr X = (some (.int r), τ)) (v1 : Int32) (v2 : Int32) (v3 : Int32) (σ : St) (h : rM_nameHere v1 v2 v3 σ = some (r, τ)) : Jd X 5 0 [(0, .ref (wad (xw X) 0)), (1, .int v1), (2, .int v2), (3, .int v3)] [] σ := by
  unfold rM_nameHere at h
  refine J_iconst (v := (-1 : Int32)) hX dX12_nameHere_0 (by decide) ?_
  refine K_istore (fun v4_1 => [(4, .int v4_1), (0, .ref (wad (xw X) 0)), (1, .int v1), (2, .int v2), (3, .int v3)]) hX dX12_nameHere_1 (by decide) (fun _ => rfl) h (fun v4_1 h => ?_)
  refine J_aload_n (q := 1) hX dX12_nameHere_3 rfl rfl ?_
  obtain ⟨r_4, σ_2, hc_3, h⟩ := bnd2_some h
  refine K_callV [] hX hg hR (ctM_isName hw hc_3) lk_X12_255_X12_isName md_X12_isName (mc_0 hw) cls_X12 ⟨by decide, by decide⟩ rfl rfl (Nat.le_of_ble_eq_true rfl) dX12_nameHere_4 ?_
  refine K_if_ne (tgt := 18) hX dX12_nameHere_7 rfl h (fun h => ?_) (fun h => ?_)
  · refine J_aload_n (q := 1) hX dX12_nameHere_18 rfl rfl ?_
    obtain ⟨r_7, σ_5, hc_6, h⟩ := bnd2_some h
    refine K_callV [] hX hg hR (ctM_find hw hc_6) lk_X12_259_X12_find md_X12_find (mc_0 hw) cls_X12 ⟨by decide, by decide⟩ rfl rfl (Nat.le_of_ble_eq_true rfl) dX12_nameHere_19 ?_
    refine J_iload_n (q := 2) hX dX12_nameHere_22 rfl rfl ?_
    refine J_isub hX dX12_nameHere_23 ?_
    refine K_istore (fun v4_8 => [(4, .int v4_8), (0, .ref (wad (xw X) 0)), (1, .int v1), (2, .int v2), (3, .int v3)]) hX dX12_nameHere_24 (by decide) (fun _ => rfl) h (fun v4_8 h => ?_)
    refine J_aload_n (q := 1) hX dX12_nameHere_26 rfl rfl ?_
    obtain ⟨r_11, σ_9, hc_10, h⟩ := bnd2_some h
    refine K_callV [] hX hg hR (ctM_find hw hc_10) lk_X12_259_X12_find md_X12_find (mc_0 hw) cls_X12 ⟨by decide, by decide⟩ rfl rfl (Nat.le_of_ble_eq_true rfl) dX12_nameHere_27 ?_
    refine J_iload_n (q := 2) hX dX12_nameHere_30 rfl rfl ?_
    refine K_icmp_lt (tgt := 40) hX dX12_nameHere_31 rfl h (fun h => ?_) (fun h => ?_)
    · refine J_sub [1, 0] rfl ?_
      exact tM_nameHere_40 hX hw hg hR hr v4_8 σ_9 h
    · refine J_iload (q := 0) hX dX12_nameHere_34 rfl ?_
      refine J_iload_n (q := 3) hX dX12_nameHere_36 rfl rfl ?_
      refine K_icmp_lt (tgt := 48) hX dX12_nameHere_37 rfl h (fun h => ?_) (fun h => ?_)
      · refine J_iload (q := 0) hX dX12_nameHere_48 rfl ?_
        refine J_iload_n (q := 4) hX dX12_nameHere_50 rfl rfl ?_
        refine K_icmp_ne (tgt := 59) hX dX12_nameHere_51 rfl h (fun h => ?_) (fun h => ?_)
        · refine J_sub [0] rfl ?_
          exact tM_nameHere_59 hX hw hg hR hr v4_8 σ_9 h
        · refine J_aload_n (q := 1) hX dX12_nameHere_54 rfl rfl ?_
          refine J_iconst (v := (3 : Int32)) hX dX12_nameHere_55 (by decide) ?_
          obtain ⟨σ_14, hc_15, h⟩ := bnd1_some h
          refine K_callV [.int (3 : Int32)] hX hg hR (ctM_wrong hw hc_15) lk_X12_197_X12_wrong md_X12_wrong (mc_0 hw) cls_X12 ⟨by decide, by decide⟩ rfl rfl (Nat.le_of_ble_eq_true rfl) dX12_nameHere_56 ?_
          refine J_sub [0] rfl ?_
          exact tM_nameHere_59 hX hw hg hR hr v4_8 σ_14 h
      · refine J_sub [1, 0] rfl ?_
        exact tM_nameHere_40 hX hw hg hR hr v4_8 σ_9 h
  · refine J_aload_n (q := 1) hX dX12_nameHere_10 rfl rfl ?_
    refine J_iconst (v := (1 : Int32)) hX dX12_nameHere_11 (by decide) ?_
    obtain ⟨σ_16, hc_17, h⟩ := bnd1_some h
    refine K_callV [.int (1 : Int32)] hX hg hR (ctM_wrong hw hc_17) lk_X12_197_X12_wrong md_X12_wrong (mc_0 hw) cls_X12 ⟨by decide, by decide⟩ rfl rfl (Nat.le_of_ble_eq_true rfl) dX12_nameHere_12 ?_
    refine J_goto (tgt := 59) hX dX12_nameHere_15 rfl ?_
    refine J_sub [0] rfl ?_
    exact tM_nameHere_59 hX hw hg hR hr v4_1 σ_16 h
theorem ctM_nameHere {w : WT} (hw : w.1 = mLy) {v1 : Int32} {v2 : Int32} {v3 : Int32} {σ : St} {r : Int32} {τ : St} (h : rM_nameHere v1 v2 v3 σ = some (r, τ)) : Ct yX12_nameHere cX12_nameHere 5 (some .int) 1 22 w [.ref (wad w 0), .int v1, .int v2, .int v3] σ (some (.int r)) τ 0 0 :=
  Ct_intro (fun _ => (0, 0)) (by decide) rfl ⟨rfl, Nat.le_refl _⟩ (Nat.le_of_ble_eq_true rfl) (fun X hX hR hwX hg hr => by subst hwX; exact tM_nameHere hX hw hg hR hr v1 v2 v3 σ h)

def rM_factHere_54 (k4 : Int32 → Int32 → St → Option (Int32 × St)) (v2 : Int32) (s0 : Int32) (σ : St) : Option (Int32 × St) :=
  nm s0 fun v1_6 => nm (v2 + Int32.ofInt 1) fun v2_7 => k4 v1_6 v2_7 σ
set_option maxRecDepth 100000 in
theorem tM_factHere_54 {X : CX} (hX : gd X cX12_factHere 3 RX12 (some .int)) (hw : (xw X).1 = mLy) (hg : nA X) (hR : xR X = rmOf 1 21 0 0) {r : Int32} {τ : St} (hr : xr X = (some (.int r), τ)) {k4 : Int32 → Int32 → St → Option (Int32 × St)} (hk4 : (∀ (v1 : Int32) (v2 : Int32) (σ : St), k4 v1 v2 σ = some (r, τ) → Jd X 3 4 [(0, .ref (wad (xw X) 0)), (1, .int v1), (2, .int v2)] [] σ)) (v2 : Int32) (s0 : Int32) (σ : St) (h : rM_factHere_54 k4 v2 s0 σ = some (r, τ)) : Jd X 3 54 [(0, .ref (wad (xw X) 0)), (2, .int v2)] [.int s0] σ := by
  unfold rM_factHere_54 at h
  refine K_istore_n (fun v1_6 => [(1, .int v1_6), (0, .ref (wad (xw X) 0)), (2, .int v2)]) hX dX12_factHere_54 rfl (by decide) (fun _ => rfl) h (fun v1_6 h => ?_)
  refine K_iinc (q := 2) (fun v2_7 => [(2, .int v2_7), (1, .int v1_6), (0, .ref (wad (xw X) 0))]) hX dX12_factHere_55 rfl (by decide) (fun _ => rfl) h (fun v2_7 h => ?_)
  refine J_goto (tgt := 4) hX dX12_factHere_58 rfl ?_
  refine J_sub [2, 1, 0] rfl ?_
  exact hk4 v1_6 v2_7 σ h

def rM_factHere_43 (k4 : Int32 → Int32 → St → Option (Int32 × St)) (v1 : Int32) (v2 : Int32) (s0 : Int32) (σ : St) : Option (Int32 × St) :=
  bnd2 (rM_isWord s0 σ) fun r_5 σ_3 => brc (r_5 = 0) (rM_factHere_54 k4 v2 v1 σ_3) (rM_factHere_54 k4 v2 v2 σ_3)
set_option maxRecDepth 100000 in
theorem tM_factHere_43 {X : CX} (hX : gd X cX12_factHere 3 RX12 (some .int)) (hw : (xw X).1 = mLy) (hg : nA X) (hR : xR X = rmOf 1 21 0 0) {r : Int32} {τ : St} (hr : xr X = (some (.int r), τ)) {k4 : Int32 → Int32 → St → Option (Int32 × St)} (hk4 : (∀ (v1 : Int32) (v2 : Int32) (σ : St), k4 v1 v2 σ = some (r, τ) → Jd X 3 4 [(0, .ref (wad (xw X) 0)), (1, .int v1), (2, .int v2)] [] σ)) (v1 : Int32) (v2 : Int32) (s0 : Int32) (σ : St) (h : rM_factHere_43 k4 v1 v2 s0 σ = some (r, τ)) : Jd X 3 43 [(0, .ref (wad (xw X) 0)), (1, .int v1), (2, .int v2)] [.int s0, .ref (wad (xw X) 0)] σ := by
  unfold rM_factHere_43 at h
  obtain ⟨r_5, σ_3, hc_4, h⟩ := bnd2_some h
  refine K_callV [.int s0] hX hg hR (ctM_isWord hw hc_4) lk_X12_200_X12_isWord md_X12_isWord (mc_0 hw) cls_X12 ⟨by decide, by decide⟩ rfl rfl (Nat.le_of_ble_eq_true rfl) dX12_factHere_43 ?_
  refine K_if_eq (tgt := 53) hX dX12_factHere_46 rfl h (fun h => ?_) (fun h => ?_)
  · refine J_iload_n (q := 1) hX dX12_factHere_53 rfl rfl ?_
    refine J_sub [0, 2] rfl ?_
    exact tM_factHere_54 hX hw hg hR hr hk4 v2 v1 σ_3 h
  · refine J_iload_n (q := 2) hX dX12_factHere_49 rfl rfl ?_
    refine J_goto (tgt := 54) hX dX12_factHere_50 rfl ?_
    refine J_sub [0, 2] rfl ?_
    exact tM_factHere_54 hX hw hg hR hr hk4 v2 v2 σ_3 h

def rM_factHere_17 (k4 : Int32 → Int32 → St → Option (Int32 × St)) (v1 : Int32) (v2 : Int32) (s0 : Int32) (s1 : Int32) (σ : St) : Option (Int32 × St) :=
  brc (s0 ≤ s1) (some (v1, σ)) (brc ((σ.1 0 19) = 0) (chk (ib v2 5) (rM_factHere_43 k4 v1 v2 (σ.1 12 v2.toNatClampNeg) σ)) (chk (ib v2 2) (rM_factHere_43 k4 v1 v2 (σ.1 13 v2.toNatClampNeg) σ)))
set_option maxRecDepth 100000 in
theorem tM_factHere_17 {X : CX} (hX : gd X cX12_factHere 3 RX12 (some .int)) (hw : (xw X).1 = mLy) (hg : nA X) (hR : xR X = rmOf 1 21 0 0) {r : Int32} {τ : St} (hr : xr X = (some (.int r), τ)) {k4 : Int32 → Int32 → St → Option (Int32 × St)} (hk4 : (∀ (v1 : Int32) (v2 : Int32) (σ : St), k4 v1 v2 σ = some (r, τ) → Jd X 3 4 [(0, .ref (wad (xw X) 0)), (1, .int v1), (2, .int v2)] [] σ)) (v1 : Int32) (v2 : Int32) (s0 : Int32) (s1 : Int32) (σ : St) (h : rM_factHere_17 k4 v1 v2 s0 s1 σ = some (r, τ)) : Jd X 3 17 [(0, .ref (wad (xw X) 0)), (1, .int v1), (2, .int v2)] [.int s0, .int s1] σ := by
  unfold rM_factHere_17 at h
  refine K_icmp_ge (tgt := 61) hX dX12_factHere_17 rfl h (fun h => ?_) (fun h => ?_)
  · refine J_iload_n (q := 1) hX dX12_factHere_61 rfl rfl ?_
    exact K_iret hX hr dX12_factHere_62 h
  · refine J_aload_n (q := 0) hX dX12_factHere_20 rfl rfl ?_
    refine J_aload_n (q := 0) hX dX12_factHere_21 rfl rfl ?_
    refine K_geti hX (mc_0 hw) cls_X12 (k := 19) (by decide) uw_6_66 rfl dX12_factHere_22 ?_
    refine K_if_eq (tgt := 37) hX dX12_factHere_25 rfl h (fun h => ?_) (fun h => ?_)
    · refine J_aload_n (q := 0) hX dX12_factHere_37 rfl rfl ?_
      refine K_getc 12 hX (mc_0 hw) cls_X12 (k := 20) (by decide) uw_6_67 rfl dX12_factHere_38 ?_
      refine J_iload_n (q := 2) hX dX12_factHere_41 rfl rfl ?_
      refine K_iald hX (mc_12 hw) dX12_factHere_42 h (fun h => ?_)
      refine J_sub [0, 1, 2] rfl ?_
      exact tM_factHere_43 hX hw hg hR hr hk4 v1 v2 (σ.1 12 v2.toNatClampNeg) σ h
    · refine J_aload_n (q := 0) hX dX12_factHere_28 rfl rfl ?_
      refine K_getc 13 hX (mc_0 hw) cls_X12 (k := 21) (by decide) uw_6_68 rfl dX12_factHere_29 ?_
      refine J_iload_n (q := 2) hX dX12_factHere_32 rfl rfl ?_
      refine K_iald hX (mc_13 hw) dX12_factHere_33 h (fun h => ?_)
      refine J_goto (tgt := 43) hX dX12_factHere_34 rfl ?_
      refine J_sub [0, 1, 2] rfl ?_
      exact tM_factHere_43 hX hw hg hR hr hk4 v1 v2 (σ.1 13 v2.toNatClampNeg) σ h

def rM_factHere_4 (k4 : Int32 → Int32 → St → Option (Int32 × St)) (v1 : Int32) (v2 : Int32) (σ : St) : Option (Int32 × St) :=
  brc ((σ.1 0 19) = 0) (rM_factHere_17 k4 v1 v2 (5 : Int32) v2 σ) (rM_factHere_17 k4 v1 v2 (2 : Int32) v2 σ)
set_option maxRecDepth 100000 in
theorem tM_factHere_4b {X : CX} (hX : gd X cX12_factHere 3 RX12 (some .int)) (hw : (xw X).1 = mLy) (hg : nA X) (hR : xR X = rmOf 1 21 0 0) {r : Int32} {τ : St} (hr : xr X = (some (.int r), τ)) {k4 : Int32 → Int32 → St → Option (Int32 × St)} (hk4 : (∀ (v1 : Int32) (v2 : Int32) (σ : St), k4 v1 v2 σ = some (r, τ) → Jd X 3 4 [(0, .ref (wad (xw X) 0)), (1, .int v1), (2, .int v2)] [] σ)) (v1 : Int32) (v2 : Int32) (σ : St) (h : rM_factHere_4 k4 v1 v2 σ = some (r, τ)) : Jd X 3 4 [(0, .ref (wad (xw X) 0)), (1, .int v1), (2, .int v2)] [] σ := by
  unfold rM_factHere_4 at h
  refine J_iload_n (q := 2) hX dX12_factHere_4 rfl rfl ?_
  refine J_aload_n (q := 0) hX dX12_factHere_5 rfl rfl ?_
  refine K_geti hX (mc_0 hw) cls_X12 (k := 19) (by decide) uw_6_66 rfl dX12_factHere_6 ?_
  refine K_if_eq (tgt := 16) hX dX12_factHere_9 rfl h (fun h => ?_) (fun h => ?_)
  · refine J_iconst (v := (5 : Int32)) hX dX12_factHere_16 (by decide) ?_
    refine J_sub [0, 1, 2] rfl ?_
    exact tM_factHere_17 hX hw hg hR hr hk4 v1 v2 (5 : Int32) v2 σ h
  · refine J_iconst (v := (2 : Int32)) hX dX12_factHere_12 (by decide) ?_
    refine J_goto (tgt := 17) hX dX12_factHere_13 rfl ?_
    refine J_sub [0, 1, 2] rfl ?_
    exact tM_factHere_17 hX hw hg hR hr hk4 v1 v2 (2 : Int32) v2 σ h
def rM_factHere_4L : ((Int32 × Int32 × St) → Option (Int32 × St)) → (Int32 × Int32 × St) → Option (Int32 × St) := fun k a => rM_factHere_4 (fun v1 v2 σ => k (v1, v2, σ)) a.1 a.2.1 a.2.2
theorem tM_factHere_4 {X : CX} (hX : gd X cX12_factHere 3 RX12 (some .int)) (hw : (xw X).1 = mLy) (hg : nA X) (hR : xR X = rmOf 1 21 0 0) {r : Int32} {τ : St} (hr : xr X = (some (.int r), τ)) (n : Nat) (v1 : Int32) (v2 : Int32) (σ : St) (h : lp (rM_factHere_4L) n (v1, v2, σ) = some (r, τ)) : Jd X 3 4 [(0, .ref (wad (xw X) 0)), (1, .int v1), (2, .int v2)] [] σ :=
  lp_ind (F := rM_factHere_4L) (P := fun a => Jd X 3 4 [(0, .ref (wad (xw X) 0)), (1, .int a.1), (2, .int a.2.1)] [] a.2.2) (fun k a hk h => tM_factHere_4b hX hw hg hR hr (fun v1 v2 σ h => hk (v1, v2, σ) h) a.1 a.2.1 a.2.2 h) n (v1, v2, σ) h

def rM_factHere (σ : St) : Option (Int32 × St) :=
  nm (-1 : Int32) fun v1_1 => nm (0 : Int32) fun v2_2 => lp (rM_factHere_4L) fu (v1_1, v2_2, σ)
set_option maxRecDepth 100000 in
theorem tM_factHere {X : CX} (hX : gd X cX12_factHere 3 RX12 (some .int)) (hw : (xw X).1 = mLy) (hg : nA X) (hR : xR X = rmOf 1 21 0 0) {r : Int32} {τ : St} (hr : xr X = (some (.int r), τ)) (σ : St) (h : rM_factHere σ = some (r, τ)) : Jd X 3 0 [(0, .ref (wad (xw X) 0))] [] σ := by
  unfold rM_factHere at h
  refine J_iconst (v := (-1 : Int32)) hX dX12_factHere_0 (by decide) ?_
  refine K_istore_n (fun v1_1 => [(1, .int v1_1), (0, .ref (wad (xw X) 0))]) hX dX12_factHere_1 rfl (by decide) (fun _ => rfl) h (fun v1_1 h => ?_)
  refine J_iconst (v := (0 : Int32)) hX dX12_factHere_2 (by decide) ?_
  refine K_istore_n (fun v2_2 => [(2, .int v2_2), (1, .int v1_1), (0, .ref (wad (xw X) 0))]) hX dX12_factHere_3 rfl (by decide) (fun _ => rfl) h (fun v2_2 h => ?_)
  refine J_sub [2, 1, 0] rfl ?_
  exact tM_factHere_4 hX hw hg hR hr fu v1_1 v2_2 σ h
theorem ctM_factHere {w : WT} (hw : w.1 = mLy) {σ : St} {r : Int32} {τ : St} (h : rM_factHere σ = some (r, τ)) : Ct yX12_factHere cX12_factHere 3 (some .int) 1 21 w [.ref (wad w 0)] σ (some (.int r)) τ 0 0 :=
  Ct_intro (fun _ => (0, 0)) (by decide) rfl ⟨rfl, Nat.le_refl _⟩ (Nat.le_of_ble_eq_true rfl) (fun X hX hR hwX hg hr => by subst hwX; exact tM_factHere hX hw hg hR hr  σ h)

def rM_worthAt_134 (k4 : Int32 → Int32 → St → Option (Int32 × St)) (v2 : Int32) (v3 : Int32) (σ : St) : Option (Int32 × St) :=
  nm (v3 + Int32.ofInt 1) fun v3_6 => k4 v2 v3_6 σ
set_option maxRecDepth 100000 in
theorem tM_worthAt_134 {X : CX} (hX : gd X cX12_worthAt 5 RX12 (some .int)) (hw : (xw X).1 = mLy) (hg : nA X) (hR : xR X = rmOf 1 22 0 0) {r : Int32} {τ : St} (hr : xr X = (some (.int r), τ)) {k4 : Int32 → Int32 → St → Option (Int32 × St)} (hk4 : (∀ (v2 : Int32) (v3 : Int32) (σ : St), k4 v2 v3 σ = some (r, τ) → Jd X 5 4 [(0, .ref (wad (xw X) 0)), (2, .int v2), (3, .int v3)] [] σ)) (v2 : Int32) (v3 : Int32) (σ : St) (h : rM_worthAt_134 k4 v2 v3 σ = some (r, τ)) : Jd X 5 134 [(0, .ref (wad (xw X) 0)), (2, .int v2), (3, .int v3)] [] σ := by
  unfold rM_worthAt_134 at h
  refine K_iinc (q := 2) (fun v3_6 => [(3, .int v3_6), (0, .ref (wad (xw X) 0)), (2, .int v2)]) hX dX12_worthAt_134 rfl (by decide) (fun _ => rfl) h (fun v3_6 h => ?_)
  refine J_goto (tgt := 4) hX dX12_worthAt_137 rfl ?_
  refine J_sub [1, 2, 0] rfl ?_
  exact hk4 v2 v3_6 σ h

def rM_worthAt_64 (k4 : Int32 → Int32 → St → Option (Int32 × St)) (v2 : Int32) (v3 : Int32) (s0 : Int32) (s1 : Int32) (σ : St) : Option (Int32 × St) :=
  chk (ib s1 1100) (nm (setI σ 15 s1.toNatClampNeg s0) fun σ_4 => nm (v2 + Int32.ofInt 1) fun v2_5 => rM_worthAt_134 k4 v2_5 v3 σ_4)
set_option maxRecDepth 100000 in
theorem tM_worthAt_64 {X : CX} (hX : gd X cX12_worthAt 5 RX12 (some .int)) (hw : (xw X).1 = mLy) (hg : nA X) (hR : xR X = rmOf 1 22 0 0) {r : Int32} {τ : St} (hr : xr X = (some (.int r), τ)) {k4 : Int32 → Int32 → St → Option (Int32 × St)} (hk4 : (∀ (v2 : Int32) (v3 : Int32) (σ : St), k4 v2 v3 σ = some (r, τ) → Jd X 5 4 [(0, .ref (wad (xw X) 0)), (2, .int v2), (3, .int v3)] [] σ)) (v2 : Int32) (v3 : Int32) (s0 : Int32) (s1 : Int32) (σ : St) (h : rM_worthAt_64 k4 v2 v3 s0 s1 σ = some (r, τ)) : Jd X 5 64 [(0, .ref (wad (xw X) 0)), (2, .int v2), (3, .int v3)] [.int s0, .int s1, .ref (wad (xw X) 15)] σ := by
  unfold rM_worthAt_64 at h
  refine K_iast hX (mc_15 hw) dX12_worthAt_64 h (fun σ_4 h => ?_)
  refine K_iinc (q := 1) (fun v2_5 => [(2, .int v2_5), (0, .ref (wad (xw X) 0)), (3, .int v3)]) hX dX12_worthAt_65 rfl (by decide) (fun _ => rfl) h (fun v2_5 h => ?_)
  refine J_goto (tgt := 134) hX dX12_worthAt_68 rfl ?_
  refine J_sub [1, 0, 2] rfl ?_
  exact tM_worthAt_134 hX hw hg hR hr hk4 v2_5 v3 σ_4 h

def rM_worthAt_33 (k4 : Int32 → Int32 → St → Option (Int32 × St)) (v2 : Int32) (v3 : Int32) (v4 : Int32) (σ : St) : Option (Int32 × St) :=
  brc (¬ v4 = (1 : Int32)) (chk (ib v3 2200) (chk (ib (σ.1 9 v3.toNatClampNeg) 5) (rM_worthAt_64 k4 v2 v3 (σ.1 14 (σ.1 9 v3.toNatClampNeg).toNatClampNeg) v2 σ))) (chk (ib v3 2200) (rM_worthAt_64 k4 v2 v3 (σ.1 9 v3.toNatClampNeg) v2 σ))
set_option maxRecDepth 100000 in
theorem tM_worthAt_33 {X : CX} (hX : gd X cX12_worthAt 5 RX12 (some .int)) (hw : (xw X).1 = mLy) (hg : nA X) (hR : xR X = rmOf 1 22 0 0) {r : Int32} {τ : St} (hr : xr X = (some (.int r), τ)) {k4 : Int32 → Int32 → St → Option (Int32 × St)} (hk4 : (∀ (v2 : Int32) (v3 : Int32) (σ : St), k4 v2 v3 σ = some (r, τ) → Jd X 5 4 [(0, .ref (wad (xw X) 0)), (2, .int v2), (3, .int v3)] [] σ)) (v2 : Int32) (v3 : Int32) (v4 : Int32) (σ : St) (h : rM_worthAt_33 k4 v2 v3 v4 σ = some (r, τ)) : Jd X 5 33 [(0, .ref (wad (xw X) 0)), (2, .int v2), (3, .int v3), (4, .int v4)] [] σ := by
  unfold rM_worthAt_33 at h
  refine J_aload_n (q := 0) hX dX12_worthAt_33 rfl rfl ?_
  refine K_getc 15 hX (mc_0 hw) cls_X12 (k := 23) (by decide) uw_6_70 rfl dX12_worthAt_34 ?_
  refine J_iload_n (q := 1) hX dX12_worthAt_37 rfl rfl ?_
  refine J_iload (q := 3) hX dX12_worthAt_38 rfl ?_
  refine J_iconst (v := (1 : Int32)) hX dX12_worthAt_40 (by decide) ?_
  refine K_icmp_ne (tgt := 53) hX dX12_worthAt_41 rfl h (fun h => ?_) (fun h => ?_)
  · refine J_aload_n (q := 0) hX dX12_worthAt_53 rfl rfl ?_
    refine K_getc 14 hX (mc_0 hw) cls_X12 (k := 22) (by decide) uw_6_69 rfl dX12_worthAt_54 ?_
    refine J_aload_n (q := 0) hX dX12_worthAt_57 rfl rfl ?_
    refine K_getc 9 hX (mc_0 hw) cls_X12 (k := 13) (by decide) uw_6_60 rfl dX12_worthAt_58 ?_
    refine J_iload_n (q := 2) hX dX12_worthAt_61 rfl rfl ?_
    refine K_iald hX (mc_9 hw) dX12_worthAt_62 h (fun h => ?_)
    refine K_iald hX (mc_14 hw) dX12_worthAt_63 h (fun h => ?_)
    refine J_sub [0, 1, 2] rfl ?_
    exact tM_worthAt_64 hX hw hg hR hr hk4 v2 v3 (σ.1 14 (σ.1 9 v3.toNatClampNeg).toNatClampNeg) v2 σ h
  · refine J_aload_n (q := 0) hX dX12_worthAt_44 rfl rfl ?_
    refine K_getc 9 hX (mc_0 hw) cls_X12 (k := 13) (by decide) uw_6_60 rfl dX12_worthAt_45 ?_
    refine J_iload_n (q := 2) hX dX12_worthAt_48 rfl rfl ?_
    refine K_iald hX (mc_9 hw) dX12_worthAt_49 h (fun h => ?_)
    refine J_goto (tgt := 64) hX dX12_worthAt_50 rfl ?_
    refine J_sub [0, 1, 2] rfl ?_
    exact tM_worthAt_64 hX hw hg hR hr hk4 v2 v3 (σ.1 9 v3.toNatClampNeg) v2 σ h

def rM_worthAt_100 (k4 : Int32 → Int32 → St → Option (Int32 × St)) (v2 : Int32) (v3 : Int32) (s0 : Int32) (s1 : Int32) (σ : St) : Option (Int32 × St) :=
  chk (ib s1 1100) (nm (setI σ 15 s1.toNatClampNeg s0) fun σ_12 => rM_worthAt_134 k4 v2 v3 σ_12)
set_option maxRecDepth 100000 in
theorem tM_worthAt_100 {X : CX} (hX : gd X cX12_worthAt 5 RX12 (some .int)) (hw : (xw X).1 = mLy) (hg : nA X) (hR : xR X = rmOf 1 22 0 0) {r : Int32} {τ : St} (hr : xr X = (some (.int r), τ)) {k4 : Int32 → Int32 → St → Option (Int32 × St)} (hk4 : (∀ (v2 : Int32) (v3 : Int32) (σ : St), k4 v2 v3 σ = some (r, τ) → Jd X 5 4 [(0, .ref (wad (xw X) 0)), (2, .int v2), (3, .int v3)] [] σ)) (v2 : Int32) (v3 : Int32) (s0 : Int32) (s1 : Int32) (σ : St) (h : rM_worthAt_100 k4 v2 v3 s0 s1 σ = some (r, τ)) : Jd X 5 100 [(0, .ref (wad (xw X) 0)), (2, .int v2), (3, .int v3)] [.int s0, .int s1, .ref (wad (xw X) 15)] σ := by
  unfold rM_worthAt_100 at h
  refine K_iast hX (mc_15 hw) dX12_worthAt_100 h (fun σ_12 h => ?_)
  refine J_goto (tgt := 134) hX dX12_worthAt_101 rfl ?_
  refine J_sub [0, 1, 2] rfl ?_
  exact tM_worthAt_134 hX hw hg hR hr hk4 v2 v3 σ_12 h

def rM_worthAt_4 (k4 : Int32 → Int32 → St → Option (Int32 × St)) (v2 : Int32) (v3 : Int32) (σ : St) : Option (Int32 × St) :=
  chk (ib v3 2200) (brc ((σ.1 8 v3.toNatClampNeg) = 0) (chk (ib (0 : Int32) 1100) (some (σ.1 15 (0 : Int32).toNatClampNeg, σ))) (chk (ib v3 2200) (nm (σ.1 8 v3.toNatClampNeg) fun v4_3 => brc (v4_3 = (1 : Int32)) (rM_worthAt_33 k4 v2 v3 v4_3 σ) (brc (¬ v4_3 = (2 : Int32)) (brc (¬ v4_3 = (3 : Int32)) (nm (v2 + Int32.ofInt (-1)) fun v2_7 => chk (ib (v2_7 - (1 : Int32)) 1100) (chk (ib v2_7 1100) (bnd2 (rM_both v4_3 (σ.1 15 (v2_7 - (1 : Int32)).toNatClampNeg) (σ.1 15 v2_7.toNatClampNeg) σ) fun r_10 σ_8 => chk (ib (v2_7 - (1 : Int32)) 1100) (nm (setI σ_8 15 (v2_7 - (1 : Int32)).toNatClampNeg r_10) fun σ_11 => rM_worthAt_134 k4 v2_7 v3 σ_11)))) (chk (ib (v2 - (1 : Int32)) 1100) (brc (¬ (σ.1 15 (v2 - (1 : Int32)).toNatClampNeg) = 0) (rM_worthAt_100 k4 v2 v3 (0 : Int32) (v2 - (1 : Int32)) σ) (rM_worthAt_100 k4 v2 v3 (1 : Int32) (v2 - (1 : Int32)) σ)))) (rM_worthAt_33 k4 v2 v3 v4_3 σ)))))
set_option maxRecDepth 100000 in
theorem tM_worthAt_4b {X : CX} (hX : gd X cX12_worthAt 5 RX12 (some .int)) (hw : (xw X).1 = mLy) (hg : nA X) (hR : xR X = rmOf 1 22 0 0) {r : Int32} {τ : St} (hr : xr X = (some (.int r), τ)) {k4 : Int32 → Int32 → St → Option (Int32 × St)} (hk4 : (∀ (v2 : Int32) (v3 : Int32) (σ : St), k4 v2 v3 σ = some (r, τ) → Jd X 5 4 [(0, .ref (wad (xw X) 0)), (2, .int v2), (3, .int v3)] [] σ)) (v2 : Int32) (v3 : Int32) (σ : St) (h : rM_worthAt_4 k4 v2 v3 σ = some (r, τ)) : Jd X 5 4 [(0, .ref (wad (xw X) 0)), (2, .int v2), (3, .int v3)] [] σ := by
  unfold rM_worthAt_4 at h
  refine J_aload_n (q := 0) hX dX12_worthAt_4 rfl rfl ?_
  refine K_getc 8 hX (mc_0 hw) cls_X12 (k := 12) (by decide) uw_6_59 rfl dX12_worthAt_5 ?_
  refine J_iload_n (q := 2) hX dX12_worthAt_8 rfl rfl ?_
  refine K_iald hX (mc_8 hw) dX12_worthAt_9 h (fun h => ?_)
  refine K_if_eq (tgt := 140) hX dX12_worthAt_10 rfl h (fun h => ?_) (fun h => ?_)
  · refine J_aload_n (q := 0) hX dX12_worthAt_140 rfl rfl ?_
    refine K_getc 15 hX (mc_0 hw) cls_X12 (k := 23) (by decide) uw_6_70 rfl dX12_worthAt_141 ?_
    refine J_iconst (v := (0 : Int32)) hX dX12_worthAt_144 (by decide) ?_
    refine K_iald hX (mc_15 hw) dX12_worthAt_145 h (fun h => ?_)
    exact K_iret hX hr dX12_worthAt_146 h
  · refine J_aload_n (q := 0) hX dX12_worthAt_13 rfl rfl ?_
    refine K_getc 8 hX (mc_0 hw) cls_X12 (k := 12) (by decide) uw_6_59 rfl dX12_worthAt_14 ?_
    refine J_iload_n (q := 2) hX dX12_worthAt_17 rfl rfl ?_
    refine K_iald hX (mc_8 hw) dX12_worthAt_18 h (fun h => ?_)
    refine K_istore (fun v4_3 => [(4, .int v4_3), (0, .ref (wad (xw X) 0)), (2, .int v2), (3, .int v3)]) hX dX12_worthAt_19 (by decide) (fun _ => rfl) h (fun v4_3 h => ?_)
    refine J_iload (q := 0) hX dX12_worthAt_21 rfl ?_
    refine J_iconst (v := (1 : Int32)) hX dX12_worthAt_23 (by decide) ?_
    refine K_icmp_eq (tgt := 33) hX dX12_worthAt_24 rfl h (fun h => ?_) (fun h => ?_)
    · refine J_sub [1, 2, 3, 0] rfl ?_
      exact tM_worthAt_33 hX hw hg hR hr hk4 v2 v3 v4_3 σ h
    · refine J_iload (q := 0) hX dX12_worthAt_27 rfl ?_
      refine J_iconst (v := (2 : Int32)) hX dX12_worthAt_29 (by decide) ?_
      refine K_icmp_ne (tgt := 71) hX dX12_worthAt_30 rfl h (fun h => ?_) (fun h => ?_)
      · refine J_iload (q := 0) hX dX12_worthAt_71 rfl ?_
        refine J_iconst (v := (3 : Int32)) hX dX12_worthAt_73 (by decide) ?_
        refine K_icmp_ne (tgt := 104) hX dX12_worthAt_74 rfl h (fun h => ?_) (fun h => ?_)
        · refine K_iinc (q := 2) (fun v2_7 => [(2, .int v2_7), (4, .int v4_3), (0, .ref (wad (xw X) 0)), (3, .int v3)]) hX dX12_worthAt_104 rfl (by decide) (fun _ => rfl) h (fun v2_7 h => ?_)
          refine J_aload_n (q := 2) hX dX12_worthAt_107 rfl rfl ?_
          refine K_getc 15 hX (mc_0 hw) cls_X12 (k := 23) (by decide) uw_6_70 rfl dX12_worthAt_108 ?_
          refine J_iload_n (q := 0) hX dX12_worthAt_111 rfl rfl ?_
          refine J_iconst (v := (1 : Int32)) hX dX12_worthAt_112 (by decide) ?_
          refine J_isub hX dX12_worthAt_113 ?_
          refine J_iload (q := 1) hX dX12_worthAt_114 rfl ?_
          refine J_aload_n (q := 2) hX dX12_worthAt_116 rfl rfl ?_
          refine K_getc 15 hX (mc_0 hw) cls_X12 (k := 23) (by decide) uw_6_70 rfl dX12_worthAt_117 ?_
          refine J_iload_n (q := 0) hX dX12_worthAt_120 rfl rfl ?_
          refine J_iconst (v := (1 : Int32)) hX dX12_worthAt_121 (by decide) ?_
          refine J_isub hX dX12_worthAt_122 ?_
          refine K_iald hX (mc_15 hw) dX12_worthAt_123 h (fun h => ?_)
          refine J_aload_n (q := 2) hX dX12_worthAt_124 rfl rfl ?_
          refine K_getc 15 hX (mc_0 hw) cls_X12 (k := 23) (by decide) uw_6_70 rfl dX12_worthAt_125 ?_
          refine J_iload_n (q := 0) hX dX12_worthAt_128 rfl rfl ?_
          refine K_iald hX (mc_15 hw) dX12_worthAt_129 h (fun h => ?_)
          obtain ⟨r_10, σ_8, hc_9, h⟩ := bnd2_some h
          refine K_callS [.int v4_3, .int (σ.1 15 (v2_7 - (1 : Int32)).toNatClampNeg), .int (σ.1 15 v2_7.toNatClampNeg)] hX hg hR (ctM_both hw hc_9) lk_X12_302_X12_both md_X12_both ⟨by decide, by decide⟩ rfl rfl (Nat.le_of_ble_eq_true rfl) dX12_worthAt_130 ?_
          refine K_iast hX (mc_15 hw) dX12_worthAt_133 h (fun σ_11 h => ?_)
          refine J_sub [2, 0, 3] rfl ?_
          exact tM_worthAt_134 hX hw hg hR hr hk4 v2_7 v3 σ_11 h
        · refine J_aload_n (q := 1) hX dX12_worthAt_77 rfl rfl ?_
          refine K_getc 15 hX (mc_0 hw) cls_X12 (k := 23) (by decide) uw_6_70 rfl dX12_worthAt_78 ?_
          refine J_iload_n (q := 2) hX dX12_worthAt_81 rfl rfl ?_
          refine J_iconst (v := (1 : Int32)) hX dX12_worthAt_82 (by decide) ?_
          refine J_isub hX dX12_worthAt_83 ?_
          refine J_aload_n (q := 1) hX dX12_worthAt_84 rfl rfl ?_
          refine K_getc 15 hX (mc_0 hw) cls_X12 (k := 23) (by decide) uw_6_70 rfl dX12_worthAt_85 ?_
          refine J_iload_n (q := 2) hX dX12_worthAt_88 rfl rfl ?_
          refine J_iconst (v := (1 : Int32)) hX dX12_worthAt_89 (by decide) ?_
          refine J_isub hX dX12_worthAt_90 ?_
          refine K_iald hX (mc_15 hw) dX12_worthAt_91 h (fun h => ?_)
          refine K_if_ne (tgt := 99) hX dX12_worthAt_92 rfl h (fun h => ?_) (fun h => ?_)
          · refine J_iconst (v := (0 : Int32)) hX dX12_worthAt_99 (by decide) ?_
            refine J_sub [1, 2, 3] rfl ?_
            exact tM_worthAt_100 hX hw hg hR hr hk4 v2 v3 (0 : Int32) (v2 - (1 : Int32)) σ h
          · refine J_iconst (v := (1 : Int32)) hX dX12_worthAt_95 (by decide) ?_
            refine J_goto (tgt := 100) hX dX12_worthAt_96 rfl ?_
            refine J_sub [1, 2, 3] rfl ?_
            exact tM_worthAt_100 hX hw hg hR hr hk4 v2 v3 (1 : Int32) (v2 - (1 : Int32)) σ h
      · refine J_sub [1, 2, 3, 0] rfl ?_
        exact tM_worthAt_33 hX hw hg hR hr hk4 v2 v3 v4_3 σ h
def rM_worthAt_4L : ((Int32 × Int32 × St) → Option (Int32 × St)) → (Int32 × Int32 × St) → Option (Int32 × St) := fun k a => rM_worthAt_4 (fun v2 v3 σ => k (v2, v3, σ)) a.1 a.2.1 a.2.2
theorem tM_worthAt_4 {X : CX} (hX : gd X cX12_worthAt 5 RX12 (some .int)) (hw : (xw X).1 = mLy) (hg : nA X) (hR : xR X = rmOf 1 22 0 0) {r : Int32} {τ : St} (hr : xr X = (some (.int r), τ)) (n : Nat) (v2 : Int32) (v3 : Int32) (σ : St) (h : lp (rM_worthAt_4L) n (v2, v3, σ) = some (r, τ)) : Jd X 5 4 [(0, .ref (wad (xw X) 0)), (2, .int v2), (3, .int v3)] [] σ :=
  lp_ind (F := rM_worthAt_4L) (P := fun a => Jd X 5 4 [(0, .ref (wad (xw X) 0)), (2, .int a.1), (3, .int a.2.1)] [] a.2.2) (fun k a hk h => tM_worthAt_4b hX hw hg hR hr (fun v2 v3 σ h => hk (v2, v3, σ) h) a.1 a.2.1 a.2.2 h) n (v2, v3, σ) h

def rM_worthAt (v1 : Int32) (σ : St) : Option (Int32 × St) :=
  nm (0 : Int32) fun v2_1 => nm v1 fun v3_2 => lp (rM_worthAt_4L) fu (v2_1, v3_2, σ)
set_option maxRecDepth 100000 in
theorem tM_worthAt {X : CX} (hX : gd X cX12_worthAt 5 RX12 (some .int)) (hw : (xw X).1 = mLy) (hg : nA X) (hR : xR X = rmOf 1 22 0 0) {r : Int32} {τ : St} (hr : xr X = (some (.int r), τ)) (v1 : Int32) (σ : St) (h : rM_worthAt v1 σ = some (r, τ)) : Jd X 5 0 [(0, .ref (wad (xw X) 0)), (1, .int v1)] [] σ := by
  unfold rM_worthAt at h
  refine J_iconst (v := (0 : Int32)) hX dX12_worthAt_0 (by decide) ?_
  refine K_istore_n (fun v2_1 => [(2, .int v2_1), (0, .ref (wad (xw X) 0)), (1, .int v1)]) hX dX12_worthAt_1 rfl (by decide) (fun _ => rfl) h (fun v2_1 h => ?_)
  refine J_iload_n (q := 2) hX dX12_worthAt_2 rfl rfl ?_
  refine K_istore_n (fun v3_2 => [(3, .int v3_2), (2, .int v2_1), (0, .ref (wad (xw X) 0)), (1, .int v1)]) hX dX12_worthAt_3 rfl (by decide) (fun _ => rfl) h (fun v3_2 h => ?_)
  refine J_sub [2, 1, 0] rfl ?_
  exact tM_worthAt_4 hX hw hg hR hr fu v2_1 v3_2 σ h
theorem ctM_worthAt {w : WT} (hw : w.1 = mLy) {v1 : Int32} {σ : St} {r : Int32} {τ : St} (h : rM_worthAt v1 σ = some (r, τ)) : Ct yX12_worthAt cX12_worthAt 5 (some .int) 1 22 w [.ref (wad w 0), .int v1] σ (some (.int r)) τ 0 0 :=
  Ct_intro (fun _ => (0, 0)) (by decide) rfl ⟨rfl, Nat.le_refl _⟩ (Nat.le_of_ble_eq_true rfl) (fun X hX hR hwX hg hr => by subst hwX; exact tM_worthAt hX hw hg hR hr v1 σ h)

def rM_keeps_47 (σ : St) : Option (St) :=
  bnd1 (rM_copies (0 : Int32) ((5 : Int32) + (σ.1 0 25)) (37 : Int32) σ) fun σ_1 => nm (setI σ_1 0 25 ((σ_1.1 0 25) + (1 : Int32))) fun σ_3 => some σ_3
set_option maxRecDepth 100000 in
theorem tM_keeps_47 {X : CX} (hX : gd X cX12_keeps 2 RX12 none) (hw : (xw X).1 = mLy) (hg : nA X) (hR : xR X = rmOf 1 24 0 0) {τ : St} (hr : xr X = (none, τ)) (σ : St) (h : rM_keeps_47 σ = some τ) : Jd X 2 47 [(0, .ref (wad (xw X) 0))] [] σ := by
  unfold rM_keeps_47 at h
  refine J_aload_n (q := 0) hX dX12_keeps_47 rfl rfl ?_
  refine J_iconst (v := (0 : Int32)) hX dX12_keeps_48 (by decide) ?_
  refine J_iconst (v := (5 : Int32)) hX dX12_keeps_49 (by decide) ?_
  refine J_aload_n (q := 0) hX dX12_keeps_50 rfl rfl ?_
  refine K_geti hX (mc_0 hw) cls_X12 (k := 25) (by decide) uw_6_72 rfl dX12_keeps_51 ?_
  refine J_iadd hX dX12_keeps_54 ?_
  refine J_bipush (v := (37 : Int32)) hX dX12_keeps_55 (by decide) ?_
  obtain ⟨σ_1, hc_2, h⟩ := bnd1_some h
  refine K_callV [.int (0 : Int32), .int ((5 : Int32) + (σ.1 0 25)), .int (37 : Int32)] hX hg hR (ctM_copies hw hc_2) lk_X12_305_X12_copies md_X12_copies (mc_0 hw) cls_X12 ⟨by decide, by decide⟩ rfl rfl (Nat.le_of_ble_eq_true rfl) dX12_keeps_57 ?_
  refine J_aload_n (q := 0) hX dX12_keeps_60 rfl rfl ?_
  refine J_dup hX dX12_keeps_61 rfl ?_
  refine K_geti hX (mc_0 hw) cls_X12 (k := 25) (by decide) uw_6_72 rfl dX12_keeps_62 ?_
  refine J_iconst (v := (1 : Int32)) hX dX12_keeps_65 (by decide) ?_
  refine J_iadd hX dX12_keeps_66 ?_
  refine K_puti hX (mc_0 hw) cls_X12 (k := 25) (by decide) uw_6_72 rfl rfl rfl dX12_keeps_67 h (fun σ_3 h => ?_)
  exact K_vret hX hr dX12_keeps_70 h

def rM_keeps_11 (k11 : Int32 → St → Option (St)) (v1 : Int32) (σ : St) : Option (St) :=
  brc ((20 : Int32) ≤ v1) (nm (setI σ 0 25 ((σ.1 0 25) - (1 : Int32))) fun σ_5 => rM_keeps_47 σ_5) (bnd1 (rM_copies ((5 : Int32) + v1) (((5 : Int32) + v1) - (1 : Int32)) (37 : Int32) σ) fun σ_6 => nm (v1 + Int32.ofInt 1) fun v1_8 => k11 v1_8 σ_6)
set_option maxRecDepth 100000 in
theorem tM_keeps_11b {X : CX} (hX : gd X cX12_keeps 2 RX12 none) (hw : (xw X).1 = mLy) (hg : nA X) (hR : xR X = rmOf 1 24 0 0) {τ : St} (hr : xr X = (none, τ)) {k11 : Int32 → St → Option (St)} (hk11 : (∀ (v1 : Int32) (σ : St), k11 v1 σ = some τ → Jd X 2 11 [(0, .ref (wad (xw X) 0)), (1, .int v1)] [] σ)) (v1 : Int32) (σ : St) (h : rM_keeps_11 k11 v1 σ = some τ) : Jd X 2 11 [(0, .ref (wad (xw X) 0)), (1, .int v1)] [] σ := by
  unfold rM_keeps_11 at h
  refine J_iload_n (q := 1) hX dX12_keeps_11 rfl rfl ?_
  refine J_bipush (v := (20 : Int32)) hX dX12_keeps_12 (by decide) ?_
  refine K_icmp_ge (tgt := 37) hX dX12_keeps_14 rfl h (fun h => ?_) (fun h => ?_)
  · refine J_aload_n (q := 0) hX dX12_keeps_37 rfl rfl ?_
    refine J_dup hX dX12_keeps_38 rfl ?_
    refine K_geti hX (mc_0 hw) cls_X12 (k := 25) (by decide) uw_6_72 rfl dX12_keeps_39 ?_
    refine J_iconst (v := (1 : Int32)) hX dX12_keeps_42 (by decide) ?_
    refine J_isub hX dX12_keeps_43 ?_
    refine K_puti hX (mc_0 hw) cls_X12 (k := 25) (by decide) uw_6_72 rfl rfl rfl dX12_keeps_44 h (fun σ_5 h => ?_)
    refine J_sub [0] rfl ?_
    exact tM_keeps_47 hX hw hg hR hr σ_5 h
  · refine J_aload_n (q := 0) hX dX12_keeps_17 rfl rfl ?_
    refine J_iconst (v := (5 : Int32)) hX dX12_keeps_18 (by decide) ?_
    refine J_iload_n (q := 1) hX dX12_keeps_19 rfl rfl ?_
    refine J_iadd hX dX12_keeps_20 ?_
    refine J_iconst (v := (5 : Int32)) hX dX12_keeps_21 (by decide) ?_
    refine J_iload_n (q := 1) hX dX12_keeps_22 rfl rfl ?_
    refine J_iadd hX dX12_keeps_23 ?_
    refine J_iconst (v := (1 : Int32)) hX dX12_keeps_24 (by decide) ?_
    refine J_isub hX dX12_keeps_25 ?_
    refine J_bipush (v := (37 : Int32)) hX dX12_keeps_26 (by decide) ?_
    obtain ⟨σ_6, hc_7, h⟩ := bnd1_some h
    refine K_callV [.int ((5 : Int32) + v1), .int (((5 : Int32) + v1) - (1 : Int32)), .int (37 : Int32)] hX hg hR (ctM_copies hw hc_7) lk_X12_305_X12_copies md_X12_copies (mc_0 hw) cls_X12 ⟨by decide, by decide⟩ rfl rfl (Nat.le_of_ble_eq_true rfl) dX12_keeps_28 ?_
    refine K_iinc (q := 1) (fun v1_8 => [(1, .int v1_8), (0, .ref (wad (xw X) 0))]) hX dX12_keeps_31 rfl (by decide) (fun _ => rfl) h (fun v1_8 h => ?_)
    refine J_goto (tgt := 11) hX dX12_keeps_34 rfl ?_
    refine J_sub [1, 0] rfl ?_
    exact hk11 v1_8 σ_6 h
def rM_keeps_11L : ((Int32 × St) → Option (St)) → (Int32 × St) → Option (St) := fun k a => rM_keeps_11 (fun v1 σ => k (v1, σ)) a.1 a.2
theorem tM_keeps_11 {X : CX} (hX : gd X cX12_keeps 2 RX12 none) (hw : (xw X).1 = mLy) (hg : nA X) (hR : xR X = rmOf 1 24 0 0) {τ : St} (hr : xr X = (none, τ)) (n : Nat) (v1 : Int32) (σ : St) (h : lp (rM_keeps_11L) n (v1, σ) = some τ) : Jd X 2 11 [(0, .ref (wad (xw X) 0)), (1, .int v1)] [] σ :=
  lp_ind (F := rM_keeps_11L) (P := fun a => Jd X 2 11 [(0, .ref (wad (xw X) 0)), (1, .int a.1)] [] a.2) (fun k a hk h => tM_keeps_11b hX hw hg hR hr (fun v1 σ h => hk (v1, σ) h) a.1 a.2 h) n (v1, σ) h

def rM_keeps (σ : St) : Option (St) :=
  brc (¬ (σ.1 0 25) = (20 : Int32)) (rM_keeps_47 σ) (nm (1 : Int32) fun v1_4 => lp (rM_keeps_11L) fu (v1_4, σ))
set_option maxRecDepth 100000 in
theorem tM_keeps {X : CX} (hX : gd X cX12_keeps 2 RX12 none) (hw : (xw X).1 = mLy) (hg : nA X) (hR : xR X = rmOf 1 24 0 0) {τ : St} (hr : xr X = (none, τ)) (σ : St) (h : rM_keeps σ = some τ) : Jd X 2 0 [(0, .ref (wad (xw X) 0))] [] σ := by
  unfold rM_keeps at h
  refine J_aload_n (q := 0) hX dX12_keeps_0 rfl rfl ?_
  refine K_geti hX (mc_0 hw) cls_X12 (k := 25) (by decide) uw_6_72 rfl dX12_keeps_1 ?_
  refine J_bipush (v := (20 : Int32)) hX dX12_keeps_4 (by decide) ?_
  refine K_icmp_ne (tgt := 47) hX dX12_keeps_6 rfl h (fun h => ?_) (fun h => ?_)
  · refine J_sub [0] rfl ?_
    exact tM_keeps_47 hX hw hg hR hr σ h
  · refine J_iconst (v := (1 : Int32)) hX dX12_keeps_9 (by decide) ?_
    refine K_istore_n (fun v1_4 => [(1, .int v1_4), (0, .ref (wad (xw X) 0))]) hX dX12_keeps_10 rfl (by decide) (fun _ => rfl) h (fun v1_4 h => ?_)
    refine J_sub [1, 0] rfl ?_
    exact tM_keeps_11 hX hw hg hR hr fu v1_4 σ h
theorem ctM_keeps {w : WT} (hw : w.1 = mLy) {σ : St} {τ : St} (h : rM_keeps σ = some τ) : Ct yX12_keeps cX12_keeps 2 none 1 24 w [.ref (wad w 0)] σ none τ 0 0 :=
  Ct_intro (fun _ => (0, 0)) (by decide) rfl ⟨rfl, Nat.le_refl _⟩ (Nat.le_of_ble_eq_true rfl) (fun X hX hR hwX hg hr => by subst hwX; exact tM_keeps hX hw hg hR hr  σ h)

def rM_isStation_17 (s0 : Int32) (σ : St) : Option (Int32 × St) :=
  chk (decide (s0 = 0 ∨ s0 = 1)) (some (s0, σ))
set_option maxRecDepth 100000 in
theorem tM_isStation_17 {X : CX} (hX : gd X cX12_isStation 2 RX12 (some .boolean)) (hw : (xw X).1 = mLy) (hg : nA X) (hR : xR X = rmOf 1 20 0 0) {r : Int32} {τ : St} (hr : xr X = (some (.int r), τ)) (s0 : Int32) (σ : St) (h : rM_isStation_17 s0 σ = some (r, τ)) : Jd X 2 17 [] [.int s0] σ := by
  unfold rM_isStation_17 at h
  exact K_zret hX hr dX12_isStation_17 h

def rM_isStation_16 (σ : St) : Option (Int32 × St) :=
  rM_isStation_17 (0 : Int32) σ
set_option maxRecDepth 100000 in
theorem tM_isStation_16 {X : CX} (hX : gd X cX12_isStation 2 RX12 (some .boolean)) (hw : (xw X).1 = mLy) (hg : nA X) (hR : xR X = rmOf 1 20 0 0) {r : Int32} {τ : St} (hr : xr X = (some (.int r), τ)) (σ : St) (h : rM_isStation_16 σ = some (r, τ)) : Jd X 2 16 [] [] σ := by
  unfold rM_isStation_16 at h
  refine J_iconst (v := (0 : Int32)) hX dX12_isStation_16 (by decide) ?_
  refine J_sub [] rfl ?_
  exact tM_isStation_17 hX hw hg hR hr (0 : Int32) σ h

def rM_isStation (v1 : Int32) (σ : St) : Option (Int32 × St) :=
  brc (v1 < 0) (rM_isStation_16 σ) (bnd2 (rM_stations σ) fun r_3 σ_1 => brc (r_3 ≤ v1) (rM_isStation_16 σ_1) (rM_isStation_17 (1 : Int32) σ_1))
set_option maxRecDepth 100000 in
theorem tM_isStation {X : CX} (hX : gd X cX12_isStation 2 RX12 (some .boolean)) (hw : (xw X).1 = mLy) (hg : nA X) (hR : xR X = rmOf 1 20 0 0) {r : Int32} {τ : St} (hr : xr X = (some (.int r), τ)) (v1 : Int32) (σ : St) (h : rM_isStation v1 σ = some (r, τ)) : Jd X 2 0 [(0, .ref (wad (xw X) 0)), (1, .int v1)] [] σ := by
  unfold rM_isStation at h
  refine J_iload_n (q := 1) hX dX12_isStation_0 rfl rfl ?_
  refine K_if_lt (tgt := 16) hX dX12_isStation_1 rfl h (fun h => ?_) (fun h => ?_)
  · refine J_sub [] rfl ?_
    exact tM_isStation_16 hX hw hg hR hr σ h
  · refine J_iload_n (q := 1) hX dX12_isStation_4 rfl rfl ?_
    refine J_aload_n (q := 0) hX dX12_isStation_5 rfl rfl ?_
    obtain ⟨r_3, σ_1, hc_2, h⟩ := bnd2_some h
    refine K_callV [] hX hg hR (ctM_stations hw hc_2) lk_X12_309_X12_stations md_X12_stations (mc_0 hw) cls_X12 ⟨by decide, by decide⟩ rfl rfl (Nat.le_of_ble_eq_true rfl) dX12_isStation_6 ?_
    refine K_icmp_ge (tgt := 16) hX dX12_isStation_9 rfl h (fun h => ?_) (fun h => ?_)
    · refine J_sub [] rfl ?_
      exact tM_isStation_16 hX hw hg hR hr σ_1 h
    · refine J_iconst (v := (1 : Int32)) hX dX12_isStation_12 (by decide) ?_
      refine J_goto (tgt := 17) hX dX12_isStation_13 rfl ?_
      refine J_sub [] rfl ?_
      exact tM_isStation_17 hX hw hg hR hr (1 : Int32) σ_1 h
theorem ctM_isStation {w : WT} (hw : w.1 = mLy) {v1 : Int32} {σ : St} {r : Int32} {τ : St} (h : rM_isStation v1 σ = some (r, τ)) : Ct yX12_isStation cX12_isStation 2 (some .boolean) 1 20 w [.ref (wad w 0), .int v1] σ (some (.int r)) τ 0 0 :=
  Ct_intro (fun _ => (0, 0)) (by decide) rfl ⟨rfl, Nat.le_refl _⟩ (Nat.le_of_ble_eq_true rfl) (fun X hX hR hwX hg hr => by subst hwX; exact tM_isStation hX hw hg hR hr v1 σ h)

def rM_isCarrier_17 (s0 : Int32) (σ : St) : Option (Int32 × St) :=
  chk (decide (s0 = 0 ∨ s0 = 1)) (some (s0, σ))
set_option maxRecDepth 100000 in
theorem tM_isCarrier_17 {X : CX} (hX : gd X cX12_isCarrier 2 RX12 (some .boolean)) (hw : (xw X).1 = mLy) (hg : nA X) (hR : xR X = rmOf 1 20 0 0) {r : Int32} {τ : St} (hr : xr X = (some (.int r), τ)) (s0 : Int32) (σ : St) (h : rM_isCarrier_17 s0 σ = some (r, τ)) : Jd X 2 17 [] [.int s0] σ := by
  unfold rM_isCarrier_17 at h
  exact K_zret hX hr dX12_isCarrier_17 h

def rM_isCarrier_16 (σ : St) : Option (Int32 × St) :=
  rM_isCarrier_17 (0 : Int32) σ
set_option maxRecDepth 100000 in
theorem tM_isCarrier_16 {X : CX} (hX : gd X cX12_isCarrier 2 RX12 (some .boolean)) (hw : (xw X).1 = mLy) (hg : nA X) (hR : xR X = rmOf 1 20 0 0) {r : Int32} {τ : St} (hr : xr X = (some (.int r), τ)) (σ : St) (h : rM_isCarrier_16 σ = some (r, τ)) : Jd X 2 16 [] [] σ := by
  unfold rM_isCarrier_16 at h
  refine J_iconst (v := (0 : Int32)) hX dX12_isCarrier_16 (by decide) ?_
  refine J_sub [] rfl ?_
  exact tM_isCarrier_17 hX hw hg hR hr (0 : Int32) σ h

def rM_isCarrier (v1 : Int32) (σ : St) : Option (Int32 × St) :=
  brc (v1 < 0) (rM_isCarrier_16 σ) (bnd2 (rM_carriers σ) fun r_3 σ_1 => brc (r_3 ≤ v1) (rM_isCarrier_16 σ_1) (rM_isCarrier_17 (1 : Int32) σ_1))
set_option maxRecDepth 100000 in
theorem tM_isCarrier {X : CX} (hX : gd X cX12_isCarrier 2 RX12 (some .boolean)) (hw : (xw X).1 = mLy) (hg : nA X) (hR : xR X = rmOf 1 20 0 0) {r : Int32} {τ : St} (hr : xr X = (some (.int r), τ)) (v1 : Int32) (σ : St) (h : rM_isCarrier v1 σ = some (r, τ)) : Jd X 2 0 [(0, .ref (wad (xw X) 0)), (1, .int v1)] [] σ := by
  unfold rM_isCarrier at h
  refine J_iload_n (q := 1) hX dX12_isCarrier_0 rfl rfl ?_
  refine K_if_lt (tgt := 16) hX dX12_isCarrier_1 rfl h (fun h => ?_) (fun h => ?_)
  · refine J_sub [] rfl ?_
    exact tM_isCarrier_16 hX hw hg hR hr σ h
  · refine J_iload_n (q := 1) hX dX12_isCarrier_4 rfl rfl ?_
    refine J_aload_n (q := 0) hX dX12_isCarrier_5 rfl rfl ?_
    obtain ⟨r_3, σ_1, hc_2, h⟩ := bnd2_some h
    refine K_callV [] hX hg hR (ctM_carriers hw hc_2) lk_X12_312_X12_carriers md_X12_carriers (mc_0 hw) cls_X12 ⟨by decide, by decide⟩ rfl rfl (Nat.le_of_ble_eq_true rfl) dX12_isCarrier_6 ?_
    refine K_icmp_ge (tgt := 16) hX dX12_isCarrier_9 rfl h (fun h => ?_) (fun h => ?_)
    · refine J_sub [] rfl ?_
      exact tM_isCarrier_16 hX hw hg hR hr σ_1 h
    · refine J_iconst (v := (1 : Int32)) hX dX12_isCarrier_12 (by decide) ?_
      refine J_goto (tgt := 17) hX dX12_isCarrier_13 rfl ?_
      refine J_sub [] rfl ?_
      exact tM_isCarrier_17 hX hw hg hR hr (1 : Int32) σ_1 h
theorem ctM_isCarrier {w : WT} (hw : w.1 = mLy) {v1 : Int32} {σ : St} {r : Int32} {τ : St} (h : rM_isCarrier v1 σ = some (r, τ)) : Ct yX12_isCarrier cX12_isCarrier 2 (some .boolean) 1 20 w [.ref (wad w 0), .int v1] σ (some (.int r)) τ 0 0 :=
  Ct_intro (fun _ => (0, 0)) (by decide) rfl ⟨rfl, Nat.le_refl _⟩ (Nat.le_of_ble_eq_true rfl) (fun X hX hR hwX hg hr => by subst hwX; exact tM_isCarrier hX hw hg hR hr v1 σ h)

def rM_holds_27 (s0 : Int32) (σ : St) : Option (Int32 × St) :=
  some (s0, σ)
set_option maxRecDepth 100000 in
theorem tM_holds_27 {X : CX} (hX : gd X cX12_holds 2 RX12 (some .int)) (hw : (xw X).1 = mLy) (hg : nA X) (hR : xR X = rmOf 1 22 0 0) {r : Int32} {τ : St} (hr : xr X = (some (.int r), τ)) (s0 : Int32) (σ : St) (h : rM_holds_27 s0 σ = some (r, τ)) : Jd X 2 27 [] [.int s0] σ := by
  unfold rM_holds_27 at h
  exact K_iret hX hr dX12_holds_27 h

def rM_holds (v1 : Int32) (σ : St) : Option (Int32 × St) :=
  bnd2 (rM_carrierOf v1 (0 : Int32) σ) fun r_3 σ_1 => brc (¬ r_3 = (2 : Int32)) (bnd2 (rM_carrierOf v1 (1 : Int32) σ_1) fun r_6 σ_4 => rM_holds_27 r_6 σ_4) (bnd2 (rM_carrierOf v1 (1 : Int32) σ_1) fun r_9 σ_7 => rM_holds_27 ((2 : Int32) * r_9) σ_7)
set_option maxRecDepth 100000 in
theorem tM_holds {X : CX} (hX : gd X cX12_holds 2 RX12 (some .int)) (hw : (xw X).1 = mLy) (hg : nA X) (hR : xR X = rmOf 1 22 0 0) {r : Int32} {τ : St} (hr : xr X = (some (.int r), τ)) (v1 : Int32) (σ : St) (h : rM_holds v1 σ = some (r, τ)) : Jd X 2 0 [(0, .ref (wad (xw X) 0)), (1, .int v1)] [] σ := by
  unfold rM_holds at h
  refine J_aload_n (q := 0) hX dX12_holds_0 rfl rfl ?_
  refine J_iload_n (q := 1) hX dX12_holds_1 rfl rfl ?_
  refine J_iconst (v := (0 : Int32)) hX dX12_holds_2 (by decide) ?_
  obtain ⟨r_3, σ_1, hc_2, h⟩ := bnd2_some h
  refine K_callV [.int v1, .int (0 : Int32)] hX hg hR (ctM_carrierOf hw hc_2) lk_X12_315_X12_carrierOf md_X12_carrierOf (mc_0 hw) cls_X12 ⟨by decide, by decide⟩ rfl rfl (Nat.le_of_ble_eq_true rfl) dX12_holds_3 ?_
  refine J_iconst (v := (2 : Int32)) hX dX12_holds_6 (by decide) ?_
  refine K_icmp_ne (tgt := 21) hX dX12_holds_7 rfl h (fun h => ?_) (fun h => ?_)
  · refine J_aload_n (q := 0) hX dX12_holds_21 rfl rfl ?_
    refine J_iload_n (q := 1) hX dX12_holds_22 rfl rfl ?_
    refine J_iconst (v := (1 : Int32)) hX dX12_holds_23 (by decide) ?_
    obtain ⟨r_6, σ_4, hc_5, h⟩ := bnd2_some h
    refine K_callV [.int v1, .int (1 : Int32)] hX hg hR (ctM_carrierOf hw hc_5) lk_X12_315_X12_carrierOf md_X12_carrierOf (mc_0 hw) cls_X12 ⟨by decide, by decide⟩ rfl rfl (Nat.le_of_ble_eq_true rfl) dX12_holds_24 ?_
    refine J_sub [] rfl ?_
    exact tM_holds_27 hX hw hg hR hr r_6 σ_4 h
  · refine J_iconst (v := (2 : Int32)) hX dX12_holds_10 (by decide) ?_
    refine J_aload_n (q := 0) hX dX12_holds_11 rfl rfl ?_
    refine J_iload_n (q := 1) hX dX12_holds_12 rfl rfl ?_
    refine J_iconst (v := (1 : Int32)) hX dX12_holds_13 (by decide) ?_
    obtain ⟨r_9, σ_7, hc_8, h⟩ := bnd2_some h
    refine K_callV [.int v1, .int (1 : Int32)] hX hg hR (ctM_carrierOf hw hc_8) lk_X12_315_X12_carrierOf md_X12_carrierOf (mc_0 hw) cls_X12 ⟨by decide, by decide⟩ rfl rfl (Nat.le_of_ble_eq_true rfl) dX12_holds_14 ?_
    refine J_imul hX dX12_holds_17 ?_
    refine J_goto (tgt := 27) hX dX12_holds_18 rfl ?_
    refine J_sub [] rfl ?_
    exact tM_holds_27 hX hw hg hR hr ((2 : Int32) * r_9) σ_7 h
theorem ctM_holds {w : WT} (hw : w.1 = mLy) {v1 : Int32} {σ : St} {r : Int32} {τ : St} (h : rM_holds v1 σ = some (r, τ)) : Ct yX12_holds cX12_holds 2 (some .int) 1 22 w [.ref (wad w 0), .int v1] σ (some (.int r)) τ 0 0 :=
  Ct_intro (fun _ => (0, 0)) (by decide) rfl ⟨rfl, Nat.le_refl _⟩ (Nat.le_of_ble_eq_true rfl) (fun X hX hR hwX hg hr => by subst hwX; exact tM_holds hX hw hg hR hr v1 σ h)

def rM_goesWay_143 (s0 : Int32) (s1 : Int32) (σ : St) : Option (St) :=
  nm (setI σ 0 31 (s1 + s0)) fun σ_21 => some σ_21
set_option maxRecDepth 100000 in
theorem tM_goesWay_143 {X : CX} (hX : gd X cX12_goesWay 7 RX12 none) (hw : (xw X).1 = mLy) (hg : nA X) (hR : xR X = rmOf 1 23 0 0) {τ : St} (hr : xr X = (none, τ)) (s0 : Int32) (s1 : Int32) (σ : St) (h : rM_goesWay_143 s0 s1 σ = some τ) : Jd X 7 143 [] [.int s0, .int s1, .ref (wad (xw X) 0)] σ := by
  unfold rM_goesWay_143 at h
  refine J_iadd hX dX12_goesWay_143 ?_
  refine K_puti hX (mc_0 hw) cls_X12 (k := 31) (by decide) uw_6_78 rfl rfl rfl dX12_goesWay_144 h (fun σ_21 h => ?_)
  exact K_vret hX hr dX12_goesWay_147 h

def rM_goesWay_96 (v4 : Int32) (v5 : Int32) (s0 : Int32) (σ : St) : Option (St) :=
  nm s0 fun v6_18 => nm (setI σ 0 30 ((σ.1 0 30) - v6_18)) fun σ_19 => nm (setI σ_19 0 33 ((σ_19.1 0 33) + v6_18)) fun σ_20 => brc (¬ v5 = (2 : Int32)) (rM_goesWay_143 v4 (σ_20.1 0 31) σ_20) (chk (decide (¬ (2 : Int32) = 0)) (rM_goesWay_143 (v4 + (v4 / (2 : Int32))) (σ_20.1 0 31) σ_20))
set_option maxRecDepth 100000 in
theorem tM_goesWay_96 {X : CX} (hX : gd X cX12_goesWay 7 RX12 none) (hw : (xw X).1 = mLy) (hg : nA X) (hR : xR X = rmOf 1 23 0 0) {τ : St} (hr : xr X = (none, τ)) (v4 : Int32) (v5 : Int32) (s0 : Int32) (σ : St) (h : rM_goesWay_96 v4 v5 s0 σ = some τ) : Jd X 7 96 [(0, .ref (wad (xw X) 0)), (4, .int v4), (5, .int v5)] [.int s0] σ := by
  unfold rM_goesWay_96 at h
  refine K_istore (fun v6_18 => [(6, .int v6_18), (0, .ref (wad (xw X) 0)), (4, .int v4), (5, .int v5)]) hX dX12_goesWay_96 (by decide) (fun _ => rfl) h (fun v6_18 h => ?_)
  refine J_aload_n (q := 1) hX dX12_goesWay_98 rfl rfl ?_
  refine J_dup hX dX12_goesWay_99 rfl ?_
  refine K_geti hX (mc_0 hw) cls_X12 (k := 30) (by decide) uw_6_77 rfl dX12_goesWay_100 ?_
  refine J_iload (q := 0) hX dX12_goesWay_103 rfl ?_
  refine J_isub hX dX12_goesWay_105 ?_
  refine K_puti hX (mc_0 hw) cls_X12 (k := 30) (by decide) uw_6_77 rfl rfl rfl dX12_goesWay_106 h (fun σ_19 h => ?_)
  refine J_aload_n (q := 1) hX dX12_goesWay_109 rfl rfl ?_
  refine J_dup hX dX12_goesWay_110 rfl ?_
  refine K_geti hX (mc_0 hw) cls_X12 (k := 33) (by decide) uw_6_80 rfl dX12_goesWay_111 ?_
  refine J_iload (q := 0) hX dX12_goesWay_114 rfl ?_
  refine J_iadd hX dX12_goesWay_116 ?_
  refine K_puti hX (mc_0 hw) cls_X12 (k := 33) (by decide) uw_6_80 rfl rfl rfl dX12_goesWay_117 h (fun σ_20 h => ?_)
  refine J_aload_n (q := 1) hX dX12_goesWay_120 rfl rfl ?_
  refine J_dup hX dX12_goesWay_121 rfl ?_
  refine K_geti hX (mc_0 hw) cls_X12 (k := 31) (by decide) uw_6_78 rfl dX12_goesWay_122 ?_
  refine J_iload (q := 3) hX dX12_goesWay_125 rfl ?_
  refine J_iconst (v := (2 : Int32)) hX dX12_goesWay_127 (by decide) ?_
  refine K_icmp_ne (tgt := 141) hX dX12_goesWay_128 rfl h (fun h => ?_) (fun h => ?_)
  · refine J_iload (q := 2) hX dX12_goesWay_141 rfl ?_
    refine J_sub [] rfl ?_
    exact tM_goesWay_143 hX hw hg hR hr v4 (σ_20.1 0 31) σ_20 h
  · refine J_iload (q := 2) hX dX12_goesWay_131 rfl ?_
    refine J_iload (q := 2) hX dX12_goesWay_133 rfl ?_
    refine J_iconst (v := (2 : Int32)) hX dX12_goesWay_135 (by decide) ?_
    refine K_idiv hX dX12_goesWay_136 h (fun h => ?_)
    refine J_iadd hX dX12_goesWay_137 ?_
    refine J_goto (tgt := 143) hX dX12_goesWay_138 rfl ?_
    refine J_sub [] rfl ?_
    exact tM_goesWay_143 hX hw hg hR hr (v4 + (v4 / (2 : Int32))) (σ_20.1 0 31) σ_20 h

def rM_goesWay_75 (v4 : Int32) (v5 : Int32) (s0 : Int32) (s1 : Int32) (σ : St) : Option (St) :=
  nm (s1 + s0) fun v6_17 => brc (v6_17 ≤ (σ.1 0 30)) (rM_goesWay_96 v4 v5 v6_17 σ) (rM_goesWay_96 v4 v5 (σ.1 0 30) σ)
set_option maxRecDepth 100000 in
theorem tM_goesWay_75 {X : CX} (hX : gd X cX12_goesWay 7 RX12 none) (hw : (xw X).1 = mLy) (hg : nA X) (hR : xR X = rmOf 1 23 0 0) {τ : St} (hr : xr X = (none, τ)) (v4 : Int32) (v5 : Int32) (s0 : Int32) (s1 : Int32) (σ : St) (h : rM_goesWay_75 v4 v5 s0 s1 σ = some τ) : Jd X 7 75 [(0, .ref (wad (xw X) 0)), (4, .int v4), (5, .int v5)] [.int s0, .int s1] σ := by
  unfold rM_goesWay_75 at h
  refine J_iadd hX dX12_goesWay_75 ?_
  refine K_istore (fun v6_17 => [(6, .int v6_17), (0, .ref (wad (xw X) 0)), (4, .int v4), (5, .int v5)]) hX dX12_goesWay_76 (by decide) (fun _ => rfl) h (fun v6_17 h => ?_)
  refine J_iload (q := 0) hX dX12_goesWay_78 rfl ?_
  refine J_aload_n (q := 1) hX dX12_goesWay_80 rfl rfl ?_
  refine K_geti hX (mc_0 hw) cls_X12 (k := 30) (by decide) uw_6_77 rfl dX12_goesWay_81 ?_
  refine K_icmp_le (tgt := 94) hX dX12_goesWay_84 rfl h (fun h => ?_) (fun h => ?_)
  · refine J_iload (q := 0) hX dX12_goesWay_94 rfl ?_
    refine J_sub [1, 2, 3] rfl ?_
    exact tM_goesWay_96 hX hw hg hR hr v4 v5 v6_17 σ h
  · refine J_aload_n (q := 1) hX dX12_goesWay_87 rfl rfl ?_
    refine K_geti hX (mc_0 hw) cls_X12 (k := 30) (by decide) uw_6_77 rfl dX12_goesWay_88 ?_
    refine J_goto (tgt := 96) hX dX12_goesWay_91 rfl ?_
    refine J_sub [1, 2, 3] rfl ?_
    exact tM_goesWay_96 hX hw hg hR hr v4 v5 (σ.1 0 30) σ h

def rM_goesWay_54 (v2 : Int32) (v3 : Int32) (v4 : Int32) (v5 : Int32) (s0 : Int32) (σ : St) : Option (St) :=
  nm s0 fun v6_13 => brc (¬ v5 = (1 : Int32)) (bnd2 (rM_wayOf v2 v3 (1 : Int32) σ) fun r_16 σ_14 => rM_goesWay_75 v4 v5 r_16 v6_13 σ_14) (rM_goesWay_75 v4 v5 (0 : Int32) v6_13 σ)
set_option maxRecDepth 100000 in
theorem tM_goesWay_54 {X : CX} (hX : gd X cX12_goesWay 7 RX12 none) (hw : (xw X).1 = mLy) (hg : nA X) (hR : xR X = rmOf 1 23 0 0) {τ : St} (hr : xr X = (none, τ)) (v2 : Int32) (v3 : Int32) (v4 : Int32) (v5 : Int32) (s0 : Int32) (σ : St) (h : rM_goesWay_54 v2 v3 v4 v5 s0 σ = some τ) : Jd X 7 54 [(0, .ref (wad (xw X) 0)), (2, .int v2), (3, .int v3), (4, .int v4), (5, .int v5)] [.int s0] σ := by
  unfold rM_goesWay_54 at h
  refine K_istore (fun v6_13 => [(6, .int v6_13), (0, .ref (wad (xw X) 0)), (2, .int v2), (3, .int v3), (4, .int v4), (5, .int v5)]) hX dX12_goesWay_54 (by decide) (fun _ => rfl) h (fun v6_13 h => ?_)
  refine J_iload (q := 0) hX dX12_goesWay_56 rfl ?_
  refine J_iload (q := 5) hX dX12_goesWay_58 rfl ?_
  refine J_iconst (v := (1 : Int32)) hX dX12_goesWay_60 (by decide) ?_
  refine K_icmp_ne (tgt := 68) hX dX12_goesWay_61 rfl h (fun h => ?_) (fun h => ?_)
  · refine J_aload_n (q := 1) hX dX12_goesWay_68 rfl rfl ?_
    refine J_iload_n (q := 2) hX dX12_goesWay_69 rfl rfl ?_
    refine J_iload_n (q := 3) hX dX12_goesWay_70 rfl rfl ?_
    refine J_iconst (v := (1 : Int32)) hX dX12_goesWay_71 (by decide) ?_
    obtain ⟨r_16, σ_14, hc_15, h⟩ := bnd2_some h
    refine K_callV [.int v2, .int v3, .int (1 : Int32)] hX hg hR (ctM_wayOf hw hc_15) lk_X12_324_X12_wayOf md_X12_wayOf (mc_0 hw) cls_X12 ⟨by decide, by decide⟩ rfl rfl (Nat.le_of_ble_eq_true rfl) dX12_goesWay_72 ?_
    refine J_sub [1, 4, 5] rfl ?_
    exact tM_goesWay_75 hX hw hg hR hr v4 v5 r_16 v6_13 σ_14 h
  · refine J_iconst (v := (0 : Int32)) hX dX12_goesWay_64 (by decide) ?_
    refine J_goto (tgt := 75) hX dX12_goesWay_65 rfl ?_
    refine J_sub [1, 4, 5] rfl ?_
    exact tM_goesWay_75 hX hw hg hR hr v4 v5 (0 : Int32) v6_13 σ h

def rM_goesWay_45 (v2 : Int32) (v3 : Int32) (v4 : Int32) (v5 : Int32) (v6 : Int32) (σ : St) : Option (St) :=
  chk (decide (¬ (2 : Int32) = 0)) (rM_goesWay_54 v2 v3 v4 v5 (v6 / (2 : Int32)) σ)
set_option maxRecDepth 100000 in
theorem tM_goesWay_45 {X : CX} (hX : gd X cX12_goesWay 7 RX12 none) (hw : (xw X).1 = mLy) (hg : nA X) (hR : xR X = rmOf 1 23 0 0) {τ : St} (hr : xr X = (none, τ)) (v2 : Int32) (v3 : Int32) (v4 : Int32) (v5 : Int32) (v6 : Int32) (σ : St) (h : rM_goesWay_45 v2 v3 v4 v5 v6 σ = some τ) : Jd X 7 45 [(0, .ref (wad (xw X) 0)), (2, .int v2), (3, .int v3), (4, .int v4), (5, .int v5), (6, .int v6)] [] σ := by
  unfold rM_goesWay_45 at h
  refine J_iload (q := 5) hX dX12_goesWay_45 rfl ?_
  refine J_iconst (v := (2 : Int32)) hX dX12_goesWay_47 (by decide) ?_
  refine K_idiv hX dX12_goesWay_48 h (fun h => ?_)
  refine J_goto (tgt := 54) hX dX12_goesWay_49 rfl ?_
  refine J_sub [0, 1, 2, 3, 4] rfl ?_
  exact tM_goesWay_54 hX hw hg hR hr v2 v3 v4 v5 (v6 / (2 : Int32)) σ h

def rM_goesWay (v1 : Int32) (v2 : Int32) (v3 : Int32) (σ : St) : Option (St) :=
  bnd2 (rM_wayOf v2 v3 (0 : Int32) σ) fun r_3 σ_1 => nm r_3 fun v4_4 => bnd2 (rM_carrierOf v1 (0 : Int32) σ_1) fun r_7 σ_5 => nm r_7 fun v5_8 => bnd2 (rM_carrierOf v1 (2 : Int32) σ_5) fun r_11 σ_9 => chk (decide (¬ (10 : Int32) = 0)) (nm ((r_11 * v4_4) / (10 : Int32)) fun v6_12 => brc (v5_8 = (4 : Int32)) (rM_goesWay_45 v2 v3 v4_4 v5_8 v6_12 σ_9) (bnd2 (rM_isPatched v1 σ_9) fun r_24 σ_22 => brc (r_24 = 0) (rM_goesWay_54 v2 v3 v4_4 v5_8 v6_12 σ_22) (rM_goesWay_45 v2 v3 v4_4 v5_8 v6_12 σ_22)))
set_option maxRecDepth 100000 in
theorem tM_goesWay {X : CX} (hX : gd X cX12_goesWay 7 RX12 none) (hw : (xw X).1 = mLy) (hg : nA X) (hR : xR X = rmOf 1 23 0 0) {τ : St} (hr : xr X = (none, τ)) (v1 : Int32) (v2 : Int32) (v3 : Int32) (σ : St) (h : rM_goesWay v1 v2 v3 σ = some τ) : Jd X 7 0 [(0, .ref (wad (xw X) 0)), (1, .int v1), (2, .int v2), (3, .int v3)] [] σ := by
  unfold rM_goesWay at h
  refine J_aload_n (q := 0) hX dX12_goesWay_0 rfl rfl ?_
  refine J_iload_n (q := 2) hX dX12_goesWay_1 rfl rfl ?_
  refine J_iload_n (q := 3) hX dX12_goesWay_2 rfl rfl ?_
  refine J_iconst (v := (0 : Int32)) hX dX12_goesWay_3 (by decide) ?_
  obtain ⟨r_3, σ_1, hc_2, h⟩ := bnd2_some h
  refine K_callV [.int v2, .int v3, .int (0 : Int32)] hX hg hR (ctM_wayOf hw hc_2) lk_X12_324_X12_wayOf md_X12_wayOf (mc_0 hw) cls_X12 ⟨by decide, by decide⟩ rfl rfl (Nat.le_of_ble_eq_true rfl) dX12_goesWay_4 ?_
  refine K_istore (fun v4_4 => [(4, .int v4_4), (0, .ref (wad (xw X) 0)), (1, .int v1), (2, .int v2), (3, .int v3)]) hX dX12_goesWay_7 (by decide) (fun _ => rfl) h (fun v4_4 h => ?_)
  refine J_aload_n (q := 1) hX dX12_goesWay_9 rfl rfl ?_
  refine J_iload_n (q := 2) hX dX12_goesWay_10 rfl rfl ?_
  refine J_iconst (v := (0 : Int32)) hX dX12_goesWay_11 (by decide) ?_
  obtain ⟨r_7, σ_5, hc_6, h⟩ := bnd2_some h
  refine K_callV [.int v1, .int (0 : Int32)] hX hg hR (ctM_carrierOf hw hc_6) lk_X12_315_X12_carrierOf md_X12_carrierOf (mc_0 hw) cls_X12 ⟨by decide, by decide⟩ rfl rfl (Nat.le_of_ble_eq_true rfl) dX12_goesWay_12 ?_
  refine K_istore (fun v5_8 => [(5, .int v5_8), (4, .int v4_4), (0, .ref (wad (xw X) 0)), (1, .int v1), (2, .int v2), (3, .int v3)]) hX dX12_goesWay_15 (by decide) (fun _ => rfl) h (fun v5_8 h => ?_)
  refine J_aload_n (q := 2) hX dX12_goesWay_17 rfl rfl ?_
  refine J_iload_n (q := 3) hX dX12_goesWay_18 rfl rfl ?_
  refine J_iconst (v := (2 : Int32)) hX dX12_goesWay_19 (by decide) ?_
  obtain ⟨r_11, σ_9, hc_10, h⟩ := bnd2_some h
  refine K_callV [.int v1, .int (2 : Int32)] hX hg hR (ctM_carrierOf hw hc_10) lk_X12_315_X12_carrierOf md_X12_carrierOf (mc_0 hw) cls_X12 ⟨by decide, by decide⟩ rfl rfl (Nat.le_of_ble_eq_true rfl) dX12_goesWay_20 ?_
  refine J_iload (q := 1) hX dX12_goesWay_23 rfl ?_
  refine J_imul hX dX12_goesWay_25 ?_
  refine J_bipush (v := (10 : Int32)) hX dX12_goesWay_26 (by decide) ?_
  refine K_idiv hX dX12_goesWay_28 h (fun h => ?_)
  refine K_istore (fun v6_12 => [(6, .int v6_12), (5, .int v5_8), (4, .int v4_4), (0, .ref (wad (xw X) 0)), (1, .int v1), (2, .int v2), (3, .int v3)]) hX dX12_goesWay_29 (by decide) (fun _ => rfl) h (fun v6_12 h => ?_)
  refine J_iload (q := 1) hX dX12_goesWay_31 rfl ?_
  refine J_iconst (v := (4 : Int32)) hX dX12_goesWay_33 (by decide) ?_
  refine K_icmp_eq (tgt := 45) hX dX12_goesWay_34 rfl h (fun h => ?_) (fun h => ?_)
  · refine J_sub [3, 5, 6, 2, 1, 0] rfl ?_
    exact tM_goesWay_45 hX hw hg hR hr v2 v3 v4_4 v5_8 v6_12 σ_9 h
  · refine J_aload_n (q := 3) hX dX12_goesWay_37 rfl rfl ?_
    refine J_iload_n (q := 4) hX dX12_goesWay_38 rfl rfl ?_
    obtain ⟨r_24, σ_22, hc_23, h⟩ := bnd2_some h
    refine K_callV [.int v1] hX hg hR (ctM_isPatched hw hc_23) lk_X12_327_X12_isPatched md_X12_isPatched (mc_0 hw) cls_X12 ⟨by decide, by decide⟩ rfl rfl (Nat.le_of_ble_eq_true rfl) dX12_goesWay_39 ?_
    refine K_if_eq (tgt := 52) hX dX12_goesWay_42 rfl h (fun h => ?_) (fun h => ?_)
    · refine J_iload (q := 0) hX dX12_goesWay_52 rfl ?_
      refine J_sub [3, 5, 6, 2, 1] rfl ?_
      exact tM_goesWay_54 hX hw hg hR hr v2 v3 v4_4 v5_8 v6_12 σ_22 h
    · refine J_sub [3, 5, 6, 2, 1, 0] rfl ?_
      exact tM_goesWay_45 hX hw hg hR hr v2 v3 v4_4 v5_8 v6_12 σ_22 h
theorem ctM_goesWay {w : WT} (hw : w.1 = mLy) {v1 : Int32} {v2 : Int32} {v3 : Int32} {σ : St} {τ : St} (h : rM_goesWay v1 v2 v3 σ = some τ) : Ct yX12_goesWay cX12_goesWay 7 none 1 23 w [.ref (wad w 0), .int v1, .int v2, .int v3] σ none τ 0 0 :=
  Ct_intro (fun _ => (0, 0)) (by decide) rfl ⟨rfl, Nat.le_refl _⟩ (Nat.le_of_ble_eq_true rfl) (fun X hX hR hwX hg hr => by subst hwX; exact tM_goesWay hX hw hg hR hr v1 v2 v3 σ h)

def rM_path_36 (s0 : Int32) (σ : St) : Option (Int32 × St) :=
  some (s0, σ)
set_option maxRecDepth 100000 in
theorem tM_path_36 {X : CX} (hX : gd X cX12_path 3 RX12 (some .int)) (hw : (xw X).1 = mLy) (hg : nA X) (hR : xR X = rmOf 1 22 0 0) {r : Int32} {τ : St} (hr : xr X = (some (.int r), τ)) (s0 : Int32) (σ : St) (h : rM_path_36 s0 σ = some (r, τ)) : Jd X 3 36 [] [.int s0] σ := by
  unfold rM_path_36 at h
  exact K_iret hX hr dX12_path_36 h

def rM_path_35 (σ : St) : Option (Int32 × St) :=
  rM_path_36 (-1 : Int32) σ
set_option maxRecDepth 100000 in
theorem tM_path_35 {X : CX} (hX : gd X cX12_path 3 RX12 (some .int)) (hw : (xw X).1 = mLy) (hg : nA X) (hR : xR X = rmOf 1 22 0 0) {r : Int32} {τ : St} (hr : xr X = (some (.int r), τ)) (σ : St) (h : rM_path_35 σ = some (r, τ)) : Jd X 3 35 [] [] σ := by
  unfold rM_path_35 at h
  refine J_iconst (v := (-1 : Int32)) hX dX12_path_35 (by decide) ?_
  refine J_sub [] rfl ?_
  exact tM_path_36 hX hw hg hR hr (-1 : Int32) σ h

def rM_path (v1 : Int32) (v2 : Int32) (σ : St) : Option (Int32 × St) :=
  nm (setI σ 0 0 (0 : Int32)) fun σ_1 => bnd2 (rM_isPath v1 σ_1) fun r_4 σ_2 => brc (r_4 = 0) (rM_path_35 σ_2) (brc (v2 < 0) (rM_path_35 σ_2) (bnd2 (rM_lengthOf v1 σ_2) fun r_7 σ_5 => brc (r_7 ≤ v2) (rM_path_35 σ_5) (bnd2 (rM_stationOf v1 v2 σ_5) fun r_10 σ_8 => rM_path_36 r_10 σ_8)))
set_option maxRecDepth 100000 in
theorem tM_path {X : CX} (hX : gd X cX12_path 3 RX12 (some .int)) (hw : (xw X).1 = mLy) (hg : nA X) (hR : xR X = rmOf 1 22 0 0) {r : Int32} {τ : St} (hr : xr X = (some (.int r), τ)) (v1 : Int32) (v2 : Int32) (σ : St) (h : rM_path v1 v2 σ = some (r, τ)) : Jd X 3 0 [(0, .ref (wad (xw X) 0)), (1, .int v1), (2, .int v2)] [] σ := by
  unfold rM_path at h
  refine J_aload_n (q := 0) hX dX12_path_0 rfl rfl ?_
  refine J_iconst (v := (0 : Int32)) hX dX12_path_1 (by decide) ?_
  refine K_puti hX (mc_0 hw) cls_X12 (k := 0) (by decide) uw_6_47 rfl rfl rfl dX12_path_2 h (fun σ_1 h => ?_)
  refine J_aload_n (q := 0) hX dX12_path_5 rfl rfl ?_
  refine J_iload_n (q := 1) hX dX12_path_6 rfl rfl ?_
  obtain ⟨r_4, σ_2, hc_3, h⟩ := bnd2_some h
  refine K_callV [.int v1] hX hg hR (ctM_isPath hw hc_3) lk_X12_376_X12_isPath md_X12_isPath (mc_0 hw) cls_X12 ⟨by decide, by decide⟩ rfl rfl (Nat.le_of_ble_eq_true rfl) dX12_path_7 ?_
  refine K_if_eq (tgt := 35) hX dX12_path_10 rfl h (fun h => ?_) (fun h => ?_)
  · refine J_sub [] rfl ?_
    exact tM_path_35 hX hw hg hR hr σ_2 h
  · refine J_iload_n (q := 2) hX dX12_path_13 rfl rfl ?_
    refine K_if_lt (tgt := 35) hX dX12_path_14 rfl h (fun h => ?_) (fun h => ?_)
    · refine J_sub [] rfl ?_
      exact tM_path_35 hX hw hg hR hr σ_2 h
    · refine J_iload_n (q := 2) hX dX12_path_17 rfl rfl ?_
      refine J_aload_n (q := 0) hX dX12_path_18 rfl rfl ?_
      refine J_iload_n (q := 1) hX dX12_path_19 rfl rfl ?_
      obtain ⟨r_7, σ_5, hc_6, h⟩ := bnd2_some h
      refine K_callV [.int v1] hX hg hR (ctM_lengthOf hw hc_6) lk_X12_351_X12_lengthOf md_X12_lengthOf (mc_0 hw) cls_X12 ⟨by decide, by decide⟩ rfl rfl (Nat.le_of_ble_eq_true rfl) dX12_path_20 ?_
      refine K_icmp_ge (tgt := 35) hX dX12_path_23 rfl h (fun h => ?_) (fun h => ?_)
      · refine J_sub [] rfl ?_
        exact tM_path_35 hX hw hg hR hr σ_5 h
      · refine J_aload_n (q := 0) hX dX12_path_26 rfl rfl ?_
        refine J_iload_n (q := 1) hX dX12_path_27 rfl rfl ?_
        refine J_iload_n (q := 2) hX dX12_path_28 rfl rfl ?_
        obtain ⟨r_10, σ_8, hc_9, h⟩ := bnd2_some h
        refine K_callV [.int v1, .int v2] hX hg hR (ctM_stationOf hw hc_9) lk_X12_354_X12_stationOf md_X12_stationOf (mc_0 hw) cls_X12 ⟨by decide, by decide⟩ rfl rfl (Nat.le_of_ble_eq_true rfl) dX12_path_29 ?_
        refine J_goto (tgt := 36) hX dX12_path_32 rfl ?_
        refine J_sub [] rfl ?_
        exact tM_path_36 hX hw hg hR hr r_10 σ_8 h
theorem ctM_path {w : WT} (hw : w.1 = mLy) {v1 : Int32} {v2 : Int32} {σ : St} {r : Int32} {τ : St} (h : rM_path v1 v2 σ = some (r, τ)) : Ct yX12_path cX12_path 3 (some .int) 1 22 w [.ref (wad w 0), .int v1, .int v2] σ (some (.int r)) τ 0 0 :=
  Ct_intro (fun _ => (0, 0)) (by decide) rfl ⟨rfl, Nat.le_refl _⟩ (Nat.le_of_ble_eq_true rfl) (fun X hX hR hwX hg hr => by subst hwX; exact tM_path hX hw hg hR hr v1 v2 σ h)

def rM_rest (σ : St) : Option (Int32 × St) :=
  nm (setI σ 0 0 (0 : Int32)) fun σ_1 => chk (ib (38 : Int32) 6000) (nm (σ_1.1 16 (38 : Int32).toNatClampNeg) fun v1_2 => bnd1 (rM_rests σ_1) fun σ_3 => some (v1_2, σ_3))
set_option maxRecDepth 100000 in
theorem tM_rest {X : CX} (hX : gd X cX12_rest 2 RX12 (some .int)) (hw : (xw X).1 = mLy) (hg : nA X) (hR : xR X = rmOf 1 21 0 0) {r : Int32} {τ : St} (hr : xr X = (some (.int r), τ)) (σ : St) (h : rM_rest σ = some (r, τ)) : Jd X 2 0 [(0, .ref (wad (xw X) 0))] [] σ := by
  unfold rM_rest at h
  refine J_aload_n (q := 0) hX dX12_rest_0 rfl rfl ?_
  refine J_iconst (v := (0 : Int32)) hX dX12_rest_1 (by decide) ?_
  refine K_puti hX (mc_0 hw) cls_X12 (k := 0) (by decide) uw_6_47 rfl rfl rfl dX12_rest_2 h (fun σ_1 h => ?_)
  refine J_aload_n (q := 0) hX dX12_rest_5 rfl rfl ?_
  refine K_getc 16 hX (mc_0 hw) cls_X12 (k := 24) (by decide) uw_6_71 rfl dX12_rest_6 ?_
  refine J_bipush (v := (38 : Int32)) hX dX12_rest_9 (by decide) ?_
  refine K_iald hX (mc_16 hw) dX12_rest_11 h (fun h => ?_)
  refine K_istore_n (fun v1_2 => [(1, .int v1_2), (0, .ref (wad (xw X) 0))]) hX dX12_rest_12 rfl (by decide) (fun _ => rfl) h (fun v1_2 h => ?_)
  refine J_aload_n (q := 1) hX dX12_rest_13 rfl rfl ?_
  obtain ⟨σ_3, hc_4, h⟩ := bnd1_some h
  refine K_callV [] hX hg hR (ctM_rests hw hc_4) lk_X12_162_X12_rests md_X12_rests (mc_0 hw) cls_X12 ⟨by decide, by decide⟩ rfl rfl (Nat.le_of_ble_eq_true rfl) dX12_rest_14 ?_
  refine J_iload_n (q := 0) hX dX12_rest_17 rfl rfl ?_
  exact K_iret hX hr dX12_rest_18 h
theorem ctM_rest {w : WT} (hw : w.1 = mLy) {σ : St} {r : Int32} {τ : St} (h : rM_rest σ = some (r, τ)) : Ct yX12_rest cX12_rest 2 (some .int) 1 21 w [.ref (wad w 0)] σ (some (.int r)) τ 0 0 :=
  Ct_intro (fun _ => (0, 0)) (by decide) rfl ⟨rfl, Nat.le_refl _⟩ (Nat.le_of_ble_eq_true rfl) (fun X hX hR hwX hg hr => by subst hwX; exact tM_rest hX hw hg hR hr  σ h)

def rM_seed (v1 : Int32) (σ : St) : Option (Int32 × St) :=
  nm (setI σ 0 0 (0 : Int32)) fun σ_1 => bnd2 (rM_within v1 (0 : Int32) (9999 : Int32) σ_1) fun r_4 σ_2 => brc (¬ r_4 = 0) (chk (ib (37 : Int32) 6000) (nm (setI σ_2 16 (37 : Int32).toNatClampNeg v1) fun σ_5 => chk (decide ((1 : Int32) = 0 ∨ (1 : Int32) = 1)) (some ((1 : Int32), σ_5)))) (chk (decide ((0 : Int32) = 0 ∨ (0 : Int32) = 1)) (some ((0 : Int32), σ_2)))
set_option maxRecDepth 100000 in
theorem tM_seed {X : CX} (hX : gd X cX12_seed 2 RX12 (some .boolean)) (hw : (xw X).1 = mLy) (hg : nA X) (hR : xR X = rmOf 1 22 0 0) {r : Int32} {τ : St} (hr : xr X = (some (.int r), τ)) (v1 : Int32) (σ : St) (h : rM_seed v1 σ = some (r, τ)) : Jd X 2 0 [(0, .ref (wad (xw X) 0)), (1, .int v1)] [] σ := by
  unfold rM_seed at h
  refine J_aload_n (q := 0) hX dX12_seed_0 rfl rfl ?_
  refine J_iconst (v := (0 : Int32)) hX dX12_seed_1 (by decide) ?_
  refine K_puti hX (mc_0 hw) cls_X12 (k := 0) (by decide) uw_6_47 rfl rfl rfl dX12_seed_2 h (fun σ_1 h => ?_)
  refine J_iload_n (q := 1) hX dX12_seed_5 rfl rfl ?_
  refine J_iconst (v := (0 : Int32)) hX dX12_seed_6 (by decide) ?_
  refine J_sipush (v := (9999 : Int32)) hX dX12_seed_7 (by decide) ?_
  obtain ⟨r_4, σ_2, hc_3, h⟩ := bnd2_some h
  refine K_callS [.int v1, .int (0 : Int32), .int (9999 : Int32)] hX hg hR (ctM_within hw hc_3) lk_X12_372_X12_within md_X12_within ⟨by decide, by decide⟩ rfl rfl (Nat.le_of_ble_eq_true rfl) dX12_seed_10 ?_
  refine K_if_ne (tgt := 18) hX dX12_seed_13 rfl h (fun h => ?_) (fun h => ?_)
  · refine J_aload_n (q := 0) hX dX12_seed_18 rfl rfl ?_
    refine K_getc 16 hX (mc_0 hw) cls_X12 (k := 24) (by decide) uw_6_71 rfl dX12_seed_19 ?_
    refine J_bipush (v := (37 : Int32)) hX dX12_seed_22 (by decide) ?_
    refine J_iload_n (q := 1) hX dX12_seed_24 rfl rfl ?_
    refine K_iast hX (mc_16 hw) dX12_seed_25 h (fun σ_5 h => ?_)
    refine J_iconst (v := (1 : Int32)) hX dX12_seed_26 (by decide) ?_
    exact K_zret hX hr dX12_seed_27 h
  · refine J_iconst (v := (0 : Int32)) hX dX12_seed_16 (by decide) ?_
    exact K_zret hX hr dX12_seed_17 h
theorem ctM_seed {w : WT} (hw : w.1 = mLy) {v1 : Int32} {σ : St} {r : Int32} {τ : St} (h : rM_seed v1 σ = some (r, τ)) : Ct yX12_seed cX12_seed 2 (some .boolean) 1 22 w [.ref (wad w 0), .int v1] σ (some (.int r)) τ 0 0 :=
  Ct_intro (fun _ => (0, 0)) (by decide) rfl ⟨rfl, Nat.le_refl _⟩ (Nat.le_of_ble_eq_true rfl) (fun X hX hR hwX hg hr => by subst hwX; exact tM_seed hX hw hg hR hr v1 σ h)

def rM_drank_46 (s0 : Int32) (σ : St) : Option (Int32 × St) :=
  some (s0, σ)
set_option maxRecDepth 100000 in
theorem tM_drank_46 {X : CX} (hX : gd X cX12_drank 3 RX12 (some .int)) (hw : (xw X).1 = mLy) (hg : nA X) (hR : xR X = rmOf 1 22 0 0) {r : Int32} {τ : St} (hr : xr X = (some (.int r), τ)) (s0 : Int32) (σ : St) (h : rM_drank_46 s0 σ = some (r, τ)) : Jd X 3 46 [] [.int s0] σ := by
  unfold rM_drank_46 at h
  exact K_iret hX hr dX12_drank_46 h

def rM_drank_45 (σ : St) : Option (Int32 × St) :=
  rM_drank_46 (-1 : Int32) σ
set_option maxRecDepth 100000 in
theorem tM_drank_45 {X : CX} (hX : gd X cX12_drank 3 RX12 (some .int)) (hw : (xw X).1 = mLy) (hg : nA X) (hR : xR X = rmOf 1 22 0 0) {r : Int32} {τ : St} (hr : xr X = (some (.int r), τ)) (σ : St) (h : rM_drank_45 σ = some (r, τ)) : Jd X 3 45 [] [] σ := by
  unfold rM_drank_45 at h
  refine J_iconst (v := (-1 : Int32)) hX dX12_drank_45 (by decide) ?_
  refine J_sub [] rfl ?_
  exact tM_drank_46 hX hw hg hR hr (-1 : Int32) σ h

def rM_drank (v1 : Int32) (v2 : Int32) (σ : St) : Option (Int32 × St) :=
  nm (setI σ 0 0 (0 : Int32)) fun σ_1 => brc (v1 < 0) (rM_drank_45 σ_1) (chk (ib (42 : Int32) 6000) (brc ((σ_1.1 16 (42 : Int32).toNatClampNeg) ≤ v1) (rM_drank_45 σ_1) (bnd2 (rM_within v2 (0 : Int32) (2 : Int32) σ_1) fun r_4 σ_2 => brc (r_4 = 0) (rM_drank_45 σ_2) (chk (ib (((56 : Int32) + ((3 : Int32) * v1)) + v2) 6000) (rM_drank_46 (σ_2.1 16 (((56 : Int32) + ((3 : Int32) * v1)) + v2).toNatClampNeg) σ_2)))))
set_option maxRecDepth 100000 in
theorem tM_drank {X : CX} (hX : gd X cX12_drank 3 RX12 (some .int)) (hw : (xw X).1 = mLy) (hg : nA X) (hR : xR X = rmOf 1 22 0 0) {r : Int32} {τ : St} (hr : xr X = (some (.int r), τ)) (v1 : Int32) (v2 : Int32) (σ : St) (h : rM_drank v1 v2 σ = some (r, τ)) : Jd X 3 0 [(0, .ref (wad (xw X) 0)), (1, .int v1), (2, .int v2)] [] σ := by
  unfold rM_drank at h
  refine J_aload_n (q := 0) hX dX12_drank_0 rfl rfl ?_
  refine J_iconst (v := (0 : Int32)) hX dX12_drank_1 (by decide) ?_
  refine K_puti hX (mc_0 hw) cls_X12 (k := 0) (by decide) uw_6_47 rfl rfl rfl dX12_drank_2 h (fun σ_1 h => ?_)
  refine J_iload_n (q := 1) hX dX12_drank_5 rfl rfl ?_
  refine K_if_lt (tgt := 45) hX dX12_drank_6 rfl h (fun h => ?_) (fun h => ?_)
  · refine J_sub [] rfl ?_
    exact tM_drank_45 hX hw hg hR hr σ_1 h
  · refine J_iload_n (q := 1) hX dX12_drank_9 rfl rfl ?_
    refine J_aload_n (q := 0) hX dX12_drank_10 rfl rfl ?_
    refine K_getc 16 hX (mc_0 hw) cls_X12 (k := 24) (by decide) uw_6_71 rfl dX12_drank_11 ?_
    refine J_bipush (v := (42 : Int32)) hX dX12_drank_14 (by decide) ?_
    refine K_iald hX (mc_16 hw) dX12_drank_16 h (fun h => ?_)
    refine K_icmp_ge (tgt := 45) hX dX12_drank_17 rfl h (fun h => ?_) (fun h => ?_)
    · refine J_sub [] rfl ?_
      exact tM_drank_45 hX hw hg hR hr σ_1 h
    · refine J_iload_n (q := 2) hX dX12_drank_20 rfl rfl ?_
      refine J_iconst (v := (0 : Int32)) hX dX12_drank_21 (by decide) ?_
      refine J_iconst (v := (2 : Int32)) hX dX12_drank_22 (by decide) ?_
      obtain ⟨r_4, σ_2, hc_3, h⟩ := bnd2_some h
      refine K_callS [.int v2, .int (0 : Int32), .int (2 : Int32)] hX hg hR (ctM_within hw hc_3) lk_X12_372_X12_within md_X12_within ⟨by decide, by decide⟩ rfl rfl (Nat.le_of_ble_eq_true rfl) dX12_drank_23 ?_
      refine K_if_eq (tgt := 45) hX dX12_drank_26 rfl h (fun h => ?_) (fun h => ?_)
      · refine J_sub [] rfl ?_
        exact tM_drank_45 hX hw hg hR hr σ_2 h
      · refine J_aload_n (q := 0) hX dX12_drank_29 rfl rfl ?_
        refine K_getc 16 hX (mc_0 hw) cls_X12 (k := 24) (by decide) uw_6_71 rfl dX12_drank_30 ?_
        refine J_bipush (v := (56 : Int32)) hX dX12_drank_33 (by decide) ?_
        refine J_iconst (v := (3 : Int32)) hX dX12_drank_35 (by decide) ?_
        refine J_iload_n (q := 1) hX dX12_drank_36 rfl rfl ?_
        refine J_imul hX dX12_drank_37 ?_
        refine J_iadd hX dX12_drank_38 ?_
        refine J_iload_n (q := 2) hX dX12_drank_39 rfl rfl ?_
        refine J_iadd hX dX12_drank_40 ?_
        refine K_iald hX (mc_16 hw) dX12_drank_41 h (fun h => ?_)
        refine J_goto (tgt := 46) hX dX12_drank_42 rfl ?_
        refine J_sub [] rfl ?_
        exact tM_drank_46 hX hw hg hR hr (σ_2.1 16 (((56 : Int32) + ((3 : Int32) * v1)) + v2).toNatClampNeg) σ_2 h
theorem ctM_drank {w : WT} (hw : w.1 = mLy) {v1 : Int32} {v2 : Int32} {σ : St} {r : Int32} {τ : St} (h : rM_drank v1 v2 σ = some (r, τ)) : Ct yX12_drank cX12_drank 3 (some .int) 1 22 w [.ref (wad w 0), .int v1, .int v2] σ (some (.int r)) τ 0 0 :=
  Ct_intro (fun _ => (0, 0)) (by decide) rfl ⟨rfl, Nat.le_refl _⟩ (Nat.le_of_ble_eq_true rfl) (fun X hX hR hwX hg hr => by subst hwX; exact tM_drank hX hw hg hR hr v1 v2 σ h)

def rM_sumOf_31 (k4 : Int32 → Int32 → Int32 → St → Option (Int32 × St)) (v1 : Int32) (v3 : Int32) (s0 : Int32) (s1 : Int32) (σ : St) : Option (Int32 × St) :=
  nm (s1 + s0) fun v2_6 => nm (v3 + Int32.ofInt 1) fun v3_7 => k4 v1 v2_6 v3_7 σ
set_option maxRecDepth 100000 in
theorem tM_sumOf_31 {X : CX} (hX : gd X cX12_sumOf 4 RX12 (some .int)) (hw : (xw X).1 = mLy) (hg : nA X) (hR : xR X = rmOf 1 23 0 0) {r : Int32} {τ : St} (hr : xr X = (some (.int r), τ)) {k4 : Int32 → Int32 → Int32 → St → Option (Int32 × St)} (hk4 : (∀ (v1 : Int32) (v2 : Int32) (v3 : Int32) (σ : St), k4 v1 v2 v3 σ = some (r, τ) → Jd X 4 4 [(0, .ref (wad (xw X) 0)), (1, .int v1), (2, .int v2), (3, .int v3)] [] σ)) (v1 : Int32) (v3 : Int32) (s0 : Int32) (s1 : Int32) (σ : St) (h : rM_sumOf_31 k4 v1 v3 s0 s1 σ = some (r, τ)) : Jd X 4 31 [(0, .ref (wad (xw X) 0)), (1, .int v1), (3, .int v3)] [.int s0, .int s1] σ := by
  unfold rM_sumOf_31 at h
  refine J_iadd hX dX12_sumOf_31 ?_
  refine K_istore_n (fun v2_6 => [(2, .int v2_6), (0, .ref (wad (xw X) 0)), (1, .int v1), (3, .int v3)]) hX dX12_sumOf_32 rfl (by decide) (fun _ => rfl) h (fun v2_6 h => ?_)
  refine K_iinc (q := 3) (fun v3_7 => [(3, .int v3_7), (2, .int v2_6), (0, .ref (wad (xw X) 0)), (1, .int v1)]) hX dX12_sumOf_33 rfl (by decide) (fun _ => rfl) h (fun v3_7 h => ?_)
  refine J_goto (tgt := 4) hX dX12_sumOf_36 rfl ?_
  refine J_sub [2, 3, 1, 0] rfl ?_
  exact hk4 v1 v2_6 v3_7 σ h

def rM_sumOf_4 (k4 : Int32 → Int32 → Int32 → St → Option (Int32 × St)) (v1 : Int32) (v2 : Int32) (v3 : Int32) (σ : St) : Option (Int32 × St) :=
  bnd2 (rM_carriers σ) fun r_5 σ_3 => brc (r_5 ≤ v3) (some (v2, σ_3)) (brc (¬ ((v1 >>> (v3 &&& 31)) &&& (1 : Int32)) = (1 : Int32)) (rM_sumOf_31 k4 v1 v3 (0 : Int32) v2 σ_3) (bnd2 (rM_debtOf v3 σ_3) fun r_10 σ_8 => rM_sumOf_31 k4 v1 v3 r_10 v2 σ_8))
set_option maxRecDepth 100000 in
theorem tM_sumOf_4b {X : CX} (hX : gd X cX12_sumOf 4 RX12 (some .int)) (hw : (xw X).1 = mLy) (hg : nA X) (hR : xR X = rmOf 1 23 0 0) {r : Int32} {τ : St} (hr : xr X = (some (.int r), τ)) {k4 : Int32 → Int32 → Int32 → St → Option (Int32 × St)} (hk4 : (∀ (v1 : Int32) (v2 : Int32) (v3 : Int32) (σ : St), k4 v1 v2 v3 σ = some (r, τ) → Jd X 4 4 [(0, .ref (wad (xw X) 0)), (1, .int v1), (2, .int v2), (3, .int v3)] [] σ)) (v1 : Int32) (v2 : Int32) (v3 : Int32) (σ : St) (h : rM_sumOf_4 k4 v1 v2 v3 σ = some (r, τ)) : Jd X 4 4 [(0, .ref (wad (xw X) 0)), (1, .int v1), (2, .int v2), (3, .int v3)] [] σ := by
  unfold rM_sumOf_4 at h
  refine J_iload_n (q := 3) hX dX12_sumOf_4 rfl rfl ?_
  refine J_aload_n (q := 0) hX dX12_sumOf_5 rfl rfl ?_
  obtain ⟨r_5, σ_3, hc_4, h⟩ := bnd2_some h
  refine K_callV [] hX hg hR (ctM_carriers hw hc_4) lk_X12_312_X12_carriers md_X12_carriers (mc_0 hw) cls_X12 ⟨by decide, by decide⟩ rfl rfl (Nat.le_of_ble_eq_true rfl) dX12_sumOf_6 ?_
  refine K_icmp_ge (tgt := 39) hX dX12_sumOf_9 rfl h (fun h => ?_) (fun h => ?_)
  · refine J_iload_n (q := 2) hX dX12_sumOf_39 rfl rfl ?_
    exact K_iret hX hr dX12_sumOf_40 h
  · refine J_iload_n (q := 2) hX dX12_sumOf_12 rfl rfl ?_
    refine J_iload_n (q := 1) hX dX12_sumOf_13 rfl rfl ?_
    refine J_iload_n (q := 3) hX dX12_sumOf_14 rfl rfl ?_
    refine J_ishr hX dX12_sumOf_15 ?_
    refine J_iconst (v := (1 : Int32)) hX dX12_sumOf_16 (by decide) ?_
    refine J_iand hX dX12_sumOf_17 ?_
    refine J_iconst (v := (1 : Int32)) hX dX12_sumOf_18 (by decide) ?_
    refine K_icmp_ne (tgt := 30) hX dX12_sumOf_19 rfl h (fun h => ?_) (fun h => ?_)
    · refine J_iconst (v := (0 : Int32)) hX dX12_sumOf_30 (by decide) ?_
      refine J_sub [0, 1, 3] rfl ?_
      exact tM_sumOf_31 hX hw hg hR hr hk4 v1 v3 (0 : Int32) v2 σ_3 h
    · refine J_aload_n (q := 0) hX dX12_sumOf_22 rfl rfl ?_
      refine J_iload_n (q := 3) hX dX12_sumOf_23 rfl rfl ?_
      obtain ⟨r_10, σ_8, hc_9, h⟩ := bnd2_some h
      refine K_callV [.int v3] hX hg hR (ctM_debtOf hw hc_9) lk_X12_339_X12_debtOf md_X12_debtOf (mc_0 hw) cls_X12 ⟨by decide, by decide⟩ rfl rfl (Nat.le_of_ble_eq_true rfl) dX12_sumOf_24 ?_
      refine J_goto (tgt := 31) hX dX12_sumOf_27 rfl ?_
      refine J_sub [0, 1, 3] rfl ?_
      exact tM_sumOf_31 hX hw hg hR hr hk4 v1 v3 r_10 v2 σ_8 h
def rM_sumOf_4L : ((Int32 × Int32 × Int32 × St) → Option (Int32 × St)) → (Int32 × Int32 × Int32 × St) → Option (Int32 × St) := fun k a => rM_sumOf_4 (fun v1 v2 v3 σ => k (v1, v2, v3, σ)) a.1 a.2.1 a.2.2.1 a.2.2.2
theorem tM_sumOf_4 {X : CX} (hX : gd X cX12_sumOf 4 RX12 (some .int)) (hw : (xw X).1 = mLy) (hg : nA X) (hR : xR X = rmOf 1 23 0 0) {r : Int32} {τ : St} (hr : xr X = (some (.int r), τ)) (n : Nat) (v1 : Int32) (v2 : Int32) (v3 : Int32) (σ : St) (h : lp (rM_sumOf_4L) n (v1, v2, v3, σ) = some (r, τ)) : Jd X 4 4 [(0, .ref (wad (xw X) 0)), (1, .int v1), (2, .int v2), (3, .int v3)] [] σ :=
  lp_ind (F := rM_sumOf_4L) (P := fun a => Jd X 4 4 [(0, .ref (wad (xw X) 0)), (1, .int a.1), (2, .int a.2.1), (3, .int a.2.2.1)] [] a.2.2.2) (fun k a hk h => tM_sumOf_4b hX hw hg hR hr (fun v1 v2 v3 σ h => hk (v1, v2, v3, σ) h) a.1 a.2.1 a.2.2.1 a.2.2.2 h) n (v1, v2, v3, σ) h

def rM_sumOf (v1 : Int32) (σ : St) : Option (Int32 × St) :=
  nm (0 : Int32) fun v2_1 => nm (0 : Int32) fun v3_2 => lp (rM_sumOf_4L) fu (v1, v2_1, v3_2, σ)
set_option maxRecDepth 100000 in
theorem tM_sumOf {X : CX} (hX : gd X cX12_sumOf 4 RX12 (some .int)) (hw : (xw X).1 = mLy) (hg : nA X) (hR : xR X = rmOf 1 23 0 0) {r : Int32} {τ : St} (hr : xr X = (some (.int r), τ)) (v1 : Int32) (σ : St) (h : rM_sumOf v1 σ = some (r, τ)) : Jd X 4 0 [(0, .ref (wad (xw X) 0)), (1, .int v1)] [] σ := by
  unfold rM_sumOf at h
  refine J_iconst (v := (0 : Int32)) hX dX12_sumOf_0 (by decide) ?_
  refine K_istore_n (fun v2_1 => [(2, .int v2_1), (0, .ref (wad (xw X) 0)), (1, .int v1)]) hX dX12_sumOf_1 rfl (by decide) (fun _ => rfl) h (fun v2_1 h => ?_)
  refine J_iconst (v := (0 : Int32)) hX dX12_sumOf_2 (by decide) ?_
  refine K_istore_n (fun v3_2 => [(3, .int v3_2), (2, .int v2_1), (0, .ref (wad (xw X) 0)), (1, .int v1)]) hX dX12_sumOf_3 rfl (by decide) (fun _ => rfl) h (fun v3_2 h => ?_)
  refine J_sub [2, 3, 1, 0] rfl ?_
  exact tM_sumOf_4 hX hw hg hR hr fu v1 v2_1 v3_2 σ h
theorem ctM_sumOf {w : WT} (hw : w.1 = mLy) {v1 : Int32} {σ : St} {r : Int32} {τ : St} (h : rM_sumOf v1 σ = some (r, τ)) : Ct yX12_sumOf cX12_sumOf 4 (some .int) 1 23 w [.ref (wad w 0), .int v1] σ (some (.int r)) τ 0 0 :=
  Ct_intro (fun _ => (0, 0)) (by decide) rfl ⟨rfl, Nat.le_refl _⟩ (Nat.le_of_ble_eq_true rfl) (fun X hX hR hwX hg hr => by subst hwX; exact tM_sumOf hX hw hg hR hr v1 σ h)

def rM_isMissed_54 (s0 : Int32) (σ : St) : Option (Int32 × St) :=
  chk (decide (s0 = 0 ∨ s0 = 1)) (some (s0, σ))
set_option maxRecDepth 100000 in
theorem tM_isMissed_54 {X : CX} (hX : gd X cX12_isMissed 5 RX12 (some .boolean)) (hw : (xw X).1 = mLy) (hg : nA X) (hR : xR X = rmOf 1 22 0 0) {r : Int32} {τ : St} (hr : xr X = (some (.int r), τ)) (s0 : Int32) (σ : St) (h : rM_isMissed_54 s0 σ = some (r, τ)) : Jd X 5 54 [] [.int s0] σ := by
  unfold rM_isMissed_54 at h
  exact K_zret hX hr dX12_isMissed_54 h

def rM_isMissed_36 (k5 : Int32 → Int32 → Int32 → Int32 → St → Option (Int32 × St)) (v1 : Int32) (v2 : Int32) (v4 : Int32) (s0 : Int32) (s1 : Int32) (σ : St) : Option (Int32 × St) :=
  nm (s1 + s0) fun v3_6 => nm (v4 + Int32.ofInt 1) fun v4_7 => k5 v1 v2 v3_6 v4_7 σ
set_option maxRecDepth 100000 in
theorem tM_isMissed_36 {X : CX} (hX : gd X cX12_isMissed 5 RX12 (some .boolean)) (hw : (xw X).1 = mLy) (hg : nA X) (hR : xR X = rmOf 1 22 0 0) {r : Int32} {τ : St} (hr : xr X = (some (.int r), τ)) {k5 : Int32 → Int32 → Int32 → Int32 → St → Option (Int32 × St)} (hk5 : (∀ (v1 : Int32) (v2 : Int32) (v3 : Int32) (v4 : Int32) (σ : St), k5 v1 v2 v3 v4 σ = some (r, τ) → Jd X 5 5 [(0, .ref (wad (xw X) 0)), (1, .int v1), (2, .int v2), (3, .int v3), (4, .int v4)] [] σ)) (v1 : Int32) (v2 : Int32) (v4 : Int32) (s0 : Int32) (s1 : Int32) (σ : St) (h : rM_isMissed_36 k5 v1 v2 v4 s0 s1 σ = some (r, τ)) : Jd X 5 36 [(0, .ref (wad (xw X) 0)), (1, .int v1), (2, .int v2), (4, .int v4)] [.int s0, .int s1] σ := by
  unfold rM_isMissed_36 at h
  refine J_iadd hX dX12_isMissed_36 ?_
  refine K_istore_n (fun v3_6 => [(3, .int v3_6), (0, .ref (wad (xw X) 0)), (1, .int v1), (2, .int v2), (4, .int v4)]) hX dX12_isMissed_37 rfl (by decide) (fun _ => rfl) h (fun v3_6 h => ?_)
  refine K_iinc (q := 4) (fun v4_7 => [(4, .int v4_7), (3, .int v3_6), (0, .ref (wad (xw X) 0)), (1, .int v1), (2, .int v2)]) hX dX12_isMissed_38 rfl (by decide) (fun _ => rfl) h (fun v4_7 h => ?_)
  refine J_goto (tgt := 5) hX dX12_isMissed_41 rfl ?_
  refine J_sub [2, 3, 4, 1, 0] rfl ?_
  exact hk5 v1 v2 v3_6 v4_7 σ h

def rM_isMissed_5 (k5 : Int32 → Int32 → Int32 → Int32 → St → Option (Int32 × St)) (v1 : Int32) (v2 : Int32) (v3 : Int32) (v4 : Int32) (σ : St) : Option (Int32 × St) :=
  bnd2 (rM_carriers σ) fun r_5 σ_3 => brc (r_5 ≤ v4) (brc (¬ v3 = v2) (rM_isMissed_54 (0 : Int32) σ_3) (rM_isMissed_54 (1 : Int32) σ_3)) (brc (¬ ((v1 >>> (v4 &&& 31)) &&& (1 : Int32)) = (1 : Int32)) (rM_isMissed_36 k5 v1 v2 v4 (0 : Int32) v3 σ_3) (bnd2 (rM_carrierOf v4 (3 : Int32) σ_3) fun r_10 σ_8 => rM_isMissed_36 k5 v1 v2 v4 r_10 v3 σ_8))
set_option maxRecDepth 100000 in
theorem tM_isMissed_5b {X : CX} (hX : gd X cX12_isMissed 5 RX12 (some .boolean)) (hw : (xw X).1 = mLy) (hg : nA X) (hR : xR X = rmOf 1 22 0 0) {r : Int32} {τ : St} (hr : xr X = (some (.int r), τ)) {k5 : Int32 → Int32 → Int32 → Int32 → St → Option (Int32 × St)} (hk5 : (∀ (v1 : Int32) (v2 : Int32) (v3 : Int32) (v4 : Int32) (σ : St), k5 v1 v2 v3 v4 σ = some (r, τ) → Jd X 5 5 [(0, .ref (wad (xw X) 0)), (1, .int v1), (2, .int v2), (3, .int v3), (4, .int v4)] [] σ)) (v1 : Int32) (v2 : Int32) (v3 : Int32) (v4 : Int32) (σ : St) (h : rM_isMissed_5 k5 v1 v2 v3 v4 σ = some (r, τ)) : Jd X 5 5 [(0, .ref (wad (xw X) 0)), (1, .int v1), (2, .int v2), (3, .int v3), (4, .int v4)] [] σ := by
  unfold rM_isMissed_5 at h
  refine J_iload (q := 4) hX dX12_isMissed_5 rfl ?_
  refine J_aload_n (q := 0) hX dX12_isMissed_7 rfl rfl ?_
  obtain ⟨r_5, σ_3, hc_4, h⟩ := bnd2_some h
  refine K_callV [] hX hg hR (ctM_carriers hw hc_4) lk_X12_312_X12_carriers md_X12_carriers (mc_0 hw) cls_X12 ⟨by decide, by decide⟩ rfl rfl (Nat.le_of_ble_eq_true rfl) dX12_isMissed_8 ?_
  refine K_icmp_ge (tgt := 44) hX dX12_isMissed_11 rfl h (fun h => ?_) (fun h => ?_)
  · refine J_iload_n (q := 3) hX dX12_isMissed_44 rfl rfl ?_
    refine J_iload_n (q := 2) hX dX12_isMissed_45 rfl rfl ?_
    refine K_icmp_ne (tgt := 53) hX dX12_isMissed_46 rfl h (fun h => ?_) (fun h => ?_)
    · refine J_iconst (v := (0 : Int32)) hX dX12_isMissed_53 (by decide) ?_
      refine J_sub [] rfl ?_
      exact tM_isMissed_54 hX hw hg hR hr (0 : Int32) σ_3 h
    · refine J_iconst (v := (1 : Int32)) hX dX12_isMissed_49 (by decide) ?_
      refine J_goto (tgt := 54) hX dX12_isMissed_50 rfl ?_
      refine J_sub [] rfl ?_
      exact tM_isMissed_54 hX hw hg hR hr (1 : Int32) σ_3 h
  · refine J_iload_n (q := 3) hX dX12_isMissed_14 rfl rfl ?_
    refine J_iload_n (q := 1) hX dX12_isMissed_15 rfl rfl ?_
    refine J_iload (q := 4) hX dX12_isMissed_16 rfl ?_
    refine J_ishr hX dX12_isMissed_18 ?_
    refine J_iconst (v := (1 : Int32)) hX dX12_isMissed_19 (by decide) ?_
    refine J_iand hX dX12_isMissed_20 ?_
    refine J_iconst (v := (1 : Int32)) hX dX12_isMissed_21 (by decide) ?_
    refine K_icmp_ne (tgt := 35) hX dX12_isMissed_22 rfl h (fun h => ?_) (fun h => ?_)
    · refine J_iconst (v := (0 : Int32)) hX dX12_isMissed_35 (by decide) ?_
      refine J_sub [0, 1, 2, 4] rfl ?_
      exact tM_isMissed_36 hX hw hg hR hr hk5 v1 v2 v4 (0 : Int32) v3 σ_3 h
    · refine J_aload_n (q := 0) hX dX12_isMissed_25 rfl rfl ?_
      refine J_iload (q := 4) hX dX12_isMissed_26 rfl ?_
      refine J_iconst (v := (3 : Int32)) hX dX12_isMissed_28 (by decide) ?_
      obtain ⟨r_10, σ_8, hc_9, h⟩ := bnd2_some h
      refine K_callV [.int v4, .int (3 : Int32)] hX hg hR (ctM_carrierOf hw hc_9) lk_X12_315_X12_carrierOf md_X12_carrierOf (mc_0 hw) cls_X12 ⟨by decide, by decide⟩ rfl rfl (Nat.le_of_ble_eq_true rfl) dX12_isMissed_29 ?_
      refine J_goto (tgt := 36) hX dX12_isMissed_32 rfl ?_
      refine J_sub [0, 1, 2, 4] rfl ?_
      exact tM_isMissed_36 hX hw hg hR hr hk5 v1 v2 v4 r_10 v3 σ_8 h
def rM_isMissed_5L : ((Int32 × Int32 × Int32 × Int32 × St) → Option (Int32 × St)) → (Int32 × Int32 × Int32 × Int32 × St) → Option (Int32 × St) := fun k a => rM_isMissed_5 (fun v1 v2 v3 v4 σ => k (v1, v2, v3, v4, σ)) a.1 a.2.1 a.2.2.1 a.2.2.2.1 a.2.2.2.2
theorem tM_isMissed_5 {X : CX} (hX : gd X cX12_isMissed 5 RX12 (some .boolean)) (hw : (xw X).1 = mLy) (hg : nA X) (hR : xR X = rmOf 1 22 0 0) {r : Int32} {τ : St} (hr : xr X = (some (.int r), τ)) (n : Nat) (v1 : Int32) (v2 : Int32) (v3 : Int32) (v4 : Int32) (σ : St) (h : lp (rM_isMissed_5L) n (v1, v2, v3, v4, σ) = some (r, τ)) : Jd X 5 5 [(0, .ref (wad (xw X) 0)), (1, .int v1), (2, .int v2), (3, .int v3), (4, .int v4)] [] σ :=
  lp_ind (F := rM_isMissed_5L) (P := fun a => Jd X 5 5 [(0, .ref (wad (xw X) 0)), (1, .int a.1), (2, .int a.2.1), (3, .int a.2.2.1), (4, .int a.2.2.2.1)] [] a.2.2.2.2) (fun k a hk h => tM_isMissed_5b hX hw hg hR hr (fun v1 v2 v3 v4 σ h => hk (v1, v2, v3, v4, σ) h) a.1 a.2.1 a.2.2.1 a.2.2.2.1 a.2.2.2.2 h) n (v1, v2, v3, v4, σ) h

def rM_isMissed (v1 : Int32) (v2 : Int32) (σ : St) : Option (Int32 × St) :=
  nm (0 : Int32) fun v3_1 => nm (0 : Int32) fun v4_2 => lp (rM_isMissed_5L) fu (v1, v2, v3_1, v4_2, σ)
set_option maxRecDepth 100000 in
theorem tM_isMissed {X : CX} (hX : gd X cX12_isMissed 5 RX12 (some .boolean)) (hw : (xw X).1 = mLy) (hg : nA X) (hR : xR X = rmOf 1 22 0 0) {r : Int32} {τ : St} (hr : xr X = (some (.int r), τ)) (v1 : Int32) (v2 : Int32) (σ : St) (h : rM_isMissed v1 v2 σ = some (r, τ)) : Jd X 5 0 [(0, .ref (wad (xw X) 0)), (1, .int v1), (2, .int v2)] [] σ := by
  unfold rM_isMissed at h
  refine J_iconst (v := (0 : Int32)) hX dX12_isMissed_0 (by decide) ?_
  refine K_istore_n (fun v3_1 => [(3, .int v3_1), (0, .ref (wad (xw X) 0)), (1, .int v1), (2, .int v2)]) hX dX12_isMissed_1 rfl (by decide) (fun _ => rfl) h (fun v3_1 h => ?_)
  refine J_iconst (v := (0 : Int32)) hX dX12_isMissed_2 (by decide) ?_
  refine K_istore (fun v4_2 => [(4, .int v4_2), (3, .int v3_1), (0, .ref (wad (xw X) 0)), (1, .int v1), (2, .int v2)]) hX dX12_isMissed_3 (by decide) (fun _ => rfl) h (fun v4_2 h => ?_)
  refine J_sub [2, 3, 4, 1, 0] rfl ?_
  exact tM_isMissed_5 hX hw hg hR hr fu v1 v2 v3_1 v4_2 σ h
theorem ctM_isMissed {w : WT} (hw : w.1 = mLy) {v1 : Int32} {v2 : Int32} {σ : St} {r : Int32} {τ : St} (h : rM_isMissed v1 v2 σ = some (r, τ)) : Ct yX12_isMissed cX12_isMissed 5 (some .boolean) 1 22 w [.ref (wad w 0), .int v1, .int v2] σ (some (.int r)) τ 0 0 :=
  Ct_intro (fun _ => (0, 0)) (by decide) rfl ⟨rfl, Nat.le_refl _⟩ (Nat.le_of_ble_eq_true rfl) (fun X hX hR hwX hg hr => by subst hwX; exact tM_isMissed hX hw hg hR hr v1 v2 σ h)

def rM_undo (σ : St) : Option (Int32 × St) :=
  nm (setI σ 0 0 (0 : Int32)) fun σ_1 => brc (¬ (σ_1.1 0 25) = 0) (nm (setI σ_1 0 25 ((σ_1.1 0 25) - (1 : Int32))) fun σ_2 => bnd1 (rM_copies ((5 : Int32) + (σ_2.1 0 25)) (0 : Int32) (37 : Int32) σ_2) fun σ_3 => chk (decide ((1 : Int32) = 0 ∨ (1 : Int32) = 1)) (some ((1 : Int32), σ_3))) (chk (decide ((0 : Int32) = 0 ∨ (0 : Int32) = 1)) (some ((0 : Int32), σ_1)))
set_option maxRecDepth 100000 in
theorem tM_undo {X : CX} (hX : gd X cX12_undo 1 RX12 (some .boolean)) (hw : (xw X).1 = mLy) (hg : nA X) (hR : xR X = rmOf 1 24 0 0) {r : Int32} {τ : St} (hr : xr X = (some (.int r), τ)) (σ : St) (h : rM_undo σ = some (r, τ)) : Jd X 1 0 [(0, .ref (wad (xw X) 0))] [] σ := by
  unfold rM_undo at h
  refine J_aload_n (q := 0) hX dX12_undo_0 rfl rfl ?_
  refine J_iconst (v := (0 : Int32)) hX dX12_undo_1 (by decide) ?_
  refine K_puti hX (mc_0 hw) cls_X12 (k := 0) (by decide) uw_6_47 rfl rfl rfl dX12_undo_2 h (fun σ_1 h => ?_)
  refine J_aload_n (q := 0) hX dX12_undo_5 rfl rfl ?_
  refine K_geti hX (mc_0 hw) cls_X12 (k := 25) (by decide) uw_6_72 rfl dX12_undo_6 ?_
  refine K_if_ne (tgt := 14) hX dX12_undo_9 rfl h (fun h => ?_) (fun h => ?_)
  · refine J_aload_n (q := 0) hX dX12_undo_14 rfl rfl ?_
    refine J_dup hX dX12_undo_15 rfl ?_
    refine K_geti hX (mc_0 hw) cls_X12 (k := 25) (by decide) uw_6_72 rfl dX12_undo_16 ?_
    refine J_iconst (v := (1 : Int32)) hX dX12_undo_19 (by decide) ?_
    refine J_isub hX dX12_undo_20 ?_
    refine K_puti hX (mc_0 hw) cls_X12 (k := 25) (by decide) uw_6_72 rfl rfl rfl dX12_undo_21 h (fun σ_2 h => ?_)
    refine J_aload_n (q := 0) hX dX12_undo_24 rfl rfl ?_
    refine J_iconst (v := (5 : Int32)) hX dX12_undo_25 (by decide) ?_
    refine J_aload_n (q := 0) hX dX12_undo_26 rfl rfl ?_
    refine K_geti hX (mc_0 hw) cls_X12 (k := 25) (by decide) uw_6_72 rfl dX12_undo_27 ?_
    refine J_iadd hX dX12_undo_30 ?_
    refine J_iconst (v := (0 : Int32)) hX dX12_undo_31 (by decide) ?_
    refine J_bipush (v := (37 : Int32)) hX dX12_undo_32 (by decide) ?_
    obtain ⟨σ_3, hc_4, h⟩ := bnd1_some h
    refine K_callV [.int ((5 : Int32) + (σ_2.1 0 25)), .int (0 : Int32), .int (37 : Int32)] hX hg hR (ctM_copies hw hc_4) lk_X12_305_X12_copies md_X12_copies (mc_0 hw) cls_X12 ⟨by decide, by decide⟩ rfl rfl (Nat.le_of_ble_eq_true rfl) dX12_undo_34 ?_
    refine J_iconst (v := (1 : Int32)) hX dX12_undo_37 (by decide) ?_
    exact K_zret hX hr dX12_undo_38 h
  · refine J_iconst (v := (0 : Int32)) hX dX12_undo_12 (by decide) ?_
    exact K_zret hX hr dX12_undo_13 h
theorem ctM_undo {w : WT} (hw : w.1 = mLy) {σ : St} {r : Int32} {τ : St} (h : rM_undo σ = some (r, τ)) : Ct yX12_undo cX12_undo 1 (some .boolean) 1 24 w [.ref (wad w 0)] σ (some (.int r)) τ 0 0 :=
  Ct_intro (fun _ => (0, 0)) (by decide) rfl ⟨rfl, Nat.le_refl _⟩ (Nat.le_of_ble_eq_true rfl) (fun X hX hR hwX hg hr => by subst hwX; exact tM_undo hX hw hg hR hr  σ h)

def rM_mark_27 (σ : St) : Option (Int32 × St) :=
  chk (decide ((0 : Int32) = 0 ∨ (0 : Int32) = 1)) (some ((0 : Int32), σ))
set_option maxRecDepth 100000 in
theorem tM_mark_27 {X : CX} (hX : gd X cX12_mark 3 RX12 (some .boolean)) (hw : (xw X).1 = mLy) (hg : nA X) (hR : xR X = rmOf 1 24 0 0) {r : Int32} {τ : St} (hr : xr X = (some (.int r), τ)) (σ : St) (h : rM_mark_27 σ = some (r, τ)) : Jd X 3 27 [] [] σ := by
  unfold rM_mark_27 at h
  refine J_iconst (v := (0 : Int32)) hX dX12_mark_27 (by decide) ?_
  exact K_zret hX hr dX12_mark_28 h

def rM_mark_70 (σ : St) : Option (Int32 × St) :=
  chk (decide ((1 : Int32) = 0 ∨ (1 : Int32) = 1)) (some ((1 : Int32), σ))
set_option maxRecDepth 100000 in
theorem tM_mark_70 {X : CX} (hX : gd X cX12_mark 3 RX12 (some .boolean)) (hw : (xw X).1 = mLy) (hg : nA X) (hR : xR X = rmOf 1 24 0 0) {r : Int32} {τ : St} (hr : xr X = (some (.int r), τ)) (σ : St) (h : rM_mark_70 σ = some (r, τ)) : Jd X 3 70 [] [] σ := by
  unfold rM_mark_70 at h
  refine J_iconst (v := (1 : Int32)) hX dX12_mark_70 (by decide) ?_
  exact K_zret hX hr dX12_mark_71 h

def rM_mark_29 (v1 : Int32) (v2 : Int32) (σ : St) : Option (Int32 × St) :=
  brc (v2 = 0) (chk (ib v1 4) (nm (setI σ 17 v1.toNatClampNeg (vp_nar .boolean (1 : Int32))) fun σ_5 => bnd1 (rM_copies (0 : Int32) ((1 : Int32) + v1) (240 : Int32) σ_5) fun σ_6 => rM_mark_70 σ_6)) (bnd1 (rM_copies ((1 : Int32) + v1) (0 : Int32) (240 : Int32) σ) fun σ_8 => nm (setI σ_8 0 25 (0 : Int32)) fun σ_10 => rM_mark_70 σ_10)
set_option maxRecDepth 100000 in
theorem tM_mark_29 {X : CX} (hX : gd X cX12_mark 3 RX12 (some .boolean)) (hw : (xw X).1 = mLy) (hg : nA X) (hR : xR X = rmOf 1 24 0 0) {r : Int32} {τ : St} (hr : xr X = (some (.int r), τ)) (v1 : Int32) (v2 : Int32) (σ : St) (h : rM_mark_29 v1 v2 σ = some (r, τ)) : Jd X 3 29 [(0, .ref (wad (xw X) 0)), (1, .int v1), (2, .int v2)] [] σ := by
  unfold rM_mark_29 at h
  refine J_iload_n (q := 2) hX dX12_mark_29 rfl rfl ?_
  refine K_if_eq (tgt := 52) hX dX12_mark_30 rfl h (fun h => ?_) (fun h => ?_)
  · refine J_aload_n (q := 0) hX dX12_mark_52 rfl rfl ?_
    refine K_getc 17 hX (mc_0 hw) cls_X12 (k := 26) (by decide) uw_6_73 rfl dX12_mark_53 ?_
    refine J_iload_n (q := 1) hX dX12_mark_56 rfl rfl ?_
    refine J_iconst (v := (1 : Int32)) hX dX12_mark_57 (by decide) ?_
    refine K_zast hX (mc_17 hw) dX12_mark_58 h (fun σ_5 h => ?_)
    refine J_aload_n (q := 0) hX dX12_mark_59 rfl rfl ?_
    refine J_iconst (v := (0 : Int32)) hX dX12_mark_60 (by decide) ?_
    refine J_iconst (v := (1 : Int32)) hX dX12_mark_61 (by decide) ?_
    refine J_iload_n (q := 1) hX dX12_mark_62 rfl rfl ?_
    refine J_iadd hX dX12_mark_63 ?_
    refine J_sipush (v := (240 : Int32)) hX dX12_mark_64 (by decide) ?_
    obtain ⟨σ_6, hc_7, h⟩ := bnd1_some h
    refine K_callV [.int (0 : Int32), .int ((1 : Int32) + v1), .int (240 : Int32)] hX hg hR (ctM_copies hw hc_7) lk_X12_305_X12_copies md_X12_copies (mc_0 hw) cls_X12 ⟨by decide, by decide⟩ rfl rfl (Nat.le_of_ble_eq_true rfl) dX12_mark_67 ?_
    refine J_sub [] rfl ?_
    exact tM_mark_70 hX hw hg hR hr σ_6 h
  · refine J_aload_n (q := 0) hX dX12_mark_33 rfl rfl ?_
    refine J_iconst (v := (1 : Int32)) hX dX12_mark_34 (by decide) ?_
    refine J_iload_n (q := 1) hX dX12_mark_35 rfl rfl ?_
    refine J_iadd hX dX12_mark_36 ?_
    refine J_iconst (v := (0 : Int32)) hX dX12_mark_37 (by decide) ?_
    refine J_sipush (v := (240 : Int32)) hX dX12_mark_38 (by decide) ?_
    obtain ⟨σ_8, hc_9, h⟩ := bnd1_some h
    refine K_callV [.int ((1 : Int32) + v1), .int (0 : Int32), .int (240 : Int32)] hX hg hR (ctM_copies hw hc_9) lk_X12_305_X12_copies md_X12_copies (mc_0 hw) cls_X12 ⟨by decide, by decide⟩ rfl rfl (Nat.le_of_ble_eq_true rfl) dX12_mark_41 ?_
    refine J_aload_n (q := 0) hX dX12_mark_44 rfl rfl ?_
    refine J_iconst (v := (0 : Int32)) hX dX12_mark_45 (by decide) ?_
    refine K_puti hX (mc_0 hw) cls_X12 (k := 25) (by decide) uw_6_72 rfl rfl rfl dX12_mark_46 h (fun σ_10 h => ?_)
    refine J_goto (tgt := 70) hX dX12_mark_49 rfl ?_
    refine J_sub [] rfl ?_
    exact tM_mark_70 hX hw hg hR hr σ_10 h

def rM_mark (v1 : Int32) (v2 : Int32) (σ : St) : Option (Int32 × St) :=
  nm (setI σ 0 0 (0 : Int32)) fun σ_1 => bnd2 (rM_within v1 (0 : Int32) (3 : Int32) σ_1) fun r_4 σ_2 => brc (r_4 = 0) (rM_mark_27 σ_2) (brc (v2 = 0) (rM_mark_29 v1 v2 σ_2) (chk (ib v1 4) (brc (¬ (σ_2.1 17 v1.toNatClampNeg) = 0) (rM_mark_29 v1 v2 σ_2) (rM_mark_27 σ_2))))
set_option maxRecDepth 100000 in
theorem tM_mark {X : CX} (hX : gd X cX12_mark 3 RX12 (some .boolean)) (hw : (xw X).1 = mLy) (hg : nA X) (hR : xR X = rmOf 1 24 0 0) {r : Int32} {τ : St} (hr : xr X = (some (.int r), τ)) (v1 : Int32) (v2 : Int32) (σ : St) (h : rM_mark v1 v2 σ = some (r, τ)) : Jd X 3 0 [(0, .ref (wad (xw X) 0)), (1, .int v1), (2, .int v2)] [] σ := by
  unfold rM_mark at h
  refine J_aload_n (q := 0) hX dX12_mark_0 rfl rfl ?_
  refine J_iconst (v := (0 : Int32)) hX dX12_mark_1 (by decide) ?_
  refine K_puti hX (mc_0 hw) cls_X12 (k := 0) (by decide) uw_6_47 rfl rfl rfl dX12_mark_2 h (fun σ_1 h => ?_)
  refine J_iload_n (q := 1) hX dX12_mark_5 rfl rfl ?_
  refine J_iconst (v := (0 : Int32)) hX dX12_mark_6 (by decide) ?_
  refine J_iconst (v := (3 : Int32)) hX dX12_mark_7 (by decide) ?_
  obtain ⟨r_4, σ_2, hc_3, h⟩ := bnd2_some h
  refine K_callS [.int v1, .int (0 : Int32), .int (3 : Int32)] hX hg hR (ctM_within hw hc_3) lk_X12_372_X12_within md_X12_within ⟨by decide, by decide⟩ rfl rfl (Nat.le_of_ble_eq_true rfl) dX12_mark_8 ?_
  refine K_if_eq (tgt := 27) hX dX12_mark_11 rfl h (fun h => ?_) (fun h => ?_)
  · refine J_sub [] rfl ?_
    exact tM_mark_27 hX hw hg hR hr σ_2 h
  · refine J_iload_n (q := 2) hX dX12_mark_14 rfl rfl ?_
    refine K_if_eq (tgt := 29) hX dX12_mark_15 rfl h (fun h => ?_) (fun h => ?_)
    · refine J_sub [0, 1, 2] rfl ?_
      exact tM_mark_29 hX hw hg hR hr v1 v2 σ_2 h
    · refine J_aload_n (q := 0) hX dX12_mark_18 rfl rfl ?_
      refine K_getc 17 hX (mc_0 hw) cls_X12 (k := 26) (by decide) uw_6_73 rfl dX12_mark_19 ?_
      refine J_iload_n (q := 1) hX dX12_mark_22 rfl rfl ?_
      refine K_zald hX (mc_17 hw) dX12_mark_23 h (fun h => ?_)
      refine K_if_ne (tgt := 29) hX dX12_mark_24 rfl h (fun h => ?_) (fun h => ?_)
      · refine J_sub [0, 1, 2] rfl ?_
        exact tM_mark_29 hX hw hg hR hr v1 v2 σ_2 h
      · refine J_sub [] rfl ?_
        exact tM_mark_27 hX hw hg hR hr σ_2 h
theorem ctM_mark {w : WT} (hw : w.1 = mLy) {v1 : Int32} {v2 : Int32} {σ : St} {r : Int32} {τ : St} (h : rM_mark v1 v2 σ = some (r, τ)) : Ct yX12_mark cX12_mark 3 (some .boolean) 1 24 w [.ref (wad w 0), .int v1, .int v2] σ (some (.int r)) τ 0 0 :=
  Ct_intro (fun _ => (0, 0)) (by decide) rfl ⟨rfl, Nat.le_refl _⟩ (Nat.le_of_ble_eq_true rfl) (fun X hX hR hwX hg hr => by subst hwX; exact tM_mark hX hw hg hR hr v1 v2 σ h)

def rM_count (v1 : Int32) (σ : St) : Option (Int32 × St) :=
  nm (setI σ 0 0 (0 : Int32)) fun σ_1 => brc ((v1).toInt = 0) (bnd2 (rM_stations σ_1) fun r_4 σ_2 => some (r_4, σ_2)) (brc ((v1).toInt = 1) (chk (ib (1 : Int32) 320) (some (σ_1.1 6 (1 : Int32).toNatClampNeg, σ_1))) (brc ((v1).toInt = 2) (bnd2 (rM_carriers σ_1) fun r_9 σ_7 => some (r_9, σ_7)) (brc ((v1).toInt = 3) (chk (ib (38 : Int32) 6000) (some (σ_1.1 16 (38 : Int32).toNatClampNeg, σ_1))) (brc ((v1).toInt = 4) (chk (ib (39 : Int32) 6000) (some (σ_1.1 16 (39 : Int32).toNatClampNeg, σ_1))) (brc ((v1).toInt = 5) (chk (ib (5 : Int32) 320) (some (σ_1.1 6 (5 : Int32).toNatClampNeg, σ_1))) (brc ((v1).toInt = 6) (chk (ib (42 : Int32) 6000) (some (σ_1.1 16 (42 : Int32).toNatClampNeg, σ_1))) (brc ((v1).toInt = 7) (some (σ_1.1 0 25, σ_1)) (brc ((v1).toInt = 8) (some (σ_1.1 0 2, σ_1)) (some ((-1 : Int32), σ_1))))))))))
set_option maxRecDepth 100000 in
theorem tM_count {X : CX} (hX : gd X cX12_count 2 RX12 (some .int)) (hw : (xw X).1 = mLy) (hg : nA X) (hR : xR X = rmOf 1 20 0 0) {r : Int32} {τ : St} (hr : xr X = (some (.int r), τ)) (v1 : Int32) (σ : St) (h : rM_count v1 σ = some (r, τ)) : Jd X 2 0 [(0, .ref (wad (xw X) 0)), (1, .int v1)] [] σ := by
  unfold rM_count at h
  refine J_aload_n (q := 0) hX dX12_count_0 rfl rfl ?_
  refine J_iconst (v := (0 : Int32)) hX dX12_count_1 (by decide) ?_
  refine K_puti hX (mc_0 hw) cls_X12 (k := 0) (by decide) uw_6_47 rfl rfl rfl dX12_count_2 h (fun σ_1 h => ?_)
  refine J_iload_n (q := 1) hX dX12_count_5 rfl rfl ?_
  rcases brc_some h with ⟨hc, h⟩ | ⟨hn_5, h⟩
  · refine K_tabIn (v := 0) (tgt := 56) hX dX12_count_6 hc (by decide) (by decide) rfl rfl ?_
    refine J_aload_n (q := 0) hX dX12_count_56 rfl rfl ?_
    obtain ⟨r_4, σ_2, hc_3, h⟩ := bnd2_some h
    refine K_callV [] hX hg hR (ctM_stations hw hc_3) lk_X12_309_X12_stations md_X12_stations (mc_0 hw) cls_X12 ⟨by decide, by decide⟩ rfl rfl (Nat.le_of_ble_eq_true rfl) dX12_count_57 ?_
    exact K_iret hX hr dX12_count_60 h
  rcases brc_some h with ⟨hc, h⟩ | ⟨hn_6, h⟩
  · refine K_tabIn (v := 1) (tgt := 61) hX dX12_count_6 hc (by decide) (by decide) rfl rfl ?_
    refine J_aload_n (q := 0) hX dX12_count_61 rfl rfl ?_
    refine K_getc 6 hX (mc_0 hw) cls_X12 (k := 10) (by decide) uw_6_57 rfl dX12_count_62 ?_
    refine J_iconst (v := (1 : Int32)) hX dX12_count_65 (by decide) ?_
    refine K_iald hX (mc_6 hw) dX12_count_66 h (fun h => ?_)
    exact K_iret hX hr dX12_count_67 h
  rcases brc_some h with ⟨hc, h⟩ | ⟨hn_10, h⟩
  · refine K_tabIn (v := 2) (tgt := 68) hX dX12_count_6 hc (by decide) (by decide) rfl rfl ?_
    refine J_aload_n (q := 0) hX dX12_count_68 rfl rfl ?_
    obtain ⟨r_9, σ_7, hc_8, h⟩ := bnd2_some h
    refine K_callV [] hX hg hR (ctM_carriers hw hc_8) lk_X12_312_X12_carriers md_X12_carriers (mc_0 hw) cls_X12 ⟨by decide, by decide⟩ rfl rfl (Nat.le_of_ble_eq_true rfl) dX12_count_69 ?_
    exact K_iret hX hr dX12_count_72 h
  rcases brc_some h with ⟨hc, h⟩ | ⟨hn_11, h⟩
  · refine K_tabIn (v := 3) (tgt := 73) hX dX12_count_6 hc (by decide) (by decide) rfl rfl ?_
    refine J_aload_n (q := 0) hX dX12_count_73 rfl rfl ?_
    refine K_getc 16 hX (mc_0 hw) cls_X12 (k := 24) (by decide) uw_6_71 rfl dX12_count_74 ?_
    refine J_bipush (v := (38 : Int32)) hX dX12_count_77 (by decide) ?_
    refine K_iald hX (mc_16 hw) dX12_count_79 h (fun h => ?_)
    exact K_iret hX hr dX12_count_80 h
  rcases brc_some h with ⟨hc, h⟩ | ⟨hn_12, h⟩
  · refine K_tabIn (v := 4) (tgt := 81) hX dX12_count_6 hc (by decide) (by decide) rfl rfl ?_
    refine J_aload_n (q := 0) hX dX12_count_81 rfl rfl ?_
    refine K_getc 16 hX (mc_0 hw) cls_X12 (k := 24) (by decide) uw_6_71 rfl dX12_count_82 ?_
    refine J_bipush (v := (39 : Int32)) hX dX12_count_85 (by decide) ?_
    refine K_iald hX (mc_16 hw) dX12_count_87 h (fun h => ?_)
    exact K_iret hX hr dX12_count_88 h
  rcases brc_some h with ⟨hc, h⟩ | ⟨hn_13, h⟩
  · refine K_tabIn (v := 5) (tgt := 89) hX dX12_count_6 hc (by decide) (by decide) rfl rfl ?_
    refine J_aload_n (q := 0) hX dX12_count_89 rfl rfl ?_
    refine K_getc 6 hX (mc_0 hw) cls_X12 (k := 10) (by decide) uw_6_57 rfl dX12_count_90 ?_
    refine J_iconst (v := (5 : Int32)) hX dX12_count_93 (by decide) ?_
    refine K_iald hX (mc_6 hw) dX12_count_94 h (fun h => ?_)
    exact K_iret hX hr dX12_count_95 h
  rcases brc_some h with ⟨hc, h⟩ | ⟨hn_14, h⟩
  · refine K_tabIn (v := 6) (tgt := 96) hX dX12_count_6 hc (by decide) (by decide) rfl rfl ?_
    refine J_aload_n (q := 0) hX dX12_count_96 rfl rfl ?_
    refine K_getc 16 hX (mc_0 hw) cls_X12 (k := 24) (by decide) uw_6_71 rfl dX12_count_97 ?_
    refine J_bipush (v := (42 : Int32)) hX dX12_count_100 (by decide) ?_
    refine K_iald hX (mc_16 hw) dX12_count_102 h (fun h => ?_)
    exact K_iret hX hr dX12_count_103 h
  rcases brc_some h with ⟨hc, h⟩ | ⟨hn_15, h⟩
  · refine K_tabIn (v := 7) (tgt := 104) hX dX12_count_6 hc (by decide) (by decide) rfl rfl ?_
    refine J_aload_n (q := 0) hX dX12_count_104 rfl rfl ?_
    refine K_geti hX (mc_0 hw) cls_X12 (k := 25) (by decide) uw_6_72 rfl dX12_count_105 ?_
    exact K_iret hX hr dX12_count_108 h
  rcases brc_some h with ⟨hc, h⟩ | ⟨hn_16, h⟩
  · refine K_tabIn (v := 8) (tgt := 109) hX dX12_count_6 hc (by decide) (by decide) rfl rfl ?_
    refine J_aload_n (q := 0) hX dX12_count_109 rfl rfl ?_
    refine K_geti hX (mc_0 hw) cls_X12 (k := 2) (by decide) uw_6_49 rfl dX12_count_110 ?_
    exact K_iret hX hr dX12_count_113 h
  refine K_tabOut (tgt := 114) hX dX12_count_6 (by omega) rfl ?_
  refine J_iconst (v := (-1 : Int32)) hX dX12_count_114 (by decide) ?_
  exact K_iret hX hr dX12_count_115 h
theorem ctM_count {w : WT} (hw : w.1 = mLy) {v1 : Int32} {σ : St} {r : Int32} {τ : St} (h : rM_count v1 σ = some (r, τ)) : Ct yX12_count cX12_count 2 (some .int) 1 20 w [.ref (wad w 0), .int v1] σ (some (.int r)) τ 0 0 :=
  Ct_intro (fun _ => (0, 0)) (by decide) rfl ⟨rfl, Nat.le_refl _⟩ (Nat.le_of_ble_eq_true rfl) (fun X hX hR hwX hg hr => by subst hwX; exact tM_count hX hw hg hR hr v1 σ h)

def rM_cutAll_44 (k17 : Int32 → Int32 → St → Option (St)) (v1 : Int32) (v2 : Int32) (σ : St) : Option (St) :=
  nm (v2 + Int32.ofInt 1) fun v2_10 => k17 v1 v2_10 σ
set_option maxRecDepth 100000 in
theorem tM_cutAll_44 {X : CX} (hX : gd X cX12_cutAll 7 RX12 none) (hw : (xw X).1 = mLy) (hg : nA X) (hR : xR X = rmOf 2 40 0 0) {τ : St} (hr : xr X = (none, τ)) {k17 : Int32 → Int32 → St → Option (St)} (hk17 : (∀ (v1 : Int32) (v2 : Int32) (σ : St), k17 v1 v2 σ = some τ → Jd X 7 17 [(0, .ref (wad (xw X) 0)), (1, .int v1), (2, .int v2)] [] σ)) (v1 : Int32) (v2 : Int32) (σ : St) (h : rM_cutAll_44 k17 v1 v2 σ = some τ) : Jd X 7 44 [(0, .ref (wad (xw X) 0)), (1, .int v1), (2, .int v2)] [] σ := by
  unfold rM_cutAll_44 at h
  refine K_iinc (q := 2) (fun v2_10 => [(2, .int v2_10), (0, .ref (wad (xw X) 0)), (1, .int v1)]) hX dX12_cutAll_44 rfl (by decide) (fun _ => rfl) h (fun v2_10 h => ?_)
  refine J_goto (tgt := 17) hX dX12_cutAll_47 rfl ?_
  refine J_sub [1, 2, 0] rfl ?_
  exact hk17 v1 v2_10 σ h

def rM_cutAll_265 (k17 : Int32 → Int32 → St → Option (St)) (v1 : Int32) (v2 : Int32) (v5 : Int64) (σ : St) : Option (St) :=
  chk (ib v1 1002) (nm (setJ σ 4 v1.toNatClampNeg v5) fun σ_26 => nm (v1 + Int32.ofInt 1) fun v1_27 => k17 v1_27 v2 σ_26)
set_option maxRecDepth 100000 in
theorem tM_cutAll_265 {X : CX} (hX : gd X cX12_cutAll 7 RX12 none) (hw : (xw X).1 = mLy) (hg : nA X) (hR : xR X = rmOf 2 40 0 0) {τ : St} (hr : xr X = (none, τ)) {k17 : Int32 → Int32 → St → Option (St)} (hk17 : (∀ (v1 : Int32) (v2 : Int32) (σ : St), k17 v1 v2 σ = some τ → Jd X 7 17 [(0, .ref (wad (xw X) 0)), (1, .int v1), (2, .int v2)] [] σ)) (v1 : Int32) (v2 : Int32) (v5 : Int64) (σ : St) (h : rM_cutAll_265 k17 v1 v2 v5 σ = some τ) : Jd X 7 265 [(0, .ref (wad (xw X) 0)), (1, .int v1), (2, .int v2), (5, .long v5)] [] σ := by
  unfold rM_cutAll_265 at h
  refine J_aload_n (q := 0) hX dX12_cutAll_265 rfl rfl ?_
  refine K_getc 4 hX (mc_0 hw) cls_X12 (k := 6) (by decide) uw_6_53 rfl dX12_cutAll_266 ?_
  refine J_iload_n (q := 1) hX dX12_cutAll_269 rfl rfl ?_
  refine J_lload (q := 3) hX dX12_cutAll_270 rfl ?_
  refine K_last hX (mc_4 hw) dX12_cutAll_272 h (fun σ_26 h => ?_)
  refine K_iinc (q := 1) (fun v1_27 => [(1, .int v1_27), (0, .ref (wad (xw X) 0)), (2, .int v2), (5, .long v5)]) hX dX12_cutAll_273 rfl (by decide) (fun _ => rfl) h (fun v1_27 h => ?_)
  refine J_goto (tgt := 17) hX dX12_cutAll_276 rfl ?_
  refine J_sub [1, 0, 2] rfl ?_
  exact hk17 v1_27 v2 σ_26 h

def rM_cutAll_261 (k17 : Int32 → Int32 → St → Option (St)) (v1 : Int32) (v2 : Int32) (v5 : Int64) (s0 : Int32) (s1 : Int32) (σ : St) : Option (St) :=
  chk (ib s1 1002) (nm (setI σ 2 s1.toNatClampNeg s0) fun σ_24 => nm (v2 + Int32.ofInt 1) fun v2_25 => rM_cutAll_265 k17 v1 v2_25 v5 σ_24)
set_option maxRecDepth 100000 in
theorem tM_cutAll_261 {X : CX} (hX : gd X cX12_cutAll 7 RX12 none) (hw : (xw X).1 = mLy) (hg : nA X) (hR : xR X = rmOf 2 40 0 0) {τ : St} (hr : xr X = (none, τ)) {k17 : Int32 → Int32 → St → Option (St)} (hk17 : (∀ (v1 : Int32) (v2 : Int32) (σ : St), k17 v1 v2 σ = some τ → Jd X 7 17 [(0, .ref (wad (xw X) 0)), (1, .int v1), (2, .int v2)] [] σ)) (v1 : Int32) (v2 : Int32) (v5 : Int64) (s0 : Int32) (s1 : Int32) (σ : St) (h : rM_cutAll_261 k17 v1 v2 v5 s0 s1 σ = some τ) : Jd X 7 261 [(0, .ref (wad (xw X) 0)), (1, .int v1), (2, .int v2), (5, .long v5)] [.int s0, .int s1, .ref (wad (xw X) 2)] σ := by
  unfold rM_cutAll_261 at h
  refine K_iast hX (mc_2 hw) dX12_cutAll_261 h (fun σ_24 h => ?_)
  refine K_iinc (q := 2) (fun v2_25 => [(2, .int v2_25), (0, .ref (wad (xw X) 0)), (1, .int v1), (5, .long v5)]) hX dX12_cutAll_262 rfl (by decide) (fun _ => rfl) h (fun v2_25 h => ?_)
  refine J_sub [1, 2, 0, 3] rfl ?_
  exact tM_cutAll_265 hX hw hg hR hr hk17 v1 v2_25 v5 σ_24 h

def rM_cutAll_236 (k17 : Int32 → Int32 → St → Option (St)) (v1 : Int32) (v2 : Int32) (v5 : Int64) (s0 : Int32) (s1 : Int32) (σ : St) : Option (St) :=
  chk (ib s1 1002) (nm (setI σ 2 s1.toNatClampNeg s0) fun σ_28 => rM_cutAll_265 k17 v1 v2 v5 σ_28)
set_option maxRecDepth 100000 in
theorem tM_cutAll_236 {X : CX} (hX : gd X cX12_cutAll 7 RX12 none) (hw : (xw X).1 = mLy) (hg : nA X) (hR : xR X = rmOf 2 40 0 0) {τ : St} (hr : xr X = (none, τ)) {k17 : Int32 → Int32 → St → Option (St)} (hk17 : (∀ (v1 : Int32) (v2 : Int32) (σ : St), k17 v1 v2 σ = some τ → Jd X 7 17 [(0, .ref (wad (xw X) 0)), (1, .int v1), (2, .int v2)] [] σ)) (v1 : Int32) (v2 : Int32) (v5 : Int64) (s0 : Int32) (s1 : Int32) (σ : St) (h : rM_cutAll_236 k17 v1 v2 v5 s0 s1 σ = some τ) : Jd X 7 236 [(0, .ref (wad (xw X) 0)), (1, .int v1), (2, .int v2), (5, .long v5)] [.int s0, .int s1, .ref (wad (xw X) 2)] σ := by
  unfold rM_cutAll_236 at h
  refine K_iast hX (mc_2 hw) dX12_cutAll_236 h (fun σ_28 h => ?_)
  refine J_goto (tgt := 265) hX dX12_cutAll_237 rfl ?_
  refine J_sub [0, 1, 2, 3] rfl ?_
  exact tM_cutAll_265 hX hw hg hR hr hk17 v1 v2 v5 σ_28 h

def rM_cutAll_218 (k17 : Int32 → Int32 → St → Option (St)) (v1 : Int32) (v2 : Int32) (v4 : Int32) (v5 : Int64) (σ : St) : Option (St) :=
  brc ((v2 - v4) ≤ (4 : Int32)) (rM_cutAll_236 k17 v1 v2 v5 (2 : Int32) v1 σ) (rM_cutAll_236 k17 v1 v2 v5 (4 : Int32) v1 σ)
set_option maxRecDepth 100000 in
theorem tM_cutAll_218 {X : CX} (hX : gd X cX12_cutAll 7 RX12 none) (hw : (xw X).1 = mLy) (hg : nA X) (hR : xR X = rmOf 2 40 0 0) {τ : St} (hr : xr X = (none, τ)) {k17 : Int32 → Int32 → St → Option (St)} (hk17 : (∀ (v1 : Int32) (v2 : Int32) (σ : St), k17 v1 v2 σ = some τ → Jd X 7 17 [(0, .ref (wad (xw X) 0)), (1, .int v1), (2, .int v2)] [] σ)) (v1 : Int32) (v2 : Int32) (v4 : Int32) (v5 : Int64) (σ : St) (h : rM_cutAll_218 k17 v1 v2 v4 v5 σ = some τ) : Jd X 7 218 [(0, .ref (wad (xw X) 0)), (1, .int v1), (2, .int v2), (4, .int v4), (5, .long v5)] [] σ := by
  unfold rM_cutAll_218 at h
  refine J_aload_n (q := 0) hX dX12_cutAll_218 rfl rfl ?_
  refine K_getc 2 hX (mc_0 hw) cls_X12 (k := 4) (by decide) uw_6_51 rfl dX12_cutAll_219 ?_
  refine J_iload_n (q := 1) hX dX12_cutAll_222 rfl rfl ?_
  refine J_iload_n (q := 2) hX dX12_cutAll_223 rfl rfl ?_
  refine J_iload (q := 3) hX dX12_cutAll_224 rfl ?_
  refine J_isub hX dX12_cutAll_226 ?_
  refine J_iconst (v := (4 : Int32)) hX dX12_cutAll_227 (by decide) ?_
  refine K_icmp_le (tgt := 235) hX dX12_cutAll_228 rfl h (fun h => ?_) (fun h => ?_)
  · refine J_iconst (v := (2 : Int32)) hX dX12_cutAll_235 (by decide) ?_
    refine J_sub [0, 1, 2, 4] rfl ?_
    exact tM_cutAll_236 hX hw hg hR hr hk17 v1 v2 v5 (2 : Int32) v1 σ h
  · refine J_iconst (v := (4 : Int32)) hX dX12_cutAll_231 (by decide) ?_
    refine J_goto (tgt := 236) hX dX12_cutAll_232 rfl ?_
    refine J_sub [0, 1, 2, 4] rfl ?_
    exact tM_cutAll_236 hX hw hg hR hr hk17 v1 v2 v5 (4 : Int32) v1 σ h

def rM_cutAll_210 (k17 : Int32 → Int32 → St → Option (St)) (k159 : Int32 → Int32 → Int32 → Int64 → St → Option (St)) (v1 : Int32) (v2 : Int32) (v4 : Int32) (s0 : Int64) (σ : St) : Option (St) :=
  nm s0 fun v5_32 => nm (v2 + Int32.ofInt 1) fun v2_33 => k159 v1 v2_33 v4 v5_32 σ
set_option maxRecDepth 100000 in
theorem tM_cutAll_210 {X : CX} (hX : gd X cX12_cutAll 7 RX12 none) (hw : (xw X).1 = mLy) (hg : nA X) (hR : xR X = rmOf 2 40 0 0) {τ : St} (hr : xr X = (none, τ)) {k17 : Int32 → Int32 → St → Option (St)} (hk17 : (∀ (v1 : Int32) (v2 : Int32) (σ : St), k17 v1 v2 σ = some τ → Jd X 7 17 [(0, .ref (wad (xw X) 0)), (1, .int v1), (2, .int v2)] [] σ)) {k159 : Int32 → Int32 → Int32 → Int64 → St → Option (St)} (hk159 : (∀ (v1 : Int32) (v2 : Int32) (v4 : Int32) (v5 : Int64) (σ : St), k159 v1 v2 v4 v5 σ = some τ → Jd X 7 159 [(0, .ref (wad (xw X) 0)), (1, .int v1), (2, .int v2), (4, .int v4), (5, .long v5)] [] σ)) (v1 : Int32) (v2 : Int32) (v4 : Int32) (s0 : Int64) (σ : St) (h : rM_cutAll_210 k17 k159 v1 v2 v4 s0 σ = some τ) : Jd X 7 210 [(0, .ref (wad (xw X) 0)), (1, .int v1), (2, .int v2), (4, .int v4)] [.long s0] σ := by
  unfold rM_cutAll_210 at h
  refine K_lstore (fun v5_32 => [(5, .long v5_32), (0, .ref (wad (xw X) 0)), (1, .int v1), (2, .int v2), (4, .int v4)]) hX dX12_cutAll_210 (by decide) (fun _ => rfl) h (fun v5_32 h => ?_)
  refine K_iinc (q := 3) (fun v2_33 => [(2, .int v2_33), (5, .long v5_32), (0, .ref (wad (xw X) 0)), (1, .int v1), (4, .int v4)]) hX dX12_cutAll_212 rfl (by decide) (fun _ => rfl) h (fun v2_33 h => ?_)
  refine J_goto (tgt := 159) hX dX12_cutAll_215 rfl ?_
  refine J_sub [2, 3, 0, 4, 1] rfl ?_
  exact hk159 v1 v2_33 v4 v5_32 σ h

def rM_cutAll_159 (k17 : Int32 → Int32 → St → Option (St)) (k159 : Int32 → Int32 → Int32 → Int64 → St → Option (St)) (v1 : Int32) (v2 : Int32) (v4 : Int32) (v5 : Int64) (σ : St) : Option (St) :=
  brc ((σ.1 0 3) ≤ v2) (rM_cutAll_218 k17 v1 v2 v4 v5 σ) (chk (ib v2 1000) (bnd2 (rM_isDigit (σ.1 1 v2.toNatClampNeg) σ) fun r_31 σ_29 => brc (r_31 = 0) (rM_cutAll_218 k17 v1 v2 v4 v5 σ_29) (brc ((4 : Int32) ≤ (v2 - v4)) (rM_cutAll_210 k17 k159 v1 v2 v4 v5 σ_29) (chk (ib v2 1000) (rM_cutAll_210 k17 k159 v1 v2 v4 ((((10 : Int64) * v5) + ((σ_29.1 1 v2.toNatClampNeg).toInt64)) - (48 : Int64)) σ_29)))))
set_option maxRecDepth 100000 in
theorem tM_cutAll_159b {X : CX} (hX : gd X cX12_cutAll 7 RX12 none) (hw : (xw X).1 = mLy) (hg : nA X) (hR : xR X = rmOf 2 40 0 0) {τ : St} (hr : xr X = (none, τ)) {k17 : Int32 → Int32 → St → Option (St)} (hk17 : (∀ (v1 : Int32) (v2 : Int32) (σ : St), k17 v1 v2 σ = some τ → Jd X 7 17 [(0, .ref (wad (xw X) 0)), (1, .int v1), (2, .int v2)] [] σ)) {k159 : Int32 → Int32 → Int32 → Int64 → St → Option (St)} (hk159 : (∀ (v1 : Int32) (v2 : Int32) (v4 : Int32) (v5 : Int64) (σ : St), k159 v1 v2 v4 v5 σ = some τ → Jd X 7 159 [(0, .ref (wad (xw X) 0)), (1, .int v1), (2, .int v2), (4, .int v4), (5, .long v5)] [] σ)) (v1 : Int32) (v2 : Int32) (v4 : Int32) (v5 : Int64) (σ : St) (h : rM_cutAll_159 k17 k159 v1 v2 v4 v5 σ = some τ) : Jd X 7 159 [(0, .ref (wad (xw X) 0)), (1, .int v1), (2, .int v2), (4, .int v4), (5, .long v5)] [] σ := by
  unfold rM_cutAll_159 at h
  refine J_iload_n (q := 2) hX dX12_cutAll_159 rfl rfl ?_
  refine J_aload_n (q := 0) hX dX12_cutAll_160 rfl rfl ?_
  refine K_geti hX (mc_0 hw) cls_X12 (k := 3) (by decide) uw_6_50 rfl dX12_cutAll_161 ?_
  refine K_icmp_ge (tgt := 218) hX dX12_cutAll_164 rfl h (fun h => ?_) (fun h => ?_)
  · refine J_sub [0, 1, 2, 3, 4] rfl ?_
    exact tM_cutAll_218 hX hw hg hR hr hk17 v1 v2 v4 v5 σ h
  · refine J_aload_n (q := 0) hX dX12_cutAll_167 rfl rfl ?_
    refine K_getc 1 hX (mc_0 hw) cls_X12 (k := 1) (by decide) uw_6_48 rfl dX12_cutAll_168 ?_
    refine J_iload_n (q := 2) hX dX12_cutAll_171 rfl rfl ?_
    refine K_iald hX (mc_1 hw) dX12_cutAll_172 h (fun h => ?_)
    obtain ⟨r_31, σ_29, hc_30, h⟩ := bnd2_some h
    refine K_callS [.int (σ.1 1 v2.toNatClampNeg)] hX hg hR (ctM_isDigit hw hc_30) lk_X12_178_X12_isDigit md_X12_isDigit ⟨by decide, by decide⟩ rfl rfl (Nat.le_of_ble_eq_true rfl) dX12_cutAll_173 ?_
    refine K_if_eq (tgt := 218) hX dX12_cutAll_176 rfl h (fun h => ?_) (fun h => ?_)
    · refine J_sub [0, 1, 2, 3, 4] rfl ?_
      exact tM_cutAll_218 hX hw hg hR hr hk17 v1 v2 v4 v5 σ_29 h
    · refine J_iload_n (q := 2) hX dX12_cutAll_179 rfl rfl ?_
      refine J_iload (q := 3) hX dX12_cutAll_180 rfl ?_
      refine J_isub hX dX12_cutAll_182 ?_
      refine J_iconst (v := (4 : Int32)) hX dX12_cutAll_183 (by decide) ?_
      refine K_icmp_ge (tgt := 208) hX dX12_cutAll_184 rfl h (fun h => ?_) (fun h => ?_)
      · refine J_lload (q := 4) hX dX12_cutAll_208 rfl ?_
        refine J_sub [0, 1, 2, 3] rfl ?_
        exact tM_cutAll_210 hX hw hg hR hr hk17 hk159 v1 v2 v4 v5 σ_29 h
      · refine K_ldc2 (v := (10 : Int64)) hX uw_6_198 dX12_cutAll_187 ?_
        refine J_lload (q := 4) hX dX12_cutAll_190 rfl ?_
        refine J_lmul hX dX12_cutAll_192 ?_
        refine J_aload_n (q := 0) hX dX12_cutAll_193 rfl rfl ?_
        refine K_getc 1 hX (mc_0 hw) cls_X12 (k := 1) (by decide) uw_6_48 rfl dX12_cutAll_194 ?_
        refine J_iload_n (q := 2) hX dX12_cutAll_197 rfl rfl ?_
        refine K_iald hX (mc_1 hw) dX12_cutAll_198 h (fun h => ?_)
        refine J_i2l hX dX12_cutAll_199 ?_
        refine J_ladd hX dX12_cutAll_200 ?_
        refine K_ldc2 (v := (48 : Int64)) hX uw_6_199 dX12_cutAll_201 ?_
        refine J_lsub hX dX12_cutAll_204 ?_
        refine J_goto (tgt := 210) hX dX12_cutAll_205 rfl ?_
        refine J_sub [0, 1, 2, 3] rfl ?_
        exact tM_cutAll_210 hX hw hg hR hr hk17 hk159 v1 v2 v4 ((((10 : Int64) * v5) + ((σ_29.1 1 v2.toNatClampNeg).toInt64)) - (48 : Int64)) σ_29 h
def rM_cutAll_159L (k17 : Int32 → Int32 → St → Option (St)) : ((Int32 × Int32 × Int32 × Int64 × St) → Option (St)) → (Int32 × Int32 × Int32 × Int64 × St) → Option (St) := fun k a => rM_cutAll_159 k17 (fun v1 v2 v4 v5 σ => k (v1, v2, v4, v5, σ)) a.1 a.2.1 a.2.2.1 a.2.2.2.1 a.2.2.2.2
theorem tM_cutAll_159 {X : CX} (hX : gd X cX12_cutAll 7 RX12 none) (hw : (xw X).1 = mLy) (hg : nA X) (hR : xR X = rmOf 2 40 0 0) {τ : St} (hr : xr X = (none, τ)) {k17 : Int32 → Int32 → St → Option (St)} (hk17 : (∀ (v1 : Int32) (v2 : Int32) (σ : St), k17 v1 v2 σ = some τ → Jd X 7 17 [(0, .ref (wad (xw X) 0)), (1, .int v1), (2, .int v2)] [] σ)) (n : Nat) (v1 : Int32) (v2 : Int32) (v4 : Int32) (v5 : Int64) (σ : St) (h : lp (rM_cutAll_159L k17) n (v1, v2, v4, v5, σ) = some τ) : Jd X 7 159 [(0, .ref (wad (xw X) 0)), (1, .int v1), (2, .int v2), (4, .int v4), (5, .long v5)] [] σ :=
  lp_ind (F := rM_cutAll_159L k17) (P := fun a => Jd X 7 159 [(0, .ref (wad (xw X) 0)), (1, .int a.1), (2, .int a.2.1), (4, .int a.2.2.1), (5, .long a.2.2.2.1)] [] a.2.2.2.2) (fun k a hk h => tM_cutAll_159b hX hw hg hR hr hk17 (fun v1 v2 v4 v5 σ h => hk (v1, v2, v4, v5, σ) h) a.1 a.2.1 a.2.2.1 a.2.2.2.1 a.2.2.2.2 h) n (v1, v2, v4, v5, σ) h

def rM_cutAll_148 (k17 : Int32 → Int32 → St → Option (St)) (v1 : Int32) (v2 : Int32) (v5 : Int64) (s0 : Int32) (s1 : Int32) (σ : St) : Option (St) :=
  chk (ib s1 1002) (nm (setI σ 2 s1.toNatClampNeg s0) fun σ_34 => rM_cutAll_265 k17 v1 v2 v5 σ_34)
set_option maxRecDepth 100000 in
theorem tM_cutAll_148 {X : CX} (hX : gd X cX12_cutAll 7 RX12 none) (hw : (xw X).1 = mLy) (hg : nA X) (hR : xR X = rmOf 2 40 0 0) {τ : St} (hr : xr X = (none, τ)) {k17 : Int32 → Int32 → St → Option (St)} (hk17 : (∀ (v1 : Int32) (v2 : Int32) (σ : St), k17 v1 v2 σ = some τ → Jd X 7 17 [(0, .ref (wad (xw X) 0)), (1, .int v1), (2, .int v2)] [] σ)) (v1 : Int32) (v2 : Int32) (v5 : Int64) (s0 : Int32) (s1 : Int32) (σ : St) (h : rM_cutAll_148 k17 v1 v2 v5 s0 s1 σ = some τ) : Jd X 7 148 [(0, .ref (wad (xw X) 0)), (1, .int v1), (2, .int v2), (5, .long v5)] [.int s0, .int s1, .ref (wad (xw X) 2)] σ := by
  unfold rM_cutAll_148 at h
  refine K_iast hX (mc_2 hw) dX12_cutAll_148 h (fun σ_34 h => ?_)
  refine J_goto (tgt := 265) hX dX12_cutAll_149 rfl ?_
  refine J_sub [0, 1, 2, 3] rfl ?_
  exact tM_cutAll_265 hX hw hg hR hr hk17 v1 v2 v5 σ_34 h

def rM_cutAll_129 (k17 : Int32 → Int32 → St → Option (St)) (v1 : Int32) (v2 : Int32) (v4 : Int32) (v5 : Int64) (σ : St) : Option (St) :=
  brc ((v2 - v4) ≤ (8 : Int32)) (rM_cutAll_148 k17 v1 v2 v5 (1 : Int32) v1 σ) (rM_cutAll_148 k17 v1 v2 v5 (4 : Int32) v1 σ)
set_option maxRecDepth 100000 in
theorem tM_cutAll_129 {X : CX} (hX : gd X cX12_cutAll 7 RX12 none) (hw : (xw X).1 = mLy) (hg : nA X) (hR : xR X = rmOf 2 40 0 0) {τ : St} (hr : xr X = (none, τ)) {k17 : Int32 → Int32 → St → Option (St)} (hk17 : (∀ (v1 : Int32) (v2 : Int32) (σ : St), k17 v1 v2 σ = some τ → Jd X 7 17 [(0, .ref (wad (xw X) 0)), (1, .int v1), (2, .int v2)] [] σ)) (v1 : Int32) (v2 : Int32) (v4 : Int32) (v5 : Int64) (σ : St) (h : rM_cutAll_129 k17 v1 v2 v4 v5 σ = some τ) : Jd X 7 129 [(0, .ref (wad (xw X) 0)), (1, .int v1), (2, .int v2), (4, .int v4), (5, .long v5)] [] σ := by
  unfold rM_cutAll_129 at h
  refine J_aload_n (q := 0) hX dX12_cutAll_129 rfl rfl ?_
  refine K_getc 2 hX (mc_0 hw) cls_X12 (k := 4) (by decide) uw_6_51 rfl dX12_cutAll_130 ?_
  refine J_iload_n (q := 1) hX dX12_cutAll_133 rfl rfl ?_
  refine J_iload_n (q := 2) hX dX12_cutAll_134 rfl rfl ?_
  refine J_iload (q := 3) hX dX12_cutAll_135 rfl ?_
  refine J_isub hX dX12_cutAll_137 ?_
  refine J_bipush (v := (8 : Int32)) hX dX12_cutAll_138 (by decide) ?_
  refine K_icmp_le (tgt := 147) hX dX12_cutAll_140 rfl h (fun h => ?_) (fun h => ?_)
  · refine J_iconst (v := (1 : Int32)) hX dX12_cutAll_147 (by decide) ?_
    refine J_sub [0, 1, 2, 4] rfl ?_
    exact tM_cutAll_148 hX hw hg hR hr hk17 v1 v2 v5 (1 : Int32) v1 σ h
  · refine J_iconst (v := (4 : Int32)) hX dX12_cutAll_143 (by decide) ?_
    refine J_goto (tgt := 148) hX dX12_cutAll_144 rfl ?_
    refine J_sub [0, 1, 2, 4] rfl ?_
    exact tM_cutAll_148 hX hw hg hR hr hk17 v1 v2 v5 (4 : Int32) v1 σ h

def rM_cutAll_121 (k17 : Int32 → Int32 → St → Option (St)) (k70 : Int32 → Int32 → Int32 → Int64 → St → Option (St)) (v1 : Int32) (v2 : Int32) (v4 : Int32) (s0 : Int64) (σ : St) : Option (St) :=
  nm s0 fun v5_38 => nm (v2 + Int32.ofInt 1) fun v2_39 => k70 v1 v2_39 v4 v5_38 σ
set_option maxRecDepth 100000 in
theorem tM_cutAll_121 {X : CX} (hX : gd X cX12_cutAll 7 RX12 none) (hw : (xw X).1 = mLy) (hg : nA X) (hR : xR X = rmOf 2 40 0 0) {τ : St} (hr : xr X = (none, τ)) {k17 : Int32 → Int32 → St → Option (St)} (hk17 : (∀ (v1 : Int32) (v2 : Int32) (σ : St), k17 v1 v2 σ = some τ → Jd X 7 17 [(0, .ref (wad (xw X) 0)), (1, .int v1), (2, .int v2)] [] σ)) {k70 : Int32 → Int32 → Int32 → Int64 → St → Option (St)} (hk70 : (∀ (v1 : Int32) (v2 : Int32) (v4 : Int32) (v5 : Int64) (σ : St), k70 v1 v2 v4 v5 σ = some τ → Jd X 7 70 [(0, .ref (wad (xw X) 0)), (1, .int v1), (2, .int v2), (4, .int v4), (5, .long v5)] [] σ)) (v1 : Int32) (v2 : Int32) (v4 : Int32) (s0 : Int64) (σ : St) (h : rM_cutAll_121 k17 k70 v1 v2 v4 s0 σ = some τ) : Jd X 7 121 [(0, .ref (wad (xw X) 0)), (1, .int v1), (2, .int v2), (4, .int v4)] [.long s0] σ := by
  unfold rM_cutAll_121 at h
  refine K_lstore (fun v5_38 => [(5, .long v5_38), (0, .ref (wad (xw X) 0)), (1, .int v1), (2, .int v2), (4, .int v4)]) hX dX12_cutAll_121 (by decide) (fun _ => rfl) h (fun v5_38 h => ?_)
  refine K_iinc (q := 3) (fun v2_39 => [(2, .int v2_39), (5, .long v5_38), (0, .ref (wad (xw X) 0)), (1, .int v1), (4, .int v4)]) hX dX12_cutAll_123 rfl (by decide) (fun _ => rfl) h (fun v2_39 h => ?_)
  refine J_goto (tgt := 70) hX dX12_cutAll_126 rfl ?_
  refine J_sub [2, 3, 0, 4, 1] rfl ?_
  exact hk70 v1 v2_39 v4 v5_38 σ h

def rM_cutAll_70 (k17 : Int32 → Int32 → St → Option (St)) (k70 : Int32 → Int32 → Int32 → Int64 → St → Option (St)) (v1 : Int32) (v2 : Int32) (v4 : Int32) (v5 : Int64) (σ : St) : Option (St) :=
  brc ((σ.1 0 3) ≤ v2) (rM_cutAll_129 k17 v1 v2 v4 v5 σ) (chk (ib v2 1000) (bnd2 (rM_isLetter (σ.1 1 v2.toNatClampNeg) σ) fun r_37 σ_35 => brc (r_37 = 0) (rM_cutAll_129 k17 v1 v2 v4 v5 σ_35) (brc ((8 : Int32) ≤ (v2 - v4)) (rM_cutAll_121 k17 k70 v1 v2 v4 v5 σ_35) (chk (ib v2 1000) (bnd2 (rM_rank (σ_35.1 1 v2.toNatClampNeg) σ_35) fun r_42 σ_40 => rM_cutAll_121 k17 k70 v1 v2 v4 (((37 : Int64) * v5) + r_42.toInt64) σ_40)))))
set_option maxRecDepth 100000 in
theorem tM_cutAll_70b {X : CX} (hX : gd X cX12_cutAll 7 RX12 none) (hw : (xw X).1 = mLy) (hg : nA X) (hR : xR X = rmOf 2 40 0 0) {τ : St} (hr : xr X = (none, τ)) {k17 : Int32 → Int32 → St → Option (St)} (hk17 : (∀ (v1 : Int32) (v2 : Int32) (σ : St), k17 v1 v2 σ = some τ → Jd X 7 17 [(0, .ref (wad (xw X) 0)), (1, .int v1), (2, .int v2)] [] σ)) {k70 : Int32 → Int32 → Int32 → Int64 → St → Option (St)} (hk70 : (∀ (v1 : Int32) (v2 : Int32) (v4 : Int32) (v5 : Int64) (σ : St), k70 v1 v2 v4 v5 σ = some τ → Jd X 7 70 [(0, .ref (wad (xw X) 0)), (1, .int v1), (2, .int v2), (4, .int v4), (5, .long v5)] [] σ)) (v1 : Int32) (v2 : Int32) (v4 : Int32) (v5 : Int64) (σ : St) (h : rM_cutAll_70 k17 k70 v1 v2 v4 v5 σ = some τ) : Jd X 7 70 [(0, .ref (wad (xw X) 0)), (1, .int v1), (2, .int v2), (4, .int v4), (5, .long v5)] [] σ := by
  unfold rM_cutAll_70 at h
  refine J_iload_n (q := 2) hX dX12_cutAll_70 rfl rfl ?_
  refine J_aload_n (q := 0) hX dX12_cutAll_71 rfl rfl ?_
  refine K_geti hX (mc_0 hw) cls_X12 (k := 3) (by decide) uw_6_50 rfl dX12_cutAll_72 ?_
  refine K_icmp_ge (tgt := 129) hX dX12_cutAll_75 rfl h (fun h => ?_) (fun h => ?_)
  · refine J_sub [0, 1, 2, 3, 4] rfl ?_
    exact tM_cutAll_129 hX hw hg hR hr hk17 v1 v2 v4 v5 σ h
  · refine J_aload_n (q := 0) hX dX12_cutAll_78 rfl rfl ?_
    refine K_getc 1 hX (mc_0 hw) cls_X12 (k := 1) (by decide) uw_6_48 rfl dX12_cutAll_79 ?_
    refine J_iload_n (q := 2) hX dX12_cutAll_82 rfl rfl ?_
    refine K_iald hX (mc_1 hw) dX12_cutAll_83 h (fun h => ?_)
    obtain ⟨r_37, σ_35, hc_36, h⟩ := bnd2_some h
    refine K_callS [.int (σ.1 1 v2.toNatClampNeg)] hX hg hR (ctM_isLetter hw hc_36) lk_X12_165_X12_isLetter md_X12_isLetter ⟨by decide, by decide⟩ rfl rfl (Nat.le_of_ble_eq_true rfl) dX12_cutAll_84 ?_
    refine K_if_eq (tgt := 129) hX dX12_cutAll_87 rfl h (fun h => ?_) (fun h => ?_)
    · refine J_sub [0, 1, 2, 3, 4] rfl ?_
      exact tM_cutAll_129 hX hw hg hR hr hk17 v1 v2 v4 v5 σ_35 h
    · refine J_iload_n (q := 2) hX dX12_cutAll_90 rfl rfl ?_
      refine J_iload (q := 3) hX dX12_cutAll_91 rfl ?_
      refine J_isub hX dX12_cutAll_93 ?_
      refine J_bipush (v := (8 : Int32)) hX dX12_cutAll_94 (by decide) ?_
      refine K_icmp_ge (tgt := 119) hX dX12_cutAll_96 rfl h (fun h => ?_) (fun h => ?_)
      · refine J_lload (q := 4) hX dX12_cutAll_119 rfl ?_
        refine J_sub [0, 1, 2, 3] rfl ?_
        exact tM_cutAll_121 hX hw hg hR hr hk17 hk70 v1 v2 v4 v5 σ_35 h
      · refine K_ldc2 (v := (37 : Int64)) hX uw_6_191 dX12_cutAll_99 ?_
        refine J_lload (q := 4) hX dX12_cutAll_102 rfl ?_
        refine J_lmul hX dX12_cutAll_104 ?_
        refine J_aload_n (q := 0) hX dX12_cutAll_105 rfl rfl ?_
        refine K_getc 1 hX (mc_0 hw) cls_X12 (k := 1) (by decide) uw_6_48 rfl dX12_cutAll_106 ?_
        refine J_iload_n (q := 2) hX dX12_cutAll_109 rfl rfl ?_
        refine K_iald hX (mc_1 hw) dX12_cutAll_110 h (fun h => ?_)
        obtain ⟨r_42, σ_40, hc_41, h⟩ := bnd2_some h
        refine K_callS [.int (σ_35.1 1 v2.toNatClampNeg)] hX hg hR (ctM_rank hw hc_41) lk_X12_174_X12_rank md_X12_rank ⟨by decide, by decide⟩ rfl rfl (Nat.le_of_ble_eq_true rfl) dX12_cutAll_111 ?_
        refine J_i2l hX dX12_cutAll_114 ?_
        refine J_ladd hX dX12_cutAll_115 ?_
        refine J_goto (tgt := 121) hX dX12_cutAll_116 rfl ?_
        refine J_sub [0, 1, 2, 3] rfl ?_
        exact tM_cutAll_121 hX hw hg hR hr hk17 hk70 v1 v2 v4 (((37 : Int64) * v5) + r_42.toInt64) σ_40 h
def rM_cutAll_70L (k17 : Int32 → Int32 → St → Option (St)) : ((Int32 × Int32 × Int32 × Int64 × St) → Option (St)) → (Int32 × Int32 × Int32 × Int64 × St) → Option (St) := fun k a => rM_cutAll_70 k17 (fun v1 v2 v4 v5 σ => k (v1, v2, v4, v5, σ)) a.1 a.2.1 a.2.2.1 a.2.2.2.1 a.2.2.2.2
theorem tM_cutAll_70 {X : CX} (hX : gd X cX12_cutAll 7 RX12 none) (hw : (xw X).1 = mLy) (hg : nA X) (hR : xR X = rmOf 2 40 0 0) {τ : St} (hr : xr X = (none, τ)) {k17 : Int32 → Int32 → St → Option (St)} (hk17 : (∀ (v1 : Int32) (v2 : Int32) (σ : St), k17 v1 v2 σ = some τ → Jd X 7 17 [(0, .ref (wad (xw X) 0)), (1, .int v1), (2, .int v2)] [] σ)) (n : Nat) (v1 : Int32) (v2 : Int32) (v4 : Int32) (v5 : Int64) (σ : St) (h : lp (rM_cutAll_70L k17) n (v1, v2, v4, v5, σ) = some τ) : Jd X 7 70 [(0, .ref (wad (xw X) 0)), (1, .int v1), (2, .int v2), (4, .int v4), (5, .long v5)] [] σ :=
  lp_ind (F := rM_cutAll_70L k17) (P := fun a => Jd X 7 70 [(0, .ref (wad (xw X) 0)), (1, .int a.1), (2, .int a.2.1), (4, .int a.2.2.1), (5, .long a.2.2.2.1)] [] a.2.2.2.2) (fun k a hk h => tM_cutAll_70b hX hw hg hR hr hk17 (fun v1 v2 v4 v5 σ h => hk (v1, v2, v4, v5, σ) h) a.1 a.2.1 a.2.2.1 a.2.2.2.1 a.2.2.2.2 h) n (v1, v2, v4, v5, σ) h

def rM_cutAll_17 (k17 : Int32 → Int32 → St → Option (St)) (v1 : Int32) (v2 : Int32) (σ : St) : Option (St) :=
  brc ((σ.1 0 3) ≤ v2) (chk (ib v1 1002) (nm (setI σ 2 v1.toNatClampNeg (0 : Int32)) fun σ_5 => chk (ib v1 1002) (nm (setI σ_5 3 v1.toNatClampNeg (σ_5.1 0 3)) fun σ_6 => nm (setI σ_6 0 7 (0 : Int32)) fun σ_7 => nm (setI σ_7 0 8 (0 : Int32)) fun σ_8 => some σ_8))) (chk (ib v2 1000) (nm (σ.1 1 v2.toNatClampNeg) fun v3_9 => brc (v3_9 = (10 : Int32)) (rM_cutAll_44 k17 v1 v2 σ) (brc (¬ v3_9 = (32 : Int32)) (nm v2 fun v4_11 => nm (0 : Int64) fun v5_12 => chk (ib v1 1002) (nm (setI σ 3 v1.toNatClampNeg v2) fun σ_13 => bnd2 (rM_isLetter v3_9 σ_13) fun r_16 σ_14 => brc (r_16 = 0) (bnd2 (rM_isDigit v3_9 σ_14) fun r_19 σ_17 => brc (r_19 = 0) (nm v3_9.toInt64 fun v5_20 => bnd2 (rM_isSignOf v3_9 σ_17) fun r_23 σ_21 => brc (r_23 = 0) (rM_cutAll_261 k17 v1 v2 v5_20 (4 : Int32) v1 σ_21) (rM_cutAll_261 k17 v1 v2 v5_20 (3 : Int32) v1 σ_21)) (lp (rM_cutAll_159L k17) fu (v1, v2, v4_11, v5_12, σ_17))) (lp (rM_cutAll_70L k17) fu (v1, v2, v4_11, v5_12, σ_14)))) (rM_cutAll_44 k17 v1 v2 σ))))
set_option maxRecDepth 100000 in
theorem tM_cutAll_17b {X : CX} (hX : gd X cX12_cutAll 7 RX12 none) (hw : (xw X).1 = mLy) (hg : nA X) (hR : xR X = rmOf 2 40 0 0) {τ : St} (hr : xr X = (none, τ)) {k17 : Int32 → Int32 → St → Option (St)} (hk17 : (∀ (v1 : Int32) (v2 : Int32) (σ : St), k17 v1 v2 σ = some τ → Jd X 7 17 [(0, .ref (wad (xw X) 0)), (1, .int v1), (2, .int v2)] [] σ)) (v1 : Int32) (v2 : Int32) (σ : St) (h : rM_cutAll_17 k17 v1 v2 σ = some τ) : Jd X 7 17 [(0, .ref (wad (xw X) 0)), (1, .int v1), (2, .int v2)] [] σ := by
  unfold rM_cutAll_17 at h
  refine J_iload_n (q := 2) hX dX12_cutAll_17 rfl rfl ?_
  refine J_aload_n (q := 0) hX dX12_cutAll_18 rfl rfl ?_
  refine K_geti hX (mc_0 hw) cls_X12 (k := 3) (by decide) uw_6_50 rfl dX12_cutAll_19 ?_
  refine K_icmp_ge (tgt := 279) hX dX12_cutAll_22 rfl h (fun h => ?_) (fun h => ?_)
  · refine J_aload_n (q := 0) hX dX12_cutAll_279 rfl rfl ?_
    refine K_getc 2 hX (mc_0 hw) cls_X12 (k := 4) (by decide) uw_6_51 rfl dX12_cutAll_280 ?_
    refine J_iload_n (q := 1) hX dX12_cutAll_283 rfl rfl ?_
    refine J_iconst (v := (0 : Int32)) hX dX12_cutAll_284 (by decide) ?_
    refine K_iast hX (mc_2 hw) dX12_cutAll_285 h (fun σ_5 h => ?_)
    refine J_aload_n (q := 0) hX dX12_cutAll_286 rfl rfl ?_
    refine K_getc 3 hX (mc_0 hw) cls_X12 (k := 5) (by decide) uw_6_52 rfl dX12_cutAll_287 ?_
    refine J_iload_n (q := 1) hX dX12_cutAll_290 rfl rfl ?_
    refine J_aload_n (q := 0) hX dX12_cutAll_291 rfl rfl ?_
    refine K_geti hX (mc_0 hw) cls_X12 (k := 3) (by decide) uw_6_50 rfl dX12_cutAll_292 ?_
    refine K_iast hX (mc_3 hw) dX12_cutAll_295 h (fun σ_6 h => ?_)
    refine J_aload_n (q := 0) hX dX12_cutAll_296 rfl rfl ?_
    refine J_iconst (v := (0 : Int32)) hX dX12_cutAll_297 (by decide) ?_
    refine K_puti hX (mc_0 hw) cls_X12 (k := 7) (by decide) uw_6_54 rfl rfl rfl dX12_cutAll_298 h (fun σ_7 h => ?_)
    refine J_aload_n (q := 0) hX dX12_cutAll_301 rfl rfl ?_
    refine J_iconst (v := (0 : Int32)) hX dX12_cutAll_302 (by decide) ?_
    refine K_puti hX (mc_0 hw) cls_X12 (k := 8) (by decide) uw_6_55 rfl rfl rfl dX12_cutAll_303 h (fun σ_8 h => ?_)
    exact K_vret hX hr dX12_cutAll_306 h
  · refine J_aload_n (q := 0) hX dX12_cutAll_25 rfl rfl ?_
    refine K_getc 1 hX (mc_0 hw) cls_X12 (k := 1) (by decide) uw_6_48 rfl dX12_cutAll_26 ?_
    refine J_iload_n (q := 2) hX dX12_cutAll_29 rfl rfl ?_
    refine K_iald hX (mc_1 hw) dX12_cutAll_30 h (fun h => ?_)
    refine K_istore_n (fun v3_9 => [(3, .int v3_9), (0, .ref (wad (xw X) 0)), (1, .int v1), (2, .int v2)]) hX dX12_cutAll_31 rfl (by decide) (fun _ => rfl) h (fun v3_9 h => ?_)
    refine J_iload_n (q := 0) hX dX12_cutAll_32 rfl rfl ?_
    refine J_bipush (v := (10 : Int32)) hX dX12_cutAll_33 (by decide) ?_
    refine K_icmp_eq (tgt := 44) hX dX12_cutAll_35 rfl h (fun h => ?_) (fun h => ?_)
    · refine J_sub [1, 2, 3] rfl ?_
      exact tM_cutAll_44 hX hw hg hR hr hk17 v1 v2 σ h
    · refine J_iload_n (q := 0) hX dX12_cutAll_38 rfl rfl ?_
      refine J_bipush (v := (32 : Int32)) hX dX12_cutAll_39 (by decide) ?_
      refine K_icmp_ne (tgt := 50) hX dX12_cutAll_41 rfl h (fun h => ?_) (fun h => ?_)
      · refine J_iload_n (q := 3) hX dX12_cutAll_50 rfl rfl ?_
        refine K_istore (fun v4_11 => [(4, .int v4_11), (3, .int v3_9), (0, .ref (wad (xw X) 0)), (1, .int v1), (2, .int v2)]) hX dX12_cutAll_51 (by decide) (fun _ => rfl) h (fun v4_11 h => ?_)
        refine J_lconst (v := 0) hX dX12_cutAll_53 (by decide) ?_
        refine K_lstore (fun v5_12 => [(5, .long v5_12), (4, .int v4_11), (3, .int v3_9), (0, .ref (wad (xw X) 0)), (1, .int v1), (2, .int v2)]) hX dX12_cutAll_54 (by decide) (fun _ => rfl) h (fun v5_12 h => ?_)
        refine J_aload_n (q := 3) hX dX12_cutAll_56 rfl rfl ?_
        refine K_getc 3 hX (mc_0 hw) cls_X12 (k := 5) (by decide) uw_6_52 rfl dX12_cutAll_57 ?_
        refine J_iload_n (q := 4) hX dX12_cutAll_60 rfl rfl ?_
        refine J_iload_n (q := 5) hX dX12_cutAll_61 rfl rfl ?_
        refine K_iast hX (mc_3 hw) dX12_cutAll_62 h (fun σ_13 h => ?_)
        refine J_iload_n (q := 2) hX dX12_cutAll_63 rfl rfl ?_
        obtain ⟨r_16, σ_14, hc_15, h⟩ := bnd2_some h
        refine K_callS [.int v3_9] hX hg hR (ctM_isLetter hw hc_15) lk_X12_165_X12_isLetter md_X12_isLetter ⟨by decide, by decide⟩ rfl rfl (Nat.le_of_ble_eq_true rfl) dX12_cutAll_64 ?_
        refine K_if_eq (tgt := 152) hX dX12_cutAll_67 rfl h (fun h => ?_) (fun h => ?_)
        · refine J_iload_n (q := 2) hX dX12_cutAll_152 rfl rfl ?_
          obtain ⟨r_19, σ_17, hc_18, h⟩ := bnd2_some h
          refine K_callS [.int v3_9] hX hg hR (ctM_isDigit hw hc_18) lk_X12_178_X12_isDigit md_X12_isDigit ⟨by decide, by decide⟩ rfl rfl (Nat.le_of_ble_eq_true rfl) dX12_cutAll_153 ?_
          refine K_if_eq (tgt := 240) hX dX12_cutAll_156 rfl h (fun h => ?_) (fun h => ?_)
          · refine J_iload_n (q := 2) hX dX12_cutAll_240 rfl rfl ?_
            refine J_i2l hX dX12_cutAll_241 ?_
            refine K_lstore (fun v5_20 => [(5, .long v5_20), (4, .int v4_11), (3, .int v3_9), (0, .ref (wad (xw X) 0)), (1, .int v1), (2, .int v2)]) hX dX12_cutAll_242 (by decide) (fun _ => rfl) h (fun v5_20 h => ?_)
            refine J_aload_n (q := 3) hX dX12_cutAll_244 rfl rfl ?_
            refine K_getc 2 hX (mc_0 hw) cls_X12 (k := 4) (by decide) uw_6_51 rfl dX12_cutAll_245 ?_
            refine J_iload_n (q := 4) hX dX12_cutAll_248 rfl rfl ?_
            refine J_iload_n (q := 2) hX dX12_cutAll_249 rfl rfl ?_
            obtain ⟨r_23, σ_21, hc_22, h⟩ := bnd2_some h
            refine K_callS [.int v3_9] hX hg hR (ctM_isSignOf hw hc_22) lk_X12_185_X12_isSignOf md_X12_isSignOf ⟨by decide, by decide⟩ rfl rfl (Nat.le_of_ble_eq_true rfl) dX12_cutAll_250 ?_
            refine K_if_eq (tgt := 260) hX dX12_cutAll_253 rfl h (fun h => ?_) (fun h => ?_)
            · refine J_iconst (v := (4 : Int32)) hX dX12_cutAll_260 (by decide) ?_
              refine J_sub [3, 4, 5, 0] rfl ?_
              exact tM_cutAll_261 hX hw hg hR hr hk17 v1 v2 v5_20 (4 : Int32) v1 σ_21 h
            · refine J_iconst (v := (3 : Int32)) hX dX12_cutAll_256 (by decide) ?_
              refine J_goto (tgt := 261) hX dX12_cutAll_257 rfl ?_
              refine J_sub [3, 4, 5, 0] rfl ?_
              exact tM_cutAll_261 hX hw hg hR hr hk17 v1 v2 v5_20 (3 : Int32) v1 σ_21 h
          · refine J_sub [3, 4, 5, 1, 0] rfl ?_
            exact tM_cutAll_159 hX hw hg hR hr hk17 fu v1 v2 v4_11 v5_12 σ_17 h
        · refine J_sub [3, 4, 5, 1, 0] rfl ?_
          exact tM_cutAll_70 hX hw hg hR hr hk17 fu v1 v2 v4_11 v5_12 σ_14 h
      · refine J_sub [1, 2, 3] rfl ?_
        exact tM_cutAll_44 hX hw hg hR hr hk17 v1 v2 σ h
def rM_cutAll_17L : ((Int32 × Int32 × St) → Option (St)) → (Int32 × Int32 × St) → Option (St) := fun k a => rM_cutAll_17 (fun v1 v2 σ => k (v1, v2, σ)) a.1 a.2.1 a.2.2
theorem tM_cutAll_17 {X : CX} (hX : gd X cX12_cutAll 7 RX12 none) (hw : (xw X).1 = mLy) (hg : nA X) (hR : xR X = rmOf 2 40 0 0) {τ : St} (hr : xr X = (none, τ)) (n : Nat) (v1 : Int32) (v2 : Int32) (σ : St) (h : lp (rM_cutAll_17L) n (v1, v2, σ) = some τ) : Jd X 7 17 [(0, .ref (wad (xw X) 0)), (1, .int v1), (2, .int v2)] [] σ :=
  lp_ind (F := rM_cutAll_17L) (P := fun a => Jd X 7 17 [(0, .ref (wad (xw X) 0)), (1, .int a.1), (2, .int a.2.1)] [] a.2.2) (fun k a hk h => tM_cutAll_17b hX hw hg hR hr (fun v1 v2 σ h => hk (v1, v2, σ) h) a.1 a.2.1 a.2.2 h) n (v1, v2, σ) h

def rM_cutAll (σ : St) : Option (St) :=
  nm (setI σ 0 3 (σ.1 0 2)) fun σ_1 => nm (setI σ_1 0 2 (0 : Int32)) fun σ_2 => nm (0 : Int32) fun v1_3 => nm (0 : Int32) fun v2_4 => lp (rM_cutAll_17L) fu (v1_3, v2_4, σ_2)
set_option maxRecDepth 100000 in
theorem tM_cutAll {X : CX} (hX : gd X cX12_cutAll 7 RX12 none) (hw : (xw X).1 = mLy) (hg : nA X) (hR : xR X = rmOf 2 40 0 0) {τ : St} (hr : xr X = (none, τ)) (σ : St) (h : rM_cutAll σ = some τ) : Jd X 7 0 [(0, .ref (wad (xw X) 0))] [] σ := by
  unfold rM_cutAll at h
  refine J_aload_n (q := 0) hX dX12_cutAll_0 rfl rfl ?_
  refine J_aload_n (q := 0) hX dX12_cutAll_1 rfl rfl ?_
  refine K_geti hX (mc_0 hw) cls_X12 (k := 2) (by decide) uw_6_49 rfl dX12_cutAll_2 ?_
  refine K_puti hX (mc_0 hw) cls_X12 (k := 3) (by decide) uw_6_50 rfl rfl rfl dX12_cutAll_5 h (fun σ_1 h => ?_)
  refine J_aload_n (q := 0) hX dX12_cutAll_8 rfl rfl ?_
  refine J_iconst (v := (0 : Int32)) hX dX12_cutAll_9 (by decide) ?_
  refine K_puti hX (mc_0 hw) cls_X12 (k := 2) (by decide) uw_6_49 rfl rfl rfl dX12_cutAll_10 h (fun σ_2 h => ?_)
  refine J_iconst (v := (0 : Int32)) hX dX12_cutAll_13 (by decide) ?_
  refine K_istore_n (fun v1_3 => [(1, .int v1_3), (0, .ref (wad (xw X) 0))]) hX dX12_cutAll_14 rfl (by decide) (fun _ => rfl) h (fun v1_3 h => ?_)
  refine J_iconst (v := (0 : Int32)) hX dX12_cutAll_15 (by decide) ?_
  refine K_istore_n (fun v2_4 => [(2, .int v2_4), (1, .int v1_3), (0, .ref (wad (xw X) 0))]) hX dX12_cutAll_16 rfl (by decide) (fun _ => rfl) h (fun v2_4 h => ?_)
  refine J_sub [2, 1, 0] rfl ?_
  exact tM_cutAll_17 hX hw hg hR hr fu v1_3 v2_4 σ_2 h
theorem ctM_cutAll {w : WT} (hw : w.1 = mLy) {σ : St} {τ : St} (h : rM_cutAll σ = some τ) : Ct yX12_cutAll cX12_cutAll 7 none 2 40 w [.ref (wad w 0)] σ none τ 0 0 :=
  Ct_intro (fun _ => (0, 0)) (by decide) rfl ⟨rfl, Nat.le_refl _⟩ (Nat.le_of_ble_eq_true rfl) (fun X hX hR hwX hg hr => by subst hwX; exact tM_cutAll hX hw hg hR hr  σ h)

def rM_takeWord_13 (σ : St) : Option (St) :=
  some σ
set_option maxRecDepth 100000 in
theorem tM_takeWord_13 {X : CX} (hX : gd X cX12_takeWord 2 RX12 none) (hw : (xw X).1 = mLy) (hg : nA X) (hR : xR X = rmOf 2 43 0 0) {τ : St} (hr : xr X = (none, τ)) (σ : St) (h : rM_takeWord_13 σ = some τ) : Jd X 2 13 [] [] σ := by
  unfold rM_takeWord_13 at h
  exact K_vret hX hr dX12_takeWord_13 h

def rM_takeWord (v1 : Int32) (σ : St) : Option (St) :=
  bnd2 (rM_hasWord v1 σ) fun r_3 σ_1 => brc (¬ r_3 = 0) (rM_takeWord_13 σ_1) (bnd1 (rM_wrong (1 : Int32) σ_1) fun σ_4 => rM_takeWord_13 σ_4)
set_option maxRecDepth 100000 in
theorem tM_takeWord {X : CX} (hX : gd X cX12_takeWord 2 RX12 none) (hw : (xw X).1 = mLy) (hg : nA X) (hR : xR X = rmOf 2 43 0 0) {τ : St} (hr : xr X = (none, τ)) (v1 : Int32) (σ : St) (h : rM_takeWord v1 σ = some τ) : Jd X 2 0 [(0, .ref (wad (xw X) 0)), (1, .int v1)] [] σ := by
  unfold rM_takeWord at h
  refine J_aload_n (q := 0) hX dX12_takeWord_0 rfl rfl ?_
  refine J_iload_n (q := 1) hX dX12_takeWord_1 rfl rfl ?_
  obtain ⟨r_3, σ_1, hc_2, h⟩ := bnd2_some h
  refine K_callV [.int v1] hX hg hR (ctM_hasWord hw hc_2) lk_X12_203_X12_hasWord md_X12_hasWord (mc_0 hw) cls_X12 ⟨by decide, by decide⟩ rfl rfl (Nat.le_of_ble_eq_true rfl) dX12_takeWord_2 ?_
  refine K_if_ne (tgt := 13) hX dX12_takeWord_5 rfl h (fun h => ?_) (fun h => ?_)
  · refine J_sub [] rfl ?_
    exact tM_takeWord_13 hX hw hg hR hr σ_1 h
  · refine J_aload_n (q := 0) hX dX12_takeWord_8 rfl rfl ?_
    refine J_iconst (v := (1 : Int32)) hX dX12_takeWord_9 (by decide) ?_
    obtain ⟨σ_4, hc_5, h⟩ := bnd1_some h
    refine K_callV [.int (1 : Int32)] hX hg hR (ctM_wrong hw hc_5) lk_X12_197_X12_wrong md_X12_wrong (mc_0 hw) cls_X12 ⟨by decide, by decide⟩ rfl rfl (Nat.le_of_ble_eq_true rfl) dX12_takeWord_10 ?_
    refine J_sub [] rfl ?_
    exact tM_takeWord_13 hX hw hg hR hr σ_4 h
theorem ctM_takeWord {w : WT} (hw : w.1 = mLy) {v1 : Int32} {σ : St} {τ : St} (h : rM_takeWord v1 σ = some τ) : Ct yX12_takeWord cX12_takeWord 2 none 2 43 w [.ref (wad w 0), .int v1] σ none τ 0 0 :=
  Ct_intro (fun _ => (0, 0)) (by decide) rfl ⟨rfl, Nat.le_refl _⟩ (Nat.le_of_ble_eq_true rfl) (fun X hX hR hwX hg hr => by subst hwX; exact tM_takeWord hX hw hg hR hr v1 σ h)

def rM_readOnce_134 (s0 : Int32) (s1 : Int32) (s3 : Int32) (σ : St) : Option (St) :=
  bnd2 (rM_takeNumber s1 s0 σ) fun r_7 σ_5 => chk (ib s3 320) (nm (setI σ_5 6 s3.toNatClampNeg r_7) fun σ_8 => some σ_8)
set_option maxRecDepth 100000 in
theorem tM_readOnce_134 {X : CX} (hX : gd X cX12_readOnce 3 RX12 none) (hw : (xw X).1 = mLy) (hg : nA X) (hR : xR X = rmOf 2 43 0 0) {τ : St} (hr : xr X = (none, τ)) (s0 : Int32) (s1 : Int32) (s3 : Int32) (σ : St) (h : rM_readOnce_134 s0 s1 s3 σ = some τ) : Jd X 3 134 [] [.int s0, .int s1, .ref (wad (xw X) 0), .int s3, .ref (wad (xw X) 6)] σ := by
  unfold rM_readOnce_134 at h
  obtain ⟨r_7, σ_5, hc_6, h⟩ := bnd2_some h
  refine K_callV [.int s1, .int s0] hX hg hR (ctM_takeNumber hw hc_6) lk_X12_209_X12_takeNumber md_X12_takeNumber (mc_0 hw) cls_X12 ⟨by decide, by decide⟩ rfl rfl (Nat.le_of_ble_eq_true rfl) dX12_readOnce_134 ?_
  refine K_iast hX (mc_6 hw) dX12_readOnce_137 h (fun σ_8 h => ?_)
  exact K_vret hX hr dX12_readOnce_138 h

def rM_readOnce_111 (v1 : Int32) (s0 : Int32) (s2 : Int32) (σ : St) : Option (St) :=
  brc (¬ v1 = 0) (brc (¬ v1 = (1 : Int32)) (rM_readOnce_134 (999 : Int32) s0 s2 σ) (rM_readOnce_134 (200 : Int32) s0 s2 σ)) (rM_readOnce_134 (99 : Int32) s0 s2 σ)
set_option maxRecDepth 100000 in
theorem tM_readOnce_111 {X : CX} (hX : gd X cX12_readOnce 3 RX12 none) (hw : (xw X).1 = mLy) (hg : nA X) (hR : xR X = rmOf 2 43 0 0) {τ : St} (hr : xr X = (none, τ)) (v1 : Int32) (s0 : Int32) (s2 : Int32) (σ : St) (h : rM_readOnce_111 v1 s0 s2 σ = some τ) : Jd X 3 111 [(1, .int v1)] [.int s0, .ref (wad (xw X) 0), .int s2, .ref (wad (xw X) 6)] σ := by
  unfold rM_readOnce_111 at h
  refine J_iload_n (q := 0) hX dX12_readOnce_111 rfl rfl ?_
  refine K_if_ne (tgt := 120) hX dX12_readOnce_112 rfl h (fun h => ?_) (fun h => ?_)
  · refine J_iload_n (q := 0) hX dX12_readOnce_120 rfl rfl ?_
    refine J_iconst (v := (1 : Int32)) hX dX12_readOnce_121 (by decide) ?_
    refine K_icmp_ne (tgt := 131) hX dX12_readOnce_122 rfl h (fun h => ?_) (fun h => ?_)
    · refine J_sipush (v := (999 : Int32)) hX dX12_readOnce_131 (by decide) ?_
      refine J_sub [] rfl ?_
      exact tM_readOnce_134 hX hw hg hR hr (999 : Int32) s0 s2 σ h
    · refine J_sipush (v := (200 : Int32)) hX dX12_readOnce_125 (by decide) ?_
      refine J_goto (tgt := 134) hX dX12_readOnce_128 rfl ?_
      refine J_sub [] rfl ?_
      exact tM_readOnce_134 hX hw hg hR hr (200 : Int32) s0 s2 σ h
  · refine J_bipush (v := (99 : Int32)) hX dX12_readOnce_115 (by decide) ?_
    refine J_goto (tgt := 134) hX dX12_readOnce_117 rfl ?_
    refine J_sub [] rfl ?_
    exact tM_readOnce_134 hX hw hg hR hr (99 : Int32) s0 s2 σ h

def rM_readOnce_61 (v1 : Int32) (σ : St) : Option (St) :=
  brc ((σ.1 0 8) ≤ 0) (nm (setI σ 0 18 ((σ.1 0 18) ||| ((1 : Int32) <<< (v1 &&& 31)))) fun σ_3 => nm (setI σ_3 0 7 ((σ_3.1 0 7) + (1 : Int32))) fun σ_4 => brc (¬ v1 = (2 : Int32)) (rM_readOnce_111 v1 (0 : Int32) ((163 : Int32) + v1) σ_4) (rM_readOnce_111 v1 (1 : Int32) ((163 : Int32) + v1) σ_4)) (some σ)
set_option maxRecDepth 100000 in
theorem tM_readOnce_61 {X : CX} (hX : gd X cX12_readOnce 3 RX12 none) (hw : (xw X).1 = mLy) (hg : nA X) (hR : xR X = rmOf 2 43 0 0) {τ : St} (hr : xr X = (none, τ)) (v1 : Int32) (σ : St) (h : rM_readOnce_61 v1 σ = some τ) : Jd X 3 61 [(0, .ref (wad (xw X) 0)), (1, .int v1)] [] σ := by
  unfold rM_readOnce_61 at h
  refine J_aload_n (q := 0) hX dX12_readOnce_61 rfl rfl ?_
  refine K_geti hX (mc_0 hw) cls_X12 (k := 8) (by decide) uw_6_55 rfl dX12_readOnce_62 ?_
  refine K_if_le (tgt := 69) hX dX12_readOnce_65 rfl h (fun h => ?_) (fun h => ?_)
  · refine J_aload_n (q := 0) hX dX12_readOnce_69 rfl rfl ?_
    refine J_dup hX dX12_readOnce_70 rfl ?_
    refine K_geti hX (mc_0 hw) cls_X12 (k := 18) (by decide) uw_6_65 rfl dX12_readOnce_71 ?_
    refine J_iconst (v := (1 : Int32)) hX dX12_readOnce_74 (by decide) ?_
    refine J_iload_n (q := 1) hX dX12_readOnce_75 rfl rfl ?_
    refine J_ishl hX dX12_readOnce_76 ?_
    refine J_ior hX dX12_readOnce_77 ?_
    refine K_puti hX (mc_0 hw) cls_X12 (k := 18) (by decide) uw_6_65 rfl rfl rfl dX12_readOnce_78 h (fun σ_3 h => ?_)
    refine J_aload_n (q := 0) hX dX12_readOnce_81 rfl rfl ?_
    refine J_dup hX dX12_readOnce_82 rfl ?_
    refine K_geti hX (mc_0 hw) cls_X12 (k := 7) (by decide) uw_6_54 rfl dX12_readOnce_83 ?_
    refine J_iconst (v := (1 : Int32)) hX dX12_readOnce_86 (by decide) ?_
    refine J_iadd hX dX12_readOnce_87 ?_
    refine K_puti hX (mc_0 hw) cls_X12 (k := 7) (by decide) uw_6_54 rfl rfl rfl dX12_readOnce_88 h (fun σ_4 h => ?_)
    refine J_aload_n (q := 0) hX dX12_readOnce_91 rfl rfl ?_
    refine K_getc 6 hX (mc_0 hw) cls_X12 (k := 10) (by decide) uw_6_57 rfl dX12_readOnce_92 ?_
    refine J_sipush (v := (163 : Int32)) hX dX12_readOnce_95 (by decide) ?_
    refine J_iload_n (q := 1) hX dX12_readOnce_98 rfl rfl ?_
    refine J_iadd hX dX12_readOnce_99 ?_
    refine J_aload_n (q := 0) hX dX12_readOnce_100 rfl rfl ?_
    refine J_iload_n (q := 1) hX dX12_readOnce_101 rfl rfl ?_
    refine J_iconst (v := (2 : Int32)) hX dX12_readOnce_102 (by decide) ?_
    refine K_icmp_ne (tgt := 110) hX dX12_readOnce_103 rfl h (fun h => ?_) (fun h => ?_)
    · refine J_iconst (v := (0 : Int32)) hX dX12_readOnce_110 (by decide) ?_
      refine J_sub [1] rfl ?_
      exact tM_readOnce_111 hX hw hg hR hr v1 (0 : Int32) ((163 : Int32) + v1) σ_4 h
    · refine J_iconst (v := (1 : Int32)) hX dX12_readOnce_106 (by decide) ?_
      refine J_goto (tgt := 111) hX dX12_readOnce_107 rfl ?_
      refine J_sub [1] rfl ?_
      exact tM_readOnce_111 hX hw hg hR hr v1 (1 : Int32) ((163 : Int32) + v1) σ_4 h
  · exact K_vret hX hr dX12_readOnce_68 h

def rM_readOnce_25 (k4 : Int32 → Int32 → St → Option (St)) (v2 : Int32) (s0 : Int32) (σ : St) : Option (St) :=
  nm s0 fun v1_16 => nm (v2 + Int32.ofInt 1) fun v2_17 => k4 v1_16 v2_17 σ
set_option maxRecDepth 100000 in
theorem tM_readOnce_25 {X : CX} (hX : gd X cX12_readOnce 3 RX12 none) (hw : (xw X).1 = mLy) (hg : nA X) (hR : xR X = rmOf 2 43 0 0) {τ : St} (hr : xr X = (none, τ)) {k4 : Int32 → Int32 → St → Option (St)} (hk4 : (∀ (v1 : Int32) (v2 : Int32) (σ : St), k4 v1 v2 σ = some τ → Jd X 3 4 [(0, .ref (wad (xw X) 0)), (1, .int v1), (2, .int v2)] [] σ)) (v2 : Int32) (s0 : Int32) (σ : St) (h : rM_readOnce_25 k4 v2 s0 σ = some τ) : Jd X 3 25 [(0, .ref (wad (xw X) 0)), (2, .int v2)] [.int s0] σ := by
  unfold rM_readOnce_25 at h
  refine K_istore_n (fun v1_16 => [(1, .int v1_16), (0, .ref (wad (xw X) 0)), (2, .int v2)]) hX dX12_readOnce_25 rfl (by decide) (fun _ => rfl) h (fun v1_16 h => ?_)
  refine K_iinc (q := 2) (fun v2_17 => [(2, .int v2_17), (1, .int v1_16), (0, .ref (wad (xw X) 0))]) hX dX12_readOnce_26 rfl (by decide) (fun _ => rfl) h (fun v2_17 h => ?_)
  refine J_goto (tgt := 4) hX dX12_readOnce_29 rfl ?_
  refine J_sub [2, 1, 0] rfl ?_
  exact hk4 v1_16 v2_17 σ h

def rM_readOnce_4 (k4 : Int32 → Int32 → St → Option (St)) (v1 : Int32) (v2 : Int32) (σ : St) : Option (St) :=
  brc ((3 : Int32) ≤ v2) (brc (0 ≤ v1) (brc (¬ (((σ.1 0 18) >>> (v1 &&& 31)) &&& (1 : Int32)) = (1 : Int32)) (rM_readOnce_61 v1 σ) (bnd1 (rM_wrong (3 : Int32) σ) fun σ_9 => rM_readOnce_61 v1 σ_9)) (bnd1 (rM_wrong (1 : Int32) σ) fun σ_11 => rM_readOnce_61 v1 σ_11)) (bnd2 (rM_isWord ((13 : Int32) + v2) σ) fun r_15 σ_13 => brc (r_15 = 0) (rM_readOnce_25 k4 v2 v1 σ_13) (rM_readOnce_25 k4 v2 v2 σ_13))
set_option maxRecDepth 100000 in
theorem tM_readOnce_4b {X : CX} (hX : gd X cX12_readOnce 3 RX12 none) (hw : (xw X).1 = mLy) (hg : nA X) (hR : xR X = rmOf 2 43 0 0) {τ : St} (hr : xr X = (none, τ)) {k4 : Int32 → Int32 → St → Option (St)} (hk4 : (∀ (v1 : Int32) (v2 : Int32) (σ : St), k4 v1 v2 σ = some τ → Jd X 3 4 [(0, .ref (wad (xw X) 0)), (1, .int v1), (2, .int v2)] [] σ)) (v1 : Int32) (v2 : Int32) (σ : St) (h : rM_readOnce_4 k4 v1 v2 σ = some τ) : Jd X 3 4 [(0, .ref (wad (xw X) 0)), (1, .int v1), (2, .int v2)] [] σ := by
  unfold rM_readOnce_4 at h
  refine J_iload_n (q := 2) hX dX12_readOnce_4 rfl rfl ?_
  refine J_iconst (v := (3 : Int32)) hX dX12_readOnce_5 (by decide) ?_
  refine K_icmp_ge (tgt := 32) hX dX12_readOnce_6 rfl h (fun h => ?_) (fun h => ?_)
  · refine J_iload_n (q := 1) hX dX12_readOnce_32 rfl rfl ?_
    refine K_if_ge (tgt := 44) hX dX12_readOnce_33 rfl h (fun h => ?_) (fun h => ?_)
    · refine J_aload_n (q := 0) hX dX12_readOnce_44 rfl rfl ?_
      refine K_geti hX (mc_0 hw) cls_X12 (k := 18) (by decide) uw_6_65 rfl dX12_readOnce_45 ?_
      refine J_iload_n (q := 1) hX dX12_readOnce_48 rfl rfl ?_
      refine J_ishr hX dX12_readOnce_49 ?_
      refine J_iconst (v := (1 : Int32)) hX dX12_readOnce_50 (by decide) ?_
      refine J_iand hX dX12_readOnce_51 ?_
      refine J_iconst (v := (1 : Int32)) hX dX12_readOnce_52 (by decide) ?_
      refine K_icmp_ne (tgt := 61) hX dX12_readOnce_53 rfl h (fun h => ?_) (fun h => ?_)
      · refine J_sub [0, 1] rfl ?_
        exact tM_readOnce_61 hX hw hg hR hr v1 σ h
      · refine J_aload_n (q := 0) hX dX12_readOnce_56 rfl rfl ?_
        refine J_iconst (v := (3 : Int32)) hX dX12_readOnce_57 (by decide) ?_
        obtain ⟨σ_9, hc_10, h⟩ := bnd1_some h
        refine K_callV [.int (3 : Int32)] hX hg hR (ctM_wrong hw hc_10) lk_X12_197_X12_wrong md_X12_wrong (mc_0 hw) cls_X12 ⟨by decide, by decide⟩ rfl rfl (Nat.le_of_ble_eq_true rfl) dX12_readOnce_58 ?_
        refine J_sub [0, 1] rfl ?_
        exact tM_readOnce_61 hX hw hg hR hr v1 σ_9 h
    · refine J_aload_n (q := 0) hX dX12_readOnce_36 rfl rfl ?_
      refine J_iconst (v := (1 : Int32)) hX dX12_readOnce_37 (by decide) ?_
      obtain ⟨σ_11, hc_12, h⟩ := bnd1_some h
      refine K_callV [.int (1 : Int32)] hX hg hR (ctM_wrong hw hc_12) lk_X12_197_X12_wrong md_X12_wrong (mc_0 hw) cls_X12 ⟨by decide, by decide⟩ rfl rfl (Nat.le_of_ble_eq_true rfl) dX12_readOnce_38 ?_
      refine J_goto (tgt := 61) hX dX12_readOnce_41 rfl ?_
      refine J_sub [0, 1] rfl ?_
      exact tM_readOnce_61 hX hw hg hR hr v1 σ_11 h
  · refine J_aload_n (q := 0) hX dX12_readOnce_9 rfl rfl ?_
    refine J_bipush (v := (13 : Int32)) hX dX12_readOnce_10 (by decide) ?_
    refine J_iload_n (q := 2) hX dX12_readOnce_12 rfl rfl ?_
    refine J_iadd hX dX12_readOnce_13 ?_
    obtain ⟨r_15, σ_13, hc_14, h⟩ := bnd2_some h
    refine K_callV [.int ((13 : Int32) + v2)] hX hg hR (ctM_isWord hw hc_14) lk_X12_200_X12_isWord md_X12_isWord (mc_0 hw) cls_X12 ⟨by decide, by decide⟩ rfl rfl (Nat.le_of_ble_eq_true rfl) dX12_readOnce_14 ?_
    refine K_if_eq (tgt := 24) hX dX12_readOnce_17 rfl h (fun h => ?_) (fun h => ?_)
    · refine J_iload_n (q := 1) hX dX12_readOnce_24 rfl rfl ?_
      refine J_sub [0, 2] rfl ?_
      exact tM_readOnce_25 hX hw hg hR hr hk4 v2 v1 σ_13 h
    · refine J_iload_n (q := 2) hX dX12_readOnce_20 rfl rfl ?_
      refine J_goto (tgt := 25) hX dX12_readOnce_21 rfl ?_
      refine J_sub [0, 2] rfl ?_
      exact tM_readOnce_25 hX hw hg hR hr hk4 v2 v2 σ_13 h
def rM_readOnce_4L : ((Int32 × Int32 × St) → Option (St)) → (Int32 × Int32 × St) → Option (St) := fun k a => rM_readOnce_4 (fun v1 v2 σ => k (v1, v2, σ)) a.1 a.2.1 a.2.2
theorem tM_readOnce_4 {X : CX} (hX : gd X cX12_readOnce 3 RX12 none) (hw : (xw X).1 = mLy) (hg : nA X) (hR : xR X = rmOf 2 43 0 0) {τ : St} (hr : xr X = (none, τ)) (n : Nat) (v1 : Int32) (v2 : Int32) (σ : St) (h : lp (rM_readOnce_4L) n (v1, v2, σ) = some τ) : Jd X 3 4 [(0, .ref (wad (xw X) 0)), (1, .int v1), (2, .int v2)] [] σ :=
  lp_ind (F := rM_readOnce_4L) (P := fun a => Jd X 3 4 [(0, .ref (wad (xw X) 0)), (1, .int a.1), (2, .int a.2.1)] [] a.2.2) (fun k a hk h => tM_readOnce_4b hX hw hg hR hr (fun v1 v2 σ h => hk (v1, v2, σ) h) a.1 a.2.1 a.2.2 h) n (v1, v2, σ) h

def rM_readOnce (σ : St) : Option (St) :=
  nm (-1 : Int32) fun v1_1 => nm (0 : Int32) fun v2_2 => lp (rM_readOnce_4L) fu (v1_1, v2_2, σ)
set_option maxRecDepth 100000 in
theorem tM_readOnce {X : CX} (hX : gd X cX12_readOnce 3 RX12 none) (hw : (xw X).1 = mLy) (hg : nA X) (hR : xR X = rmOf 2 43 0 0) {τ : St} (hr : xr X = (none, τ)) (σ : St) (h : rM_readOnce σ = some τ) : Jd X 3 0 [(0, .ref (wad (xw X) 0))] [] σ := by
  unfold rM_readOnce at h
  refine J_iconst (v := (-1 : Int32)) hX dX12_readOnce_0 (by decide) ?_
  refine K_istore_n (fun v1_1 => [(1, .int v1_1), (0, .ref (wad (xw X) 0))]) hX dX12_readOnce_1 rfl (by decide) (fun _ => rfl) h (fun v1_1 h => ?_)
  refine J_iconst (v := (0 : Int32)) hX dX12_readOnce_2 (by decide) ?_
  refine K_istore_n (fun v2_2 => [(2, .int v2_2), (1, .int v1_1), (0, .ref (wad (xw X) 0))]) hX dX12_readOnce_3 rfl (by decide) (fun _ => rfl) h (fun v2_2 h => ?_)
  refine J_sub [2, 1, 0] rfl ?_
  exact tM_readOnce_4 hX hw hg hR hr fu v1_1 v2_2 σ h
theorem ctM_readOnce {w : WT} (hw : w.1 = mLy) {σ : St} {τ : St} (h : rM_readOnce σ = some τ) : Ct yX12_readOnce cX12_readOnce 3 none 2 43 w [.ref (wad w 0)] σ none τ 0 0 :=
  Ct_intro (fun _ => (0, 0)) (by decide) rfl ⟨rfl, Nat.le_refl _⟩ (Nat.le_of_ble_eq_true rfl) (fun X hX hR hwX hg hr => by subst hwX; exact tM_readOnce hX hw hg hR hr  σ h)

def rM_readOwe_136 (σ : St) : Option (St) :=
  some σ
set_option maxRecDepth 100000 in
theorem tM_readOwe_136 {X : CX} (hX : gd X cX12_readOwe 4 RX12 none) (hw : (xw X).1 = mLy) (hg : nA X) (hR : xR X = rmOf 2 46 0 0) {τ : St} (hr : xr X = (none, τ)) (σ : St) (h : rM_readOwe_136 σ = some τ) : Jd X 4 136 [] [] σ := by
  unfold rM_readOwe_136 at h
  exact K_vret hX hr dX12_readOwe_136 h

def rM_readOwe_105 (v1 : Int32) (v2 : Int32) (s0 : Int32) (s1 : Int32) (σ : St) : Option (St) :=
  nm (setI σ 0 7 (s1 + s0)) fun σ_11 => bnd2 (rM_takeNumber (1 : Int32) (99 : Int32) σ_11) fun r_14 σ_12 => nm r_14 fun v3_15 => brc (¬ (σ_12.1 0 8) = 0) (rM_readOwe_136 σ_12) (chk (ib (((6 : Int32) * v1) + v2) 36) (nm (setI σ_12 7 (((6 : Int32) * v1) + v2).toNatClampNeg v3_15) fun σ_16 => rM_readOwe_136 σ_16))
set_option maxRecDepth 100000 in
theorem tM_readOwe_105 {X : CX} (hX : gd X cX12_readOwe 4 RX12 none) (hw : (xw X).1 = mLy) (hg : nA X) (hR : xR X = rmOf 2 46 0 0) {τ : St} (hr : xr X = (none, τ)) (v1 : Int32) (v2 : Int32) (s0 : Int32) (s1 : Int32) (σ : St) (h : rM_readOwe_105 v1 v2 s0 s1 σ = some τ) : Jd X 4 105 [(0, .ref (wad (xw X) 0)), (1, .int v1), (2, .int v2)] [.int s0, .int s1, .ref (wad (xw X) 0)] σ := by
  unfold rM_readOwe_105 at h
  refine J_iadd hX dX12_readOwe_105 ?_
  refine K_puti hX (mc_0 hw) cls_X12 (k := 7) (by decide) uw_6_54 rfl rfl rfl dX12_readOwe_106 h (fun σ_11 h => ?_)
  refine J_aload_n (q := 0) hX dX12_readOwe_109 rfl rfl ?_
  refine J_iconst (v := (1 : Int32)) hX dX12_readOwe_110 (by decide) ?_
  refine J_bipush (v := (99 : Int32)) hX dX12_readOwe_111 (by decide) ?_
  obtain ⟨r_14, σ_12, hc_13, h⟩ := bnd2_some h
  refine K_callV [.int (1 : Int32), .int (99 : Int32)] hX hg hR (ctM_takeNumber hw hc_13) lk_X12_209_X12_takeNumber md_X12_takeNumber (mc_0 hw) cls_X12 ⟨by decide, by decide⟩ rfl rfl (Nat.le_of_ble_eq_true rfl) dX12_readOwe_113 ?_
  refine K_istore_n (fun v3_15 => [(3, .int v3_15), (0, .ref (wad (xw X) 0)), (1, .int v1), (2, .int v2)]) hX dX12_readOwe_116 rfl (by decide) (fun _ => rfl) h (fun v3_15 h => ?_)
  refine J_aload_n (q := 1) hX dX12_readOwe_117 rfl rfl ?_
  refine K_geti hX (mc_0 hw) cls_X12 (k := 8) (by decide) uw_6_55 rfl dX12_readOwe_118 ?_
  refine K_if_ne (tgt := 136) hX dX12_readOwe_121 rfl h (fun h => ?_) (fun h => ?_)
  · refine J_sub [] rfl ?_
    exact tM_readOwe_136 hX hw hg hR hr σ_12 h
  · refine J_aload_n (q := 1) hX dX12_readOwe_124 rfl rfl ?_
    refine K_getc 7 hX (mc_0 hw) cls_X12 (k := 11) (by decide) uw_6_58 rfl dX12_readOwe_125 ?_
    refine J_bipush (v := (6 : Int32)) hX dX12_readOwe_128 (by decide) ?_
    refine J_iload_n (q := 2) hX dX12_readOwe_130 rfl rfl ?_
    refine J_imul hX dX12_readOwe_131 ?_
    refine J_iload_n (q := 3) hX dX12_readOwe_132 rfl rfl ?_
    refine J_iadd hX dX12_readOwe_133 ?_
    refine J_iload_n (q := 0) hX dX12_readOwe_134 rfl rfl ?_
    refine K_iast hX (mc_7 hw) dX12_readOwe_135 h (fun σ_16 h => ?_)
    refine J_sub [] rfl ?_
    exact tM_readOwe_136 hX hw hg hR hr σ_16 h

def rM_readOwe_88 (v1 : Int32) (v2 : Int32) (σ : St) : Option (St) :=
  brc ((σ.1 0 8) ≤ 0) (rM_readOwe_105 v1 v2 (1 : Int32) (σ.1 0 7) σ) (rM_readOwe_105 v1 v2 (0 : Int32) (σ.1 0 7) σ)
set_option maxRecDepth 100000 in
theorem tM_readOwe_88 {X : CX} (hX : gd X cX12_readOwe 4 RX12 none) (hw : (xw X).1 = mLy) (hg : nA X) (hR : xR X = rmOf 2 46 0 0) {τ : St} (hr : xr X = (none, τ)) (v1 : Int32) (v2 : Int32) (σ : St) (h : rM_readOwe_88 v1 v2 σ = some τ) : Jd X 4 88 [(0, .ref (wad (xw X) 0)), (1, .int v1), (2, .int v2)] [] σ := by
  unfold rM_readOwe_88 at h
  refine J_aload_n (q := 0) hX dX12_readOwe_88 rfl rfl ?_
  refine J_dup hX dX12_readOwe_89 rfl ?_
  refine K_geti hX (mc_0 hw) cls_X12 (k := 7) (by decide) uw_6_54 rfl dX12_readOwe_90 ?_
  refine J_aload_n (q := 0) hX dX12_readOwe_93 rfl rfl ?_
  refine K_geti hX (mc_0 hw) cls_X12 (k := 8) (by decide) uw_6_55 rfl dX12_readOwe_94 ?_
  refine K_if_le (tgt := 104) hX dX12_readOwe_97 rfl h (fun h => ?_) (fun h => ?_)
  · refine J_iconst (v := (1 : Int32)) hX dX12_readOwe_104 (by decide) ?_
    refine J_sub [0, 1, 2] rfl ?_
    exact tM_readOwe_105 hX hw hg hR hr v1 v2 (1 : Int32) (σ.1 0 7) σ h
  · refine J_iconst (v := (0 : Int32)) hX dX12_readOwe_100 (by decide) ?_
    refine J_goto (tgt := 105) hX dX12_readOwe_101 rfl ?_
    refine J_sub [0, 1, 2] rfl ?_
    exact tM_readOwe_105 hX hw hg hR hr v1 v2 (0 : Int32) (σ.1 0 7) σ h

def rM_readOwe_61 (v1 : Int32) (s0 : Int32) (σ : St) : Option (St) :=
  nm s0 fun v2_10 => brc (¬ (σ.1 0 8) = 0) (rM_readOwe_88 v1 v2_10 σ) (chk (ib (((6 : Int32) * v1) + v2_10) 36) (brc ((σ.1 7 (((6 : Int32) * v1) + v2_10).toNatClampNeg) ≤ 0) (rM_readOwe_88 v1 v2_10 σ) (bnd1 (rM_wrong (3 : Int32) σ) fun σ_17 => rM_readOwe_88 v1 v2_10 σ_17)))
set_option maxRecDepth 100000 in
theorem tM_readOwe_61 {X : CX} (hX : gd X cX12_readOwe 4 RX12 none) (hw : (xw X).1 = mLy) (hg : nA X) (hR : xR X = rmOf 2 46 0 0) {τ : St} (hr : xr X = (none, τ)) (v1 : Int32) (s0 : Int32) (σ : St) (h : rM_readOwe_61 v1 s0 σ = some τ) : Jd X 4 61 [(0, .ref (wad (xw X) 0)), (1, .int v1)] [.int s0] σ := by
  unfold rM_readOwe_61 at h
  refine K_istore_n (fun v2_10 => [(2, .int v2_10), (0, .ref (wad (xw X) 0)), (1, .int v1)]) hX dX12_readOwe_61 rfl (by decide) (fun _ => rfl) h (fun v2_10 h => ?_)
  refine J_aload_n (q := 1) hX dX12_readOwe_62 rfl rfl ?_
  refine K_geti hX (mc_0 hw) cls_X12 (k := 8) (by decide) uw_6_55 rfl dX12_readOwe_63 ?_
  refine K_if_ne (tgt := 88) hX dX12_readOwe_66 rfl h (fun h => ?_) (fun h => ?_)
  · refine J_sub [1, 2, 0] rfl ?_
    exact tM_readOwe_88 hX hw hg hR hr v1 v2_10 σ h
  · refine J_aload_n (q := 1) hX dX12_readOwe_69 rfl rfl ?_
    refine K_getc 7 hX (mc_0 hw) cls_X12 (k := 11) (by decide) uw_6_58 rfl dX12_readOwe_70 ?_
    refine J_bipush (v := (6 : Int32)) hX dX12_readOwe_73 (by decide) ?_
    refine J_iload_n (q := 2) hX dX12_readOwe_75 rfl rfl ?_
    refine J_imul hX dX12_readOwe_76 ?_
    refine J_iload_n (q := 0) hX dX12_readOwe_77 rfl rfl ?_
    refine J_iadd hX dX12_readOwe_78 ?_
    refine K_iald hX (mc_7 hw) dX12_readOwe_79 h (fun h => ?_)
    refine K_if_le (tgt := 88) hX dX12_readOwe_80 rfl h (fun h => ?_) (fun h => ?_)
    · refine J_sub [1, 2, 0] rfl ?_
      exact tM_readOwe_88 hX hw hg hR hr v1 v2_10 σ h
    · refine J_aload_n (q := 1) hX dX12_readOwe_83 rfl rfl ?_
      refine J_iconst (v := (3 : Int32)) hX dX12_readOwe_84 (by decide) ?_
      obtain ⟨σ_17, hc_18, h⟩ := bnd1_some h
      refine K_callV [.int (3 : Int32)] hX hg hR (ctM_wrong hw hc_18) lk_X12_197_X12_wrong md_X12_wrong (mc_0 hw) cls_X12 ⟨by decide, by decide⟩ rfl rfl (Nat.le_of_ble_eq_true rfl) dX12_readOwe_85 ?_
      refine J_sub [1, 2, 0] rfl ?_
      exact tM_readOwe_88 hX hw hg hR hr v1 v2_10 σ_17 h

def rM_readOwe_37 (v1 : Int32) (s0 : Int32) (s1 : Int32) (σ : St) : Option (St) :=
  nm (setI σ 0 7 (s1 + s0)) fun σ_6 => brc ((σ_6.1 0 8) ≤ 0) (bnd2 (rM_nameHere (7 : Int32) (6 : Int32) v1 σ_6) fun r_9 σ_7 => rM_readOwe_61 v1 r_9 σ_7) (rM_readOwe_61 v1 (-1 : Int32) σ_6)
set_option maxRecDepth 100000 in
theorem tM_readOwe_37 {X : CX} (hX : gd X cX12_readOwe 4 RX12 none) (hw : (xw X).1 = mLy) (hg : nA X) (hR : xR X = rmOf 2 46 0 0) {τ : St} (hr : xr X = (none, τ)) (v1 : Int32) (s0 : Int32) (s1 : Int32) (σ : St) (h : rM_readOwe_37 v1 s0 s1 σ = some τ) : Jd X 4 37 [(0, .ref (wad (xw X) 0)), (1, .int v1)] [.int s0, .int s1, .ref (wad (xw X) 0)] σ := by
  unfold rM_readOwe_37 at h
  refine J_iadd hX dX12_readOwe_37 ?_
  refine K_puti hX (mc_0 hw) cls_X12 (k := 7) (by decide) uw_6_54 rfl rfl rfl dX12_readOwe_38 h (fun σ_6 h => ?_)
  refine J_aload_n (q := 0) hX dX12_readOwe_41 rfl rfl ?_
  refine K_geti hX (mc_0 hw) cls_X12 (k := 8) (by decide) uw_6_55 rfl dX12_readOwe_42 ?_
  refine K_if_le (tgt := 52) hX dX12_readOwe_45 rfl h (fun h => ?_) (fun h => ?_)
  · refine J_aload_n (q := 0) hX dX12_readOwe_52 rfl rfl ?_
    refine J_bipush (v := (7 : Int32)) hX dX12_readOwe_53 (by decide) ?_
    refine J_bipush (v := (6 : Int32)) hX dX12_readOwe_55 (by decide) ?_
    refine J_iload_n (q := 1) hX dX12_readOwe_57 rfl rfl ?_
    obtain ⟨r_9, σ_7, hc_8, h⟩ := bnd2_some h
    refine K_callV [.int (7 : Int32), .int (6 : Int32), .int v1] hX hg hR (ctM_nameHere hw hc_8) lk_X12_270_X12_nameHere md_X12_nameHere (mc_0 hw) cls_X12 ⟨by decide, by decide⟩ rfl rfl (Nat.le_of_ble_eq_true rfl) dX12_readOwe_58 ?_
    refine J_sub [0, 1] rfl ?_
    exact tM_readOwe_61 hX hw hg hR hr v1 r_9 σ_7 h
  · refine J_iconst (v := (-1 : Int32)) hX dX12_readOwe_48 (by decide) ?_
    refine J_goto (tgt := 61) hX dX12_readOwe_49 rfl ?_
    refine J_sub [0, 1] rfl ?_
    exact tM_readOwe_61 hX hw hg hR hr v1 (-1 : Int32) σ_6 h

def rM_readOwe (σ : St) : Option (St) :=
  nm (setI σ 0 7 ((σ.1 0 7) + (1 : Int32))) fun σ_1 => bnd2 (rM_nameHere (7 : Int32) (6 : Int32) (-1 : Int32) σ_1) fun r_4 σ_2 => nm r_4 fun v1_5 => brc ((σ_2.1 0 8) ≤ 0) (rM_readOwe_37 v1_5 (1 : Int32) (σ_2.1 0 7) σ_2) (rM_readOwe_37 v1_5 (0 : Int32) (σ_2.1 0 7) σ_2)
set_option maxRecDepth 100000 in
theorem tM_readOwe {X : CX} (hX : gd X cX12_readOwe 4 RX12 none) (hw : (xw X).1 = mLy) (hg : nA X) (hR : xR X = rmOf 2 46 0 0) {τ : St} (hr : xr X = (none, τ)) (σ : St) (h : rM_readOwe σ = some τ) : Jd X 4 0 [(0, .ref (wad (xw X) 0))] [] σ := by
  unfold rM_readOwe at h
  refine J_aload_n (q := 0) hX dX12_readOwe_0 rfl rfl ?_
  refine J_dup hX dX12_readOwe_1 rfl ?_
  refine K_geti hX (mc_0 hw) cls_X12 (k := 7) (by decide) uw_6_54 rfl dX12_readOwe_2 ?_
  refine J_iconst (v := (1 : Int32)) hX dX12_readOwe_5 (by decide) ?_
  refine J_iadd hX dX12_readOwe_6 ?_
  refine K_puti hX (mc_0 hw) cls_X12 (k := 7) (by decide) uw_6_54 rfl rfl rfl dX12_readOwe_7 h (fun σ_1 h => ?_)
  refine J_aload_n (q := 0) hX dX12_readOwe_10 rfl rfl ?_
  refine J_bipush (v := (7 : Int32)) hX dX12_readOwe_11 (by decide) ?_
  refine J_bipush (v := (6 : Int32)) hX dX12_readOwe_13 (by decide) ?_
  refine J_iconst (v := (-1 : Int32)) hX dX12_readOwe_15 (by decide) ?_
  obtain ⟨r_4, σ_2, hc_3, h⟩ := bnd2_some h
  refine K_callV [.int (7 : Int32), .int (6 : Int32), .int (-1 : Int32)] hX hg hR (ctM_nameHere hw hc_3) lk_X12_270_X12_nameHere md_X12_nameHere (mc_0 hw) cls_X12 ⟨by decide, by decide⟩ rfl rfl (Nat.le_of_ble_eq_true rfl) dX12_readOwe_16 ?_
  refine K_istore_n (fun v1_5 => [(1, .int v1_5), (0, .ref (wad (xw X) 0))]) hX dX12_readOwe_19 rfl (by decide) (fun _ => rfl) h (fun v1_5 h => ?_)
  refine J_aload_n (q := 1) hX dX12_readOwe_20 rfl rfl ?_
  refine J_dup hX dX12_readOwe_21 rfl ?_
  refine K_geti hX (mc_0 hw) cls_X12 (k := 7) (by decide) uw_6_54 rfl dX12_readOwe_22 ?_
  refine J_aload_n (q := 1) hX dX12_readOwe_25 rfl rfl ?_
  refine K_geti hX (mc_0 hw) cls_X12 (k := 8) (by decide) uw_6_55 rfl dX12_readOwe_26 ?_
  refine K_if_le (tgt := 36) hX dX12_readOwe_29 rfl h (fun h => ?_) (fun h => ?_)
  · refine J_iconst (v := (1 : Int32)) hX dX12_readOwe_36 (by decide) ?_
    refine J_sub [1, 0] rfl ?_
    exact tM_readOwe_37 hX hw hg hR hr v1_5 (1 : Int32) (σ_2.1 0 7) σ_2 h
  · refine J_iconst (v := (0 : Int32)) hX dX12_readOwe_32 (by decide) ?_
    refine J_goto (tgt := 37) hX dX12_readOwe_33 rfl ?_
    refine J_sub [1, 0] rfl ?_
    exact tM_readOwe_37 hX hw hg hR hr v1_5 (0 : Int32) (σ_2.1 0 7) σ_2 h
theorem ctM_readOwe {w : WT} (hw : w.1 = mLy) {σ : St} {τ : St} (h : rM_readOwe σ = some τ) : Ct yX12_readOwe cX12_readOwe 4 none 2 46 w [.ref (wad w 0)] σ none τ 0 0 :=
  Ct_intro (fun _ => (0, 0)) (by decide) rfl ⟨rfl, Nat.le_refl _⟩ (Nat.le_of_ble_eq_true rfl) (fun X hX hR hwX hg hr => by subst hwX; exact tM_readOwe hX hw hg hR hr  σ h)

def rM_drinksAt_168 (s0 : Int32) (σ : St) : Option (Int32 × St) :=
  nm s0 fun v3_14 => nm (setI σ 0 30 ((σ.1 0 30) - v3_14)) fun σ_15 => nm (setI σ_15 0 32 ((σ_15.1 0 32) + v3_14)) fun σ_16 => some (v3_14, σ_16)
set_option maxRecDepth 100000 in
theorem tM_drinksAt_168 {X : CX} (hX : gd X cX12_drinksAt 4 RX12 (some .int)) (hw : (xw X).1 = mLy) (hg : nA X) (hR : xR X = rmOf 2 46 0 0) {r : Int32} {τ : St} (hr : xr X = (some (.int r), τ)) (s0 : Int32) (σ : St) (h : rM_drinksAt_168 s0 σ = some (r, τ)) : Jd X 4 168 [(0, .ref (wad (xw X) 0))] [.int s0] σ := by
  unfold rM_drinksAt_168 at h
  refine K_istore_n (fun v3_14 => [(3, .int v3_14), (0, .ref (wad (xw X) 0))]) hX dX12_drinksAt_168 rfl (by decide) (fun _ => rfl) h (fun v3_14 h => ?_)
  refine J_aload_n (q := 1) hX dX12_drinksAt_169 rfl rfl ?_
  refine J_dup hX dX12_drinksAt_170 rfl ?_
  refine K_geti hX (mc_0 hw) cls_X12 (k := 30) (by decide) uw_6_77 rfl dX12_drinksAt_171 ?_
  refine J_iload_n (q := 0) hX dX12_drinksAt_174 rfl rfl ?_
  refine J_isub hX dX12_drinksAt_175 ?_
  refine K_puti hX (mc_0 hw) cls_X12 (k := 30) (by decide) uw_6_77 rfl rfl rfl dX12_drinksAt_176 h (fun σ_15 h => ?_)
  refine J_aload_n (q := 1) hX dX12_drinksAt_179 rfl rfl ?_
  refine J_dup hX dX12_drinksAt_180 rfl ?_
  refine K_geti hX (mc_0 hw) cls_X12 (k := 32) (by decide) uw_6_79 rfl dX12_drinksAt_181 ?_
  refine J_iload_n (q := 0) hX dX12_drinksAt_184 rfl rfl ?_
  refine J_iadd hX dX12_drinksAt_185 ?_
  refine K_puti hX (mc_0 hw) cls_X12 (k := 32) (by decide) uw_6_79 rfl rfl rfl dX12_drinksAt_186 h (fun σ_16 h => ?_)
  refine J_iload_n (q := 0) hX dX12_drinksAt_189 rfl rfl ?_
  exact K_iret hX hr dX12_drinksAt_190 h

def rM_drinksAt_151 (s0 : Int32) (σ : St) : Option (Int32 × St) :=
  nm s0 fun v3_13 => brc (v3_13 ≤ (σ.1 0 30)) (rM_drinksAt_168 v3_13 σ) (rM_drinksAt_168 (σ.1 0 30) σ)
set_option maxRecDepth 100000 in
theorem tM_drinksAt_151 {X : CX} (hX : gd X cX12_drinksAt 4 RX12 (some .int)) (hw : (xw X).1 = mLy) (hg : nA X) (hR : xR X = rmOf 2 46 0 0) {r : Int32} {τ : St} (hr : xr X = (some (.int r), τ)) (s0 : Int32) (σ : St) (h : rM_drinksAt_151 s0 σ = some (r, τ)) : Jd X 4 151 [(0, .ref (wad (xw X) 0))] [.int s0] σ := by
  unfold rM_drinksAt_151 at h
  refine K_istore_n (fun v3_13 => [(3, .int v3_13), (0, .ref (wad (xw X) 0))]) hX dX12_drinksAt_151 rfl (by decide) (fun _ => rfl) h (fun v3_13 h => ?_)
  refine J_iload_n (q := 0) hX dX12_drinksAt_152 rfl rfl ?_
  refine J_aload_n (q := 1) hX dX12_drinksAt_153 rfl rfl ?_
  refine K_geti hX (mc_0 hw) cls_X12 (k := 30) (by decide) uw_6_77 rfl dX12_drinksAt_154 ?_
  refine K_icmp_le (tgt := 167) hX dX12_drinksAt_157 rfl h (fun h => ?_) (fun h => ?_)
  · refine J_iload_n (q := 0) hX dX12_drinksAt_167 rfl rfl ?_
    refine J_sub [1] rfl ?_
    exact tM_drinksAt_168 hX hw hg hR hr v3_13 σ h
  · refine J_aload_n (q := 1) hX dX12_drinksAt_160 rfl rfl ?_
    refine K_geti hX (mc_0 hw) cls_X12 (k := 30) (by decide) uw_6_77 rfl dX12_drinksAt_161 ?_
    refine J_goto (tgt := 168) hX dX12_drinksAt_164 rfl ?_
    refine J_sub [1] rfl ?_
    exact tM_drinksAt_168 hX hw hg hR hr (σ.1 0 30) σ h

def rM_drinksAt_133 (v1 : Int32) (s0 : Int32) (σ : St) : Option (Int32 × St) :=
  nm s0 fun v3_9 => bnd2 (rM_carrierOf v1 (0 : Int32) σ) fun r_12 σ_10 => brc (¬ r_12 = (1 : Int32)) (rM_drinksAt_151 v3_9 σ_10) (rM_drinksAt_151 ((2 : Int32) * v3_9) σ_10)
set_option maxRecDepth 100000 in
theorem tM_drinksAt_133 {X : CX} (hX : gd X cX12_drinksAt 4 RX12 (some .int)) (hw : (xw X).1 = mLy) (hg : nA X) (hR : xR X = rmOf 2 46 0 0) {r : Int32} {τ : St} (hr : xr X = (some (.int r), τ)) (v1 : Int32) (s0 : Int32) (σ : St) (h : rM_drinksAt_133 v1 s0 σ = some (r, τ)) : Jd X 4 133 [(0, .ref (wad (xw X) 0)), (1, .int v1)] [.int s0] σ := by
  unfold rM_drinksAt_133 at h
  refine K_istore_n (fun v3_9 => [(3, .int v3_9), (0, .ref (wad (xw X) 0)), (1, .int v1)]) hX dX12_drinksAt_133 rfl (by decide) (fun _ => rfl) h (fun v3_9 h => ?_)
  refine J_aload_n (q := 1) hX dX12_drinksAt_134 rfl rfl ?_
  refine J_iload_n (q := 2) hX dX12_drinksAt_135 rfl rfl ?_
  refine J_iconst (v := (0 : Int32)) hX dX12_drinksAt_136 (by decide) ?_
  obtain ⟨r_12, σ_10, hc_11, h⟩ := bnd2_some h
  refine K_callV [.int v1, .int (0 : Int32)] hX hg hR (ctM_carrierOf hw hc_11) lk_X12_315_X12_carrierOf md_X12_carrierOf (mc_0 hw) cls_X12 ⟨by decide, by decide⟩ rfl rfl (Nat.le_of_ble_eq_true rfl) dX12_drinksAt_137 ?_
  refine J_iconst (v := (1 : Int32)) hX dX12_drinksAt_140 (by decide) ?_
  refine K_icmp_ne (tgt := 150) hX dX12_drinksAt_141 rfl h (fun h => ?_) (fun h => ?_)
  · refine J_iload_n (q := 0) hX dX12_drinksAt_150 rfl rfl ?_
    refine J_sub [1] rfl ?_
    exact tM_drinksAt_151 hX hw hg hR hr v3_9 σ_10 h
  · refine J_iconst (v := (2 : Int32)) hX dX12_drinksAt_144 (by decide) ?_
    refine J_iload_n (q := 0) hX dX12_drinksAt_145 rfl rfl ?_
    refine J_imul hX dX12_drinksAt_146 ?_
    refine J_goto (tgt := 151) hX dX12_drinksAt_147 rfl ?_
    refine J_sub [1] rfl ?_
    exact tM_drinksAt_151 hX hw hg hR hr ((2 : Int32) * v3_9) σ_10 h

def rM_drinksAt_116 (v1 : Int32) (s0 : Int32) (σ : St) : Option (Int32 × St) :=
  nm s0 fun v3_8 => brc (v3_8 ≤ (σ.1 0 30)) (rM_drinksAt_133 v1 v3_8 σ) (rM_drinksAt_133 v1 (σ.1 0 30) σ)
set_option maxRecDepth 100000 in
theorem tM_drinksAt_116 {X : CX} (hX : gd X cX12_drinksAt 4 RX12 (some .int)) (hw : (xw X).1 = mLy) (hg : nA X) (hR : xR X = rmOf 2 46 0 0) {r : Int32} {τ : St} (hr : xr X = (some (.int r), τ)) (v1 : Int32) (s0 : Int32) (σ : St) (h : rM_drinksAt_116 v1 s0 σ = some (r, τ)) : Jd X 4 116 [(0, .ref (wad (xw X) 0)), (1, .int v1)] [.int s0] σ := by
  unfold rM_drinksAt_116 at h
  refine K_istore_n (fun v3_8 => [(3, .int v3_8), (0, .ref (wad (xw X) 0)), (1, .int v1)]) hX dX12_drinksAt_116 rfl (by decide) (fun _ => rfl) h (fun v3_8 h => ?_)
  refine J_iload_n (q := 0) hX dX12_drinksAt_117 rfl rfl ?_
  refine J_aload_n (q := 1) hX dX12_drinksAt_118 rfl rfl ?_
  refine K_geti hX (mc_0 hw) cls_X12 (k := 30) (by decide) uw_6_77 rfl dX12_drinksAt_119 ?_
  refine K_icmp_le (tgt := 132) hX dX12_drinksAt_122 rfl h (fun h => ?_) (fun h => ?_)
  · refine J_iload_n (q := 0) hX dX12_drinksAt_132 rfl rfl ?_
    refine J_sub [1, 2] rfl ?_
    exact tM_drinksAt_133 hX hw hg hR hr v1 v3_8 σ h
  · refine J_aload_n (q := 1) hX dX12_drinksAt_125 rfl rfl ?_
    refine K_geti hX (mc_0 hw) cls_X12 (k := 30) (by decide) uw_6_77 rfl dX12_drinksAt_126 ?_
    refine J_goto (tgt := 133) hX dX12_drinksAt_129 rfl ?_
    refine J_sub [1, 2] rfl ?_
    exact tM_drinksAt_133 hX hw hg hR hr v1 (σ.1 0 30) σ h

def rM_drinksAt_111 (v1 : Int32) (σ : St) : Option (Int32 × St) :=
  rM_drinksAt_116 v1 (0 : Int32) σ
set_option maxRecDepth 100000 in
theorem tM_drinksAt_111 {X : CX} (hX : gd X cX12_drinksAt 4 RX12 (some .int)) (hw : (xw X).1 = mLy) (hg : nA X) (hR : xR X = rmOf 2 46 0 0) {r : Int32} {τ : St} (hr : xr X = (some (.int r), τ)) (v1 : Int32) (σ : St) (h : rM_drinksAt_111 v1 σ = some (r, τ)) : Jd X 4 111 [(0, .ref (wad (xw X) 0)), (1, .int v1)] [] σ := by
  unfold rM_drinksAt_111 at h
  refine J_iconst (v := (0 : Int32)) hX dX12_drinksAt_111 (by decide) ?_
  refine J_goto (tgt := 116) hX dX12_drinksAt_112 rfl ?_
  refine J_sub [0, 1] rfl ?_
  exact tM_drinksAt_116 hX hw hg hR hr v1 (0 : Int32) σ h

def rM_drinksAt_107 (v1 : Int32) (v3 : Int32) (σ : St) : Option (Int32 × St) :=
  brc (0 ≤ v3) (rM_drinksAt_116 v1 v3 σ) (rM_drinksAt_111 v1 σ)
set_option maxRecDepth 100000 in
theorem tM_drinksAt_107 {X : CX} (hX : gd X cX12_drinksAt 4 RX12 (some .int)) (hw : (xw X).1 = mLy) (hg : nA X) (hR : xR X = rmOf 2 46 0 0) {r : Int32} {τ : St} (hr : xr X = (some (.int r), τ)) (v1 : Int32) (v3 : Int32) (σ : St) (h : rM_drinksAt_107 v1 v3 σ = some (r, τ)) : Jd X 4 107 [(0, .ref (wad (xw X) 0)), (1, .int v1), (3, .int v3)] [] σ := by
  unfold rM_drinksAt_107 at h
  refine J_iload_n (q := 2) hX dX12_drinksAt_107 rfl rfl ?_
  refine K_if_ge (tgt := 115) hX dX12_drinksAt_108 rfl h (fun h => ?_) (fun h => ?_)
  · refine J_iload_n (q := 2) hX dX12_drinksAt_115 rfl rfl ?_
    refine J_sub [0, 1] rfl ?_
    exact tM_drinksAt_116 hX hw hg hR hr v1 v3 σ h
  · refine J_sub [0, 1] rfl ?_
    exact tM_drinksAt_111 hX hw hg hR hr v1 σ h

def rM_drinksAt_89 (v1 : Int32) (v3 : Int32) (σ : St) : Option (Int32 × St) :=
  bnd2 (rM_carrierOf v1 (0 : Int32) σ) fun r_7 σ_5 => brc (¬ r_7 = (3 : Int32)) (rM_drinksAt_107 v1 v3 σ_5) (bnd2 (rM_debtOf v1 σ_5) fun r_19 σ_17 => brc (0 < r_19) (rM_drinksAt_111 v1 σ_17) (rM_drinksAt_107 v1 v3 σ_17))
set_option maxRecDepth 100000 in
theorem tM_drinksAt_89 {X : CX} (hX : gd X cX12_drinksAt 4 RX12 (some .int)) (hw : (xw X).1 = mLy) (hg : nA X) (hR : xR X = rmOf 2 46 0 0) {r : Int32} {τ : St} (hr : xr X = (some (.int r), τ)) (v1 : Int32) (v3 : Int32) (σ : St) (h : rM_drinksAt_89 v1 v3 σ = some (r, τ)) : Jd X 4 89 [(0, .ref (wad (xw X) 0)), (1, .int v1), (3, .int v3)] [] σ := by
  unfold rM_drinksAt_89 at h
  refine J_aload_n (q := 0) hX dX12_drinksAt_89 rfl rfl ?_
  refine J_iload_n (q := 1) hX dX12_drinksAt_90 rfl rfl ?_
  refine J_iconst (v := (0 : Int32)) hX dX12_drinksAt_91 (by decide) ?_
  obtain ⟨r_7, σ_5, hc_6, h⟩ := bnd2_some h
  refine K_callV [.int v1, .int (0 : Int32)] hX hg hR (ctM_carrierOf hw hc_6) lk_X12_315_X12_carrierOf md_X12_carrierOf (mc_0 hw) cls_X12 ⟨by decide, by decide⟩ rfl rfl (Nat.le_of_ble_eq_true rfl) dX12_drinksAt_92 ?_
  refine J_iconst (v := (3 : Int32)) hX dX12_drinksAt_95 (by decide) ?_
  refine K_icmp_ne (tgt := 107) hX dX12_drinksAt_96 rfl h (fun h => ?_) (fun h => ?_)
  · refine J_sub [0, 1, 2] rfl ?_
    exact tM_drinksAt_107 hX hw hg hR hr v1 v3 σ_5 h
  · refine J_aload_n (q := 0) hX dX12_drinksAt_99 rfl rfl ?_
    refine J_iload_n (q := 1) hX dX12_drinksAt_100 rfl rfl ?_
    obtain ⟨r_19, σ_17, hc_18, h⟩ := bnd2_some h
    refine K_callV [.int v1] hX hg hR (ctM_debtOf hw hc_18) lk_X12_339_X12_debtOf md_X12_debtOf (mc_0 hw) cls_X12 ⟨by decide, by decide⟩ rfl rfl (Nat.le_of_ble_eq_true rfl) dX12_drinksAt_101 ?_
    refine K_if_gt (tgt := 111) hX dX12_drinksAt_104 rfl h (fun h => ?_) (fun h => ?_)
    · refine J_sub [0, 1] rfl ?_
      exact tM_drinksAt_111 hX hw hg hR hr v1 σ_17 h
    · refine J_sub [0, 1, 2] rfl ?_
      exact tM_drinksAt_107 hX hw hg hR hr v1 v3 σ_17 h

def rM_drinksAt (v1 : Int32) (v2 : Int32) (σ : St) : Option (Int32 × St) :=
  bnd2 (rM_carrierOf v1 (3 : Int32) σ) fun r_3 σ_1 => nm r_3 fun v3_4 => chk (ib (6 : Int32) 320) (brc ((σ_1.1 6 (6 : Int32).toNatClampNeg) < 0) (rM_drinksAt_89 v1 v3_4 σ_1) (bnd2 (rM_carrierOf v1 (3 : Int32) σ_1) fun r_22 σ_20 => chk (ib (0 : Int32) 5) (nm (setI σ_20 14 (0 : Int32).toNatClampNeg r_22) fun σ_23 => chk (ib (1 : Int32) 5) (nm (setI σ_23 14 (1 : Int32).toNatClampNeg (σ_23.1 0 30)) fun σ_24 => chk (ib ((8 : Int32) + ((2 : Int32) * v2)) 320) (chk (ib (2 : Int32) 5) (nm (setI σ_24 14 (2 : Int32).toNatClampNeg (σ_24.1 6 ((8 : Int32) + ((2 : Int32) * v2)).toNatClampNeg)) fun σ_25 => chk (ib (3 : Int32) 5) (nm (setI σ_25 14 (3 : Int32).toNatClampNeg (σ_25.1 0 31)) fun σ_26 => bnd2 (rM_debtOf v1 σ_26) fun r_29 σ_27 => chk (ib (4 : Int32) 5) (nm (setI σ_27 14 (4 : Int32).toNatClampNeg r_29) fun σ_30 => chk (ib (6 : Int32) 320) (bnd2 (rM_worthAt (σ_30.1 6 (6 : Int32).toNatClampNeg) σ_30) fun r_33 σ_31 => nm r_33 fun v3_34 => rM_drinksAt_89 v1 v3_34 σ_31)))))))))
set_option maxRecDepth 100000 in
theorem tM_drinksAt {X : CX} (hX : gd X cX12_drinksAt 4 RX12 (some .int)) (hw : (xw X).1 = mLy) (hg : nA X) (hR : xR X = rmOf 2 46 0 0) {r : Int32} {τ : St} (hr : xr X = (some (.int r), τ)) (v1 : Int32) (v2 : Int32) (σ : St) (h : rM_drinksAt v1 v2 σ = some (r, τ)) : Jd X 4 0 [(0, .ref (wad (xw X) 0)), (1, .int v1), (2, .int v2)] [] σ := by
  unfold rM_drinksAt at h
  refine J_aload_n (q := 0) hX dX12_drinksAt_0 rfl rfl ?_
  refine J_iload_n (q := 1) hX dX12_drinksAt_1 rfl rfl ?_
  refine J_iconst (v := (3 : Int32)) hX dX12_drinksAt_2 (by decide) ?_
  obtain ⟨r_3, σ_1, hc_2, h⟩ := bnd2_some h
  refine K_callV [.int v1, .int (3 : Int32)] hX hg hR (ctM_carrierOf hw hc_2) lk_X12_315_X12_carrierOf md_X12_carrierOf (mc_0 hw) cls_X12 ⟨by decide, by decide⟩ rfl rfl (Nat.le_of_ble_eq_true rfl) dX12_drinksAt_3 ?_
  refine K_istore_n (fun v3_4 => [(3, .int v3_4), (0, .ref (wad (xw X) 0)), (1, .int v1), (2, .int v2)]) hX dX12_drinksAt_6 rfl (by decide) (fun _ => rfl) h (fun v3_4 h => ?_)
  refine J_aload_n (q := 1) hX dX12_drinksAt_7 rfl rfl ?_
  refine K_getc 6 hX (mc_0 hw) cls_X12 (k := 10) (by decide) uw_6_57 rfl dX12_drinksAt_8 ?_
  refine J_bipush (v := (6 : Int32)) hX dX12_drinksAt_11 (by decide) ?_
  refine K_iald hX (mc_6 hw) dX12_drinksAt_13 h (fun h => ?_)
  refine K_if_lt (tgt := 89) hX dX12_drinksAt_14 rfl h (fun h => ?_) (fun h => ?_)
  · refine J_sub [1, 2, 0] rfl ?_
    exact tM_drinksAt_89 hX hw hg hR hr v1 v3_4 σ_1 h
  · refine J_aload_n (q := 1) hX dX12_drinksAt_17 rfl rfl ?_
    refine K_getc 14 hX (mc_0 hw) cls_X12 (k := 22) (by decide) uw_6_69 rfl dX12_drinksAt_18 ?_
    refine J_iconst (v := (0 : Int32)) hX dX12_drinksAt_21 (by decide) ?_
    refine J_aload_n (q := 1) hX dX12_drinksAt_22 rfl rfl ?_
    refine J_iload_n (q := 2) hX dX12_drinksAt_23 rfl rfl ?_
    refine J_iconst (v := (3 : Int32)) hX dX12_drinksAt_24 (by decide) ?_
    obtain ⟨r_22, σ_20, hc_21, h⟩ := bnd2_some h
    refine K_callV [.int v1, .int (3 : Int32)] hX hg hR (ctM_carrierOf hw hc_21) lk_X12_315_X12_carrierOf md_X12_carrierOf (mc_0 hw) cls_X12 ⟨by decide, by decide⟩ rfl rfl (Nat.le_of_ble_eq_true rfl) dX12_drinksAt_25 ?_
    refine K_iast hX (mc_14 hw) dX12_drinksAt_28 h (fun σ_23 h => ?_)
    refine J_aload_n (q := 1) hX dX12_drinksAt_29 rfl rfl ?_
    refine K_getc 14 hX (mc_0 hw) cls_X12 (k := 22) (by decide) uw_6_69 rfl dX12_drinksAt_30 ?_
    refine J_iconst (v := (1 : Int32)) hX dX12_drinksAt_33 (by decide) ?_
    refine J_aload_n (q := 1) hX dX12_drinksAt_34 rfl rfl ?_
    refine K_geti hX (mc_0 hw) cls_X12 (k := 30) (by decide) uw_6_77 rfl dX12_drinksAt_35 ?_
    refine K_iast hX (mc_14 hw) dX12_drinksAt_38 h (fun σ_24 h => ?_)
    refine J_aload_n (q := 1) hX dX12_drinksAt_39 rfl rfl ?_
    refine K_getc 14 hX (mc_0 hw) cls_X12 (k := 22) (by decide) uw_6_69 rfl dX12_drinksAt_40 ?_
    refine J_iconst (v := (2 : Int32)) hX dX12_drinksAt_43 (by decide) ?_
    refine J_aload_n (q := 1) hX dX12_drinksAt_44 rfl rfl ?_
    refine K_getc 6 hX (mc_0 hw) cls_X12 (k := 10) (by decide) uw_6_57 rfl dX12_drinksAt_45 ?_
    refine J_bipush (v := (8 : Int32)) hX dX12_drinksAt_48 (by decide) ?_
    refine J_iconst (v := (2 : Int32)) hX dX12_drinksAt_50 (by decide) ?_
    refine J_iload_n (q := 3) hX dX12_drinksAt_51 rfl rfl ?_
    refine J_imul hX dX12_drinksAt_52 ?_
    refine J_iadd hX dX12_drinksAt_53 ?_
    refine K_iald hX (mc_6 hw) dX12_drinksAt_54 h (fun h => ?_)
    refine K_iast hX (mc_14 hw) dX12_drinksAt_55 h (fun σ_25 h => ?_)
    refine J_aload_n (q := 1) hX dX12_drinksAt_56 rfl rfl ?_
    refine K_getc 14 hX (mc_0 hw) cls_X12 (k := 22) (by decide) uw_6_69 rfl dX12_drinksAt_57 ?_
    refine J_iconst (v := (3 : Int32)) hX dX12_drinksAt_60 (by decide) ?_
    refine J_aload_n (q := 1) hX dX12_drinksAt_61 rfl rfl ?_
    refine K_geti hX (mc_0 hw) cls_X12 (k := 31) (by decide) uw_6_78 rfl dX12_drinksAt_62 ?_
    refine K_iast hX (mc_14 hw) dX12_drinksAt_65 h (fun σ_26 h => ?_)
    refine J_aload_n (q := 1) hX dX12_drinksAt_66 rfl rfl ?_
    refine K_getc 14 hX (mc_0 hw) cls_X12 (k := 22) (by decide) uw_6_69 rfl dX12_drinksAt_67 ?_
    refine J_iconst (v := (4 : Int32)) hX dX12_drinksAt_70 (by decide) ?_
    refine J_aload_n (q := 1) hX dX12_drinksAt_71 rfl rfl ?_
    refine J_iload_n (q := 2) hX dX12_drinksAt_72 rfl rfl ?_
    obtain ⟨r_29, σ_27, hc_28, h⟩ := bnd2_some h
    refine K_callV [.int v1] hX hg hR (ctM_debtOf hw hc_28) lk_X12_339_X12_debtOf md_X12_debtOf (mc_0 hw) cls_X12 ⟨by decide, by decide⟩ rfl rfl (Nat.le_of_ble_eq_true rfl) dX12_drinksAt_73 ?_
    refine K_iast hX (mc_14 hw) dX12_drinksAt_76 h (fun σ_30 h => ?_)
    refine J_aload_n (q := 1) hX dX12_drinksAt_77 rfl rfl ?_
    refine J_aload_n (q := 1) hX dX12_drinksAt_78 rfl rfl ?_
    refine K_getc 6 hX (mc_0 hw) cls_X12 (k := 10) (by decide) uw_6_57 rfl dX12_drinksAt_79 ?_
    refine J_bipush (v := (6 : Int32)) hX dX12_drinksAt_82 (by decide) ?_
    refine K_iald hX (mc_6 hw) dX12_drinksAt_84 h (fun h => ?_)
    obtain ⟨r_33, σ_31, hc_32, h⟩ := bnd2_some h
    refine K_callV [.int (σ_30.1 6 (6 : Int32).toNatClampNeg)] hX hg hR (ctM_worthAt hw hc_32) lk_X12_342_X12_worthAt md_X12_worthAt (mc_0 hw) cls_X12 ⟨by decide, by decide⟩ rfl rfl (Nat.le_of_ble_eq_true rfl) dX12_drinksAt_85 ?_
    refine K_istore_n (fun v3_34 => [(3, .int v3_34), (0, .ref (wad (xw X) 0)), (1, .int v1), (2, .int v2)]) hX dX12_drinksAt_88 rfl (by decide) (fun _ => rfl) h (fun v3_34 h => ?_)
    refine J_sub [1, 2, 0] rfl ?_
    exact tM_drinksAt_89 hX hw hg hR hr v1 v3_34 σ_31 h
theorem ctM_drinksAt {w : WT} (hw : w.1 = mLy) {v1 : Int32} {v2 : Int32} {σ : St} {r : Int32} {τ : St} (h : rM_drinksAt v1 v2 σ = some (r, τ)) : Ct yX12_drinksAt cX12_drinksAt 4 (some .int) 2 46 w [.ref (wad w 0), .int v1, .int v2] σ (some (.int r)) τ 0 0 :=
  Ct_intro (fun _ => (0, 0)) (by decide) rfl ⟨rfl, Nat.le_refl _⟩ (Nat.le_of_ble_eq_true rfl) (fun X hX hR hwX hg hr => by subst hwX; exact tM_drinksAt hX hw hg hR hr v1 v2 σ h)

def rM_canCarry_26 (s0 : Int32) (σ : St) : Option (Int32 × St) :=
  chk (decide (s0 = 0 ∨ s0 = 1)) (some (s0, σ))
set_option maxRecDepth 100000 in
theorem tM_canCarry_26 {X : CX} (hX : gd X cX12_canCarry 3 RX12 (some .boolean)) (hw : (xw X).1 = mLy) (hg : nA X) (hR : xR X = rmOf 2 43 0 0) {r : Int32} {τ : St} (hr : xr X = (some (.int r), τ)) (s0 : Int32) (σ : St) (h : rM_canCarry_26 s0 σ = some (r, τ)) : Jd X 3 26 [] [.int s0] σ := by
  unfold rM_canCarry_26 at h
  exact K_zret hX hr dX12_canCarry_26 h

def rM_canCarry_25 (σ : St) : Option (Int32 × St) :=
  rM_canCarry_26 (0 : Int32) σ
set_option maxRecDepth 100000 in
theorem tM_canCarry_25 {X : CX} (hX : gd X cX12_canCarry 3 RX12 (some .boolean)) (hw : (xw X).1 = mLy) (hg : nA X) (hR : xR X = rmOf 2 43 0 0) {r : Int32} {τ : St} (hr : xr X = (some (.int r), τ)) (σ : St) (h : rM_canCarry_25 σ = some (r, τ)) : Jd X 3 25 [] [] σ := by
  unfold rM_canCarry_25 at h
  refine J_iconst (v := (0 : Int32)) hX dX12_canCarry_25 (by decide) ?_
  refine J_sub [] rfl ?_
  exact tM_canCarry_26 hX hw hg hR hr (0 : Int32) σ h

def rM_canCarry (v1 : Int32) (v2 : Int32) (σ : St) : Option (Int32 × St) :=
  bnd2 (rM_isCarrier v1 σ) fun r_3 σ_1 => brc (r_3 = 0) (rM_canCarry_25 σ_1) (brc (v2 < 0) (rM_canCarry_25 σ_1) (bnd2 (rM_holds v1 σ_1) fun r_6 σ_4 => brc (r_6 < v2) (rM_canCarry_25 σ_4) (rM_canCarry_26 (1 : Int32) σ_4)))
set_option maxRecDepth 100000 in
theorem tM_canCarry {X : CX} (hX : gd X cX12_canCarry 3 RX12 (some .boolean)) (hw : (xw X).1 = mLy) (hg : nA X) (hR : xR X = rmOf 2 43 0 0) {r : Int32} {τ : St} (hr : xr X = (some (.int r), τ)) (v1 : Int32) (v2 : Int32) (σ : St) (h : rM_canCarry v1 v2 σ = some (r, τ)) : Jd X 3 0 [(0, .ref (wad (xw X) 0)), (1, .int v1), (2, .int v2)] [] σ := by
  unfold rM_canCarry at h
  refine J_aload_n (q := 0) hX dX12_canCarry_0 rfl rfl ?_
  refine J_iload_n (q := 1) hX dX12_canCarry_1 rfl rfl ?_
  obtain ⟨r_3, σ_1, hc_2, h⟩ := bnd2_some h
  refine K_callV [.int v1] hX hg hR (ctM_isCarrier hw hc_2) lk_X12_363_X12_isCarrier md_X12_isCarrier (mc_0 hw) cls_X12 ⟨by decide, by decide⟩ rfl rfl (Nat.le_of_ble_eq_true rfl) dX12_canCarry_2 ?_
  refine K_if_eq (tgt := 25) hX dX12_canCarry_5 rfl h (fun h => ?_) (fun h => ?_)
  · refine J_sub [] rfl ?_
    exact tM_canCarry_25 hX hw hg hR hr σ_1 h
  · refine J_iload_n (q := 2) hX dX12_canCarry_8 rfl rfl ?_
    refine K_if_lt (tgt := 25) hX dX12_canCarry_9 rfl h (fun h => ?_) (fun h => ?_)
    · refine J_sub [] rfl ?_
      exact tM_canCarry_25 hX hw hg hR hr σ_1 h
    · refine J_iload_n (q := 2) hX dX12_canCarry_12 rfl rfl ?_
      refine J_aload_n (q := 0) hX dX12_canCarry_13 rfl rfl ?_
      refine J_iload_n (q := 1) hX dX12_canCarry_14 rfl rfl ?_
      obtain ⟨r_6, σ_4, hc_5, h⟩ := bnd2_some h
      refine K_callV [.int v1] hX hg hR (ctM_holds hw hc_5) lk_X12_366_X12_holds md_X12_holds (mc_0 hw) cls_X12 ⟨by decide, by decide⟩ rfl rfl (Nat.le_of_ble_eq_true rfl) dX12_canCarry_15 ?_
      refine K_icmp_gt (tgt := 25) hX dX12_canCarry_18 rfl h (fun h => ?_) (fun h => ?_)
      · refine J_sub [] rfl ?_
        exact tM_canCarry_25 hX hw hg hR hr σ_4 h
      · refine J_iconst (v := (1 : Int32)) hX dX12_canCarry_21 (by decide) ?_
        refine J_goto (tgt := 26) hX dX12_canCarry_22 rfl ?_
        refine J_sub [] rfl ?_
        exact tM_canCarry_26 hX hw hg hR hr (1 : Int32) σ_4 h
theorem ctM_canCarry {w : WT} (hw : w.1 = mLy) {v1 : Int32} {v2 : Int32} {σ : St} {r : Int32} {τ : St} (h : rM_canCarry v1 v2 σ = some (r, τ)) : Ct yX12_canCarry cX12_canCarry 3 (some .boolean) 2 43 w [.ref (wad w 0), .int v1, .int v2] σ (some (.int r)) τ 0 0 :=
  Ct_intro (fun _ => (0, 0)) (by decide) rfl ⟨rfl, Nat.le_refl _⟩ (Nat.le_of_ble_eq_true rfl) (fun X hX hR hwX hg hr => by subst hwX; exact tM_canCarry hX hw hg hR hr v1 v2 σ h)

def rM_station_22 (σ : St) : Option (Int32 × St) :=
  some ((-1 : Int32), σ)
set_option maxRecDepth 100000 in
theorem tM_station_22 {X : CX} (hX : gd X cX12_station 3 RX12 (some .int)) (hw : (xw X).1 = mLy) (hg : nA X) (hR : xR X = rmOf 2 41 0 0) {r : Int32} {τ : St} (hr : xr X = (some (.int r), τ)) (σ : St) (h : rM_station_22 σ = some (r, τ)) : Jd X 3 22 [] [] σ := by
  unfold rM_station_22 at h
  refine J_iconst (v := (-1 : Int32)) hX dX12_station_22 (by decide) ?_
  exact K_iret hX hr dX12_station_23 h

def rM_station_54 (s0 : Int32) (σ : St) : Option (Int32 × St) :=
  some (s0, σ)
set_option maxRecDepth 100000 in
theorem tM_station_54 {X : CX} (hX : gd X cX12_station 3 RX12 (some .int)) (hw : (xw X).1 = mLy) (hg : nA X) (hR : xR X = rmOf 2 41 0 0) {r : Int32} {τ : St} (hr : xr X = (some (.int r), τ)) (s0 : Int32) (σ : St) (h : rM_station_54 s0 σ = some (r, τ)) : Jd X 3 54 [] [.int s0] σ := by
  unfold rM_station_54 at h
  exact K_iret hX hr dX12_station_54 h

def rM_station (v1 : Int32) (v2 : Int32) (σ : St) : Option (Int32 × St) :=
  nm (setI σ 0 0 (0 : Int32)) fun σ_1 => bnd2 (rM_isStation v1 σ_1) fun r_4 σ_2 => brc (r_4 = 0) (rM_station_22 σ_2) (bnd2 (rM_within v2 (0 : Int32) (2 : Int32) σ_2) fun r_7 σ_5 => brc (¬ r_7 = 0) (brc ((2 : Int32) ≤ v2) (chk (ib ((43 : Int32) + v1) 6000) (rM_station_54 (σ_5.1 16 ((43 : Int32) + v1).toNatClampNeg) σ_5)) (chk (ib (((8 : Int32) + ((2 : Int32) * v1)) + v2) 320) (rM_station_54 (σ_5.1 6 (((8 : Int32) + ((2 : Int32) * v1)) + v2).toNatClampNeg) σ_5))) (rM_station_22 σ_5))
set_option maxRecDepth 100000 in
theorem tM_station {X : CX} (hX : gd X cX12_station 3 RX12 (some .int)) (hw : (xw X).1 = mLy) (hg : nA X) (hR : xR X = rmOf 2 41 0 0) {r : Int32} {τ : St} (hr : xr X = (some (.int r), τ)) (v1 : Int32) (v2 : Int32) (σ : St) (h : rM_station v1 v2 σ = some (r, τ)) : Jd X 3 0 [(0, .ref (wad (xw X) 0)), (1, .int v1), (2, .int v2)] [] σ := by
  unfold rM_station at h
  refine J_aload_n (q := 0) hX dX12_station_0 rfl rfl ?_
  refine J_iconst (v := (0 : Int32)) hX dX12_station_1 (by decide) ?_
  refine K_puti hX (mc_0 hw) cls_X12 (k := 0) (by decide) uw_6_47 rfl rfl rfl dX12_station_2 h (fun σ_1 h => ?_)
  refine J_aload_n (q := 0) hX dX12_station_5 rfl rfl ?_
  refine J_iload_n (q := 1) hX dX12_station_6 rfl rfl ?_
  obtain ⟨r_4, σ_2, hc_3, h⟩ := bnd2_some h
  refine K_callV [.int v1] hX hg hR (ctM_isStation hw hc_3) lk_X12_369_X12_isStation md_X12_isStation (mc_0 hw) cls_X12 ⟨by decide, by decide⟩ rfl rfl (Nat.le_of_ble_eq_true rfl) dX12_station_7 ?_
  refine K_if_eq (tgt := 22) hX dX12_station_10 rfl h (fun h => ?_) (fun h => ?_)
  · refine J_sub [] rfl ?_
    exact tM_station_22 hX hw hg hR hr σ_2 h
  · refine J_iload_n (q := 2) hX dX12_station_13 rfl rfl ?_
    refine J_iconst (v := (0 : Int32)) hX dX12_station_14 (by decide) ?_
    refine J_iconst (v := (2 : Int32)) hX dX12_station_15 (by decide) ?_
    obtain ⟨r_7, σ_5, hc_6, h⟩ := bnd2_some h
    refine K_callS [.int v2, .int (0 : Int32), .int (2 : Int32)] hX hg hR (ctM_within hw hc_6) lk_X12_372_X12_within md_X12_within ⟨by decide, by decide⟩ rfl rfl (Nat.le_of_ble_eq_true rfl) dX12_station_16 ?_
    refine K_if_ne (tgt := 24) hX dX12_station_19 rfl h (fun h => ?_) (fun h => ?_)
    · refine J_iload_n (q := 2) hX dX12_station_24 rfl rfl ?_
      refine J_iconst (v := (2 : Int32)) hX dX12_station_25 (by decide) ?_
      refine K_icmp_ge (tgt := 45) hX dX12_station_26 rfl h (fun h => ?_) (fun h => ?_)
      · refine J_aload_n (q := 0) hX dX12_station_45 rfl rfl ?_
        refine K_getc 16 hX (mc_0 hw) cls_X12 (k := 24) (by decide) uw_6_71 rfl dX12_station_46 ?_
        refine J_bipush (v := (43 : Int32)) hX dX12_station_49 (by decide) ?_
        refine J_iload_n (q := 1) hX dX12_station_51 rfl rfl ?_
        refine J_iadd hX dX12_station_52 ?_
        refine K_iald hX (mc_16 hw) dX12_station_53 h (fun h => ?_)
        refine J_sub [] rfl ?_
        exact tM_station_54 hX hw hg hR hr (σ_5.1 16 ((43 : Int32) + v1).toNatClampNeg) σ_5 h
      · refine J_aload_n (q := 0) hX dX12_station_29 rfl rfl ?_
        refine K_getc 6 hX (mc_0 hw) cls_X12 (k := 10) (by decide) uw_6_57 rfl dX12_station_30 ?_
        refine J_bipush (v := (8 : Int32)) hX dX12_station_33 (by decide) ?_
        refine J_iconst (v := (2 : Int32)) hX dX12_station_35 (by decide) ?_
        refine J_iload_n (q := 1) hX dX12_station_36 rfl rfl ?_
        refine J_imul hX dX12_station_37 ?_
        refine J_iadd hX dX12_station_38 ?_
        refine J_iload_n (q := 2) hX dX12_station_39 rfl rfl ?_
        refine J_iadd hX dX12_station_40 ?_
        refine K_iald hX (mc_6 hw) dX12_station_41 h (fun h => ?_)
        refine J_goto (tgt := 54) hX dX12_station_42 rfl ?_
        refine J_sub [] rfl ?_
        exact tM_station_54 hX hw hg hR hr (σ_5.1 6 (((8 : Int32) + ((2 : Int32) * v1)) + v2).toNatClampNeg) σ_5 h
    · refine J_sub [] rfl ?_
      exact tM_station_22 hX hw hg hR hr σ_5 h
theorem ctM_station {w : WT} (hw : w.1 = mLy) {v1 : Int32} {v2 : Int32} {σ : St} {r : Int32} {τ : St} (h : rM_station v1 v2 σ = some (r, τ)) : Ct yX12_station cX12_station 3 (some .int) 2 41 w [.ref (wad w 0), .int v1, .int v2] σ (some (.int r)) τ 0 0 :=
  Ct_intro (fun _ => (0, 0)) (by decide) rfl ⟨rfl, Nat.le_refl _⟩ (Nat.le_of_ble_eq_true rfl) (fun X hX hR hwX hg hr => by subst hwX; exact tM_station hX hw hg hR hr v1 v2 σ h)

def rM_way_51 (s0 : Int32) (σ : St) : Option (Int32 × St) :=
  some (s0, σ)
set_option maxRecDepth 100000 in
theorem tM_way_51 {X : CX} (hX : gd X cX12_way 4 RX12 (some .int)) (hw : (xw X).1 = mLy) (hg : nA X) (hR : xR X = rmOf 2 41 0 0) {r : Int32} {τ : St} (hr : xr X = (some (.int r), τ)) (s0 : Int32) (σ : St) (h : rM_way_51 s0 σ = some (r, τ)) : Jd X 4 51 [] [.int s0] σ := by
  unfold rM_way_51 at h
  exact K_iret hX hr dX12_way_51 h

def rM_way_50 (σ : St) : Option (Int32 × St) :=
  rM_way_51 (-1 : Int32) σ
set_option maxRecDepth 100000 in
theorem tM_way_50 {X : CX} (hX : gd X cX12_way 4 RX12 (some .int)) (hw : (xw X).1 = mLy) (hg : nA X) (hR : xR X = rmOf 2 41 0 0) {r : Int32} {τ : St} (hr : xr X = (some (.int r), τ)) (σ : St) (h : rM_way_50 σ = some (r, τ)) : Jd X 4 50 [] [] σ := by
  unfold rM_way_50 at h
  refine J_iconst (v := (-1 : Int32)) hX dX12_way_50 (by decide) ?_
  refine J_sub [] rfl ?_
  exact tM_way_51 hX hw hg hR hr (-1 : Int32) σ h

def rM_way (v1 : Int32) (v2 : Int32) (v3 : Int32) (σ : St) : Option (Int32 × St) :=
  nm (setI σ 0 0 (0 : Int32)) fun σ_1 => bnd2 (rM_isStation v1 σ_1) fun r_4 σ_2 => brc (r_4 = 0) (rM_way_50 σ_2) (bnd2 (rM_isStation v2 σ_2) fun r_7 σ_5 => brc (r_7 = 0) (rM_way_50 σ_5) (bnd2 (rM_within v3 (0 : Int32) (1 : Int32) σ_5) fun r_10 σ_8 => brc (r_10 = 0) (rM_way_50 σ_8) (bnd2 (rM_wayOf v1 v2 (0 : Int32) σ_8) fun r_13 σ_11 => brc (r_13 ≤ 0) (rM_way_50 σ_11) (bnd2 (rM_wayOf v1 v2 v3 σ_11) fun r_16 σ_14 => rM_way_51 r_16 σ_14))))
set_option maxRecDepth 100000 in
theorem tM_way {X : CX} (hX : gd X cX12_way 4 RX12 (some .int)) (hw : (xw X).1 = mLy) (hg : nA X) (hR : xR X = rmOf 2 41 0 0) {r : Int32} {τ : St} (hr : xr X = (some (.int r), τ)) (v1 : Int32) (v2 : Int32) (v3 : Int32) (σ : St) (h : rM_way v1 v2 v3 σ = some (r, τ)) : Jd X 4 0 [(0, .ref (wad (xw X) 0)), (1, .int v1), (2, .int v2), (3, .int v3)] [] σ := by
  unfold rM_way at h
  refine J_aload_n (q := 0) hX dX12_way_0 rfl rfl ?_
  refine J_iconst (v := (0 : Int32)) hX dX12_way_1 (by decide) ?_
  refine K_puti hX (mc_0 hw) cls_X12 (k := 0) (by decide) uw_6_47 rfl rfl rfl dX12_way_2 h (fun σ_1 h => ?_)
  refine J_aload_n (q := 0) hX dX12_way_5 rfl rfl ?_
  refine J_iload_n (q := 1) hX dX12_way_6 rfl rfl ?_
  obtain ⟨r_4, σ_2, hc_3, h⟩ := bnd2_some h
  refine K_callV [.int v1] hX hg hR (ctM_isStation hw hc_3) lk_X12_369_X12_isStation md_X12_isStation (mc_0 hw) cls_X12 ⟨by decide, by decide⟩ rfl rfl (Nat.le_of_ble_eq_true rfl) dX12_way_7 ?_
  refine K_if_eq (tgt := 50) hX dX12_way_10 rfl h (fun h => ?_) (fun h => ?_)
  · refine J_sub [] rfl ?_
    exact tM_way_50 hX hw hg hR hr σ_2 h
  · refine J_aload_n (q := 0) hX dX12_way_13 rfl rfl ?_
    refine J_iload_n (q := 2) hX dX12_way_14 rfl rfl ?_
    obtain ⟨r_7, σ_5, hc_6, h⟩ := bnd2_some h
    refine K_callV [.int v2] hX hg hR (ctM_isStation hw hc_6) lk_X12_369_X12_isStation md_X12_isStation (mc_0 hw) cls_X12 ⟨by decide, by decide⟩ rfl rfl (Nat.le_of_ble_eq_true rfl) dX12_way_15 ?_
    refine K_if_eq (tgt := 50) hX dX12_way_18 rfl h (fun h => ?_) (fun h => ?_)
    · refine J_sub [] rfl ?_
      exact tM_way_50 hX hw hg hR hr σ_5 h
    · refine J_iload_n (q := 3) hX dX12_way_21 rfl rfl ?_
      refine J_iconst (v := (0 : Int32)) hX dX12_way_22 (by decide) ?_
      refine J_iconst (v := (1 : Int32)) hX dX12_way_23 (by decide) ?_
      obtain ⟨r_10, σ_8, hc_9, h⟩ := bnd2_some h
      refine K_callS [.int v3, .int (0 : Int32), .int (1 : Int32)] hX hg hR (ctM_within hw hc_9) lk_X12_372_X12_within md_X12_within ⟨by decide, by decide⟩ rfl rfl (Nat.le_of_ble_eq_true rfl) dX12_way_24 ?_
      refine K_if_eq (tgt := 50) hX dX12_way_27 rfl h (fun h => ?_) (fun h => ?_)
      · refine J_sub [] rfl ?_
        exact tM_way_50 hX hw hg hR hr σ_8 h
      · refine J_aload_n (q := 0) hX dX12_way_30 rfl rfl ?_
        refine J_iload_n (q := 1) hX dX12_way_31 rfl rfl ?_
        refine J_iload_n (q := 2) hX dX12_way_32 rfl rfl ?_
        refine J_iconst (v := (0 : Int32)) hX dX12_way_33 (by decide) ?_
        obtain ⟨r_13, σ_11, hc_12, h⟩ := bnd2_some h
        refine K_callV [.int v1, .int v2, .int (0 : Int32)] hX hg hR (ctM_wayOf hw hc_12) lk_X12_324_X12_wayOf md_X12_wayOf (mc_0 hw) cls_X12 ⟨by decide, by decide⟩ rfl rfl (Nat.le_of_ble_eq_true rfl) dX12_way_34 ?_
        refine K_if_le (tgt := 50) hX dX12_way_37 rfl h (fun h => ?_) (fun h => ?_)
        · refine J_sub [] rfl ?_
          exact tM_way_50 hX hw hg hR hr σ_11 h
        · refine J_aload_n (q := 0) hX dX12_way_40 rfl rfl ?_
          refine J_iload_n (q := 1) hX dX12_way_41 rfl rfl ?_
          refine J_iload_n (q := 2) hX dX12_way_42 rfl rfl ?_
          refine J_iload_n (q := 3) hX dX12_way_43 rfl rfl ?_
          obtain ⟨r_16, σ_14, hc_15, h⟩ := bnd2_some h
          refine K_callV [.int v1, .int v2, .int v3] hX hg hR (ctM_wayOf hw hc_15) lk_X12_324_X12_wayOf md_X12_wayOf (mc_0 hw) cls_X12 ⟨by decide, by decide⟩ rfl rfl (Nat.le_of_ble_eq_true rfl) dX12_way_44 ?_
          refine J_goto (tgt := 51) hX dX12_way_47 rfl ?_
          refine J_sub [] rfl ?_
          exact tM_way_51 hX hw hg hR hr r_16 σ_14 h
theorem ctM_way {w : WT} (hw : w.1 = mLy) {v1 : Int32} {v2 : Int32} {v3 : Int32} {σ : St} {r : Int32} {τ : St} (h : rM_way v1 v2 v3 σ = some (r, τ)) : Ct yX12_way cX12_way 4 (some .int) 2 41 w [.ref (wad w 0), .int v1, .int v2, .int v3] σ (some (.int r)) τ 0 0 :=
  Ct_intro (fun _ => (0, 0)) (by decide) rfl ⟨rfl, Nat.le_refl _⟩ (Nat.le_of_ble_eq_true rfl) (fun X hX hR hwX hg hr => by subst hwX; exact tM_way hX hw hg hR hr v1 v2 v3 σ h)

def rM_carrier_95 (s0 : Int32) (σ : St) : Option (Int32 × St) :=
  some (s0, σ)
set_option maxRecDepth 100000 in
theorem tM_carrier_95 {X : CX} (hX : gd X cX12_carrier 3 RX12 (some .int)) (hw : (xw X).1 = mLy) (hg : nA X) (hR : xR X = rmOf 2 43 0 0) {r : Int32} {τ : St} (hr : xr X = (some (.int r), τ)) (s0 : Int32) (σ : St) (h : rM_carrier_95 s0 σ = some (r, τ)) : Jd X 3 95 [] [.int s0] σ := by
  unfold rM_carrier_95 at h
  exact K_iret hX hr dX12_carrier_95 h

def rM_carrier_24 (v1 : Int32) (v2 : Int32) (s0 : Int32) (σ : St) : Option (Int32 × St) :=
  nm (setI σ 0 0 s0) fun σ_4 => brc ((σ_4.1 0 0) ≤ 0) (brc ((v2).toInt = 1) (bnd2 (rM_holds v1 σ_4) fun r_7 σ_5 => some (r_7, σ_5)) (brc ((v2).toInt = 2) (bnd2 (rM_carrierOf v1 v2 σ_4) fun r_11 σ_9 => some (r_11, σ_9)) (brc ((v2).toInt = 3) (bnd2 (rM_carrierOf v1 v2 σ_4) fun r_15 σ_13 => some (r_15, σ_13)) (brc ((v2).toInt = 4) (bnd2 (rM_isPatched v1 σ_4) fun r_19 σ_17 => brc (r_19 = 0) (rM_carrier_95 (0 : Int32) σ_17) (rM_carrier_95 (1 : Int32) σ_17)) (brc ((v2).toInt = 5) (chk (ib (41 : Int32) 6000) (some (((σ_4.1 16 (41 : Int32).toNatClampNeg) >>> (v1 &&& 31)) &&& (1 : Int32), σ_4))) (brc ((v2).toInt = 6) (chk (ib ((50 : Int32) + v1) 6000) (some (σ_4.1 16 ((50 : Int32) + v1).toNatClampNeg, σ_4))) (bnd2 (rM_carrierOf v1 v2 σ_4) fun r_25 σ_23 => some (r_25, σ_23)))))))) (some ((0 : Int32), σ_4))
set_option maxRecDepth 100000 in
theorem tM_carrier_24 {X : CX} (hX : gd X cX12_carrier 3 RX12 (some .int)) (hw : (xw X).1 = mLy) (hg : nA X) (hR : xR X = rmOf 2 43 0 0) {r : Int32} {τ : St} (hr : xr X = (some (.int r), τ)) (v1 : Int32) (v2 : Int32) (s0 : Int32) (σ : St) (h : rM_carrier_24 v1 v2 s0 σ = some (r, τ)) : Jd X 3 24 [(0, .ref (wad (xw X) 0)), (1, .int v1), (2, .int v2)] [.int s0, .ref (wad (xw X) 0)] σ := by
  unfold rM_carrier_24 at h
  refine K_puti hX (mc_0 hw) cls_X12 (k := 0) (by decide) uw_6_47 rfl rfl rfl dX12_carrier_24 h (fun σ_4 h => ?_)
  refine J_aload_n (q := 0) hX dX12_carrier_27 rfl rfl ?_
  refine K_geti hX (mc_0 hw) cls_X12 (k := 0) (by decide) uw_6_47 rfl dX12_carrier_28 ?_
  refine K_if_le (tgt := 36) hX dX12_carrier_31 rfl h (fun h => ?_) (fun h => ?_)
  · refine J_iload_n (q := 2) hX dX12_carrier_36 rfl rfl ?_
    rcases brc_some h with ⟨hc, h⟩ | ⟨hn_8, h⟩
    · refine K_tabIn (v := 1) (tgt := 76) hX dX12_carrier_37 hc (by decide) (by decide) rfl rfl ?_
      refine J_aload_n (q := 0) hX dX12_carrier_76 rfl rfl ?_
      refine J_iload_n (q := 1) hX dX12_carrier_77 rfl rfl ?_
      obtain ⟨r_7, σ_5, hc_6, h⟩ := bnd2_some h
      refine K_callV [.int v1] hX hg hR (ctM_holds hw hc_6) lk_X12_366_X12_holds md_X12_holds (mc_0 hw) cls_X12 ⟨by decide, by decide⟩ rfl rfl (Nat.le_of_ble_eq_true rfl) dX12_carrier_78 ?_
      exact K_iret hX hr dX12_carrier_81 h
    rcases brc_some h with ⟨hc, h⟩ | ⟨hn_12, h⟩
    · refine K_tabIn (v := 2) (tgt := 118) hX dX12_carrier_37 hc (by decide) (by decide) rfl rfl ?_
      refine J_aload_n (q := 0) hX dX12_carrier_118 rfl rfl ?_
      refine J_iload_n (q := 1) hX dX12_carrier_119 rfl rfl ?_
      refine J_iload_n (q := 2) hX dX12_carrier_120 rfl rfl ?_
      obtain ⟨r_11, σ_9, hc_10, h⟩ := bnd2_some h
      refine K_callV [.int v1, .int v2] hX hg hR (ctM_carrierOf hw hc_10) lk_X12_315_X12_carrierOf md_X12_carrierOf (mc_0 hw) cls_X12 ⟨by decide, by decide⟩ rfl rfl (Nat.le_of_ble_eq_true rfl) dX12_carrier_121 ?_
      exact K_iret hX hr dX12_carrier_124 h
    rcases brc_some h with ⟨hc, h⟩ | ⟨hn_16, h⟩
    · refine K_tabIn (v := 3) (tgt := 118) hX dX12_carrier_37 hc (by decide) (by decide) rfl rfl ?_
      refine J_aload_n (q := 0) hX dX12_carrier_118 rfl rfl ?_
      refine J_iload_n (q := 1) hX dX12_carrier_119 rfl rfl ?_
      refine J_iload_n (q := 2) hX dX12_carrier_120 rfl rfl ?_
      obtain ⟨r_15, σ_13, hc_14, h⟩ := bnd2_some h
      refine K_callV [.int v1, .int v2] hX hg hR (ctM_carrierOf hw hc_14) lk_X12_315_X12_carrierOf md_X12_carrierOf (mc_0 hw) cls_X12 ⟨by decide, by decide⟩ rfl rfl (Nat.le_of_ble_eq_true rfl) dX12_carrier_121 ?_
      exact K_iret hX hr dX12_carrier_124 h
    rcases brc_some h with ⟨hc, h⟩ | ⟨hn_20, h⟩
    · refine K_tabIn (v := 4) (tgt := 82) hX dX12_carrier_37 hc (by decide) (by decide) rfl rfl ?_
      refine J_aload_n (q := 0) hX dX12_carrier_82 rfl rfl ?_
      refine J_iload_n (q := 1) hX dX12_carrier_83 rfl rfl ?_
      obtain ⟨r_19, σ_17, hc_18, h⟩ := bnd2_some h
      refine K_callV [.int v1] hX hg hR (ctM_isPatched hw hc_18) lk_X12_327_X12_isPatched md_X12_isPatched (mc_0 hw) cls_X12 ⟨by decide, by decide⟩ rfl rfl (Nat.le_of_ble_eq_true rfl) dX12_carrier_84 ?_
      refine K_if_eq (tgt := 94) hX dX12_carrier_87 rfl h (fun h => ?_) (fun h => ?_)
      · refine J_iconst (v := (0 : Int32)) hX dX12_carrier_94 (by decide) ?_
        refine J_sub [] rfl ?_
        exact tM_carrier_95 hX hw hg hR hr (0 : Int32) σ_17 h
      · refine J_iconst (v := (1 : Int32)) hX dX12_carrier_90 (by decide) ?_
        refine J_goto (tgt := 95) hX dX12_carrier_91 rfl ?_
        refine J_sub [] rfl ?_
        exact tM_carrier_95 hX hw hg hR hr (1 : Int32) σ_17 h
    rcases brc_some h with ⟨hc, h⟩ | ⟨hn_21, h⟩
    · refine K_tabIn (v := 5) (tgt := 96) hX dX12_carrier_37 hc (by decide) (by decide) rfl rfl ?_
      refine J_aload_n (q := 0) hX dX12_carrier_96 rfl rfl ?_
      refine K_getc 16 hX (mc_0 hw) cls_X12 (k := 24) (by decide) uw_6_71 rfl dX12_carrier_97 ?_
      refine J_bipush (v := (41 : Int32)) hX dX12_carrier_100 (by decide) ?_
      refine K_iald hX (mc_16 hw) dX12_carrier_102 h (fun h => ?_)
      refine J_iload_n (q := 1) hX dX12_carrier_103 rfl rfl ?_
      refine J_ishr hX dX12_carrier_104 ?_
      refine J_iconst (v := (1 : Int32)) hX dX12_carrier_105 (by decide) ?_
      refine J_iand hX dX12_carrier_106 ?_
      exact K_iret hX hr dX12_carrier_107 h
    rcases brc_some h with ⟨hc, h⟩ | ⟨hn_22, h⟩
    · refine K_tabIn (v := 6) (tgt := 108) hX dX12_carrier_37 hc (by decide) (by decide) rfl rfl ?_
      refine J_aload_n (q := 0) hX dX12_carrier_108 rfl rfl ?_
      refine K_getc 16 hX (mc_0 hw) cls_X12 (k := 24) (by decide) uw_6_71 rfl dX12_carrier_109 ?_
      refine J_bipush (v := (50 : Int32)) hX dX12_carrier_112 (by decide) ?_
      refine J_iload_n (q := 1) hX dX12_carrier_114 rfl rfl ?_
      refine J_iadd hX dX12_carrier_115 ?_
      refine K_iald hX (mc_16 hw) dX12_carrier_116 h (fun h => ?_)
      exact K_iret hX hr dX12_carrier_117 h
    refine K_tabOut (tgt := 118) hX dX12_carrier_37 (by omega) rfl ?_
    refine J_aload_n (q := 0) hX dX12_carrier_118 rfl rfl ?_
    refine J_iload_n (q := 1) hX dX12_carrier_119 rfl rfl ?_
    refine J_iload_n (q := 2) hX dX12_carrier_120 rfl rfl ?_
    obtain ⟨r_25, σ_23, hc_24, h⟩ := bnd2_some h
    refine K_callV [.int v1, .int v2] hX hg hR (ctM_carrierOf hw hc_24) lk_X12_315_X12_carrierOf md_X12_carrierOf (mc_0 hw) cls_X12 ⟨by decide, by decide⟩ rfl rfl (Nat.le_of_ble_eq_true rfl) dX12_carrier_121 ?_
    exact K_iret hX hr dX12_carrier_124 h
  · refine J_iconst (v := (0 : Int32)) hX dX12_carrier_34 (by decide) ?_
    exact K_iret hX hr dX12_carrier_35 h

def rM_carrier_23 (v1 : Int32) (v2 : Int32) (σ : St) : Option (Int32 × St) :=
  rM_carrier_24 v1 v2 (1 : Int32) σ
set_option maxRecDepth 100000 in
theorem tM_carrier_23 {X : CX} (hX : gd X cX12_carrier 3 RX12 (some .int)) (hw : (xw X).1 = mLy) (hg : nA X) (hR : xR X = rmOf 2 43 0 0) {r : Int32} {τ : St} (hr : xr X = (some (.int r), τ)) (v1 : Int32) (v2 : Int32) (σ : St) (h : rM_carrier_23 v1 v2 σ = some (r, τ)) : Jd X 3 23 [(0, .ref (wad (xw X) 0)), (1, .int v1), (2, .int v2)] [.ref (wad (xw X) 0)] σ := by
  unfold rM_carrier_23 at h
  refine J_iconst (v := (1 : Int32)) hX dX12_carrier_23 (by decide) ?_
  refine J_sub [0, 1, 2] rfl ?_
  exact tM_carrier_24 hX hw hg hR hr v1 v2 (1 : Int32) σ h

def rM_carrier (v1 : Int32) (v2 : Int32) (σ : St) : Option (Int32 × St) :=
  bnd2 (rM_isCarrier v1 σ) fun r_3 σ_1 => brc (r_3 = 0) (rM_carrier_23 v1 v2 σ_1) (bnd2 (rM_within v2 (0 : Int32) (6 : Int32) σ_1) fun r_28 σ_26 => brc (r_28 = 0) (rM_carrier_23 v1 v2 σ_26) (rM_carrier_24 v1 v2 (0 : Int32) σ_26))
set_option maxRecDepth 100000 in
theorem tM_carrier {X : CX} (hX : gd X cX12_carrier 3 RX12 (some .int)) (hw : (xw X).1 = mLy) (hg : nA X) (hR : xR X = rmOf 2 43 0 0) {r : Int32} {τ : St} (hr : xr X = (some (.int r), τ)) (v1 : Int32) (v2 : Int32) (σ : St) (h : rM_carrier v1 v2 σ = some (r, τ)) : Jd X 3 0 [(0, .ref (wad (xw X) 0)), (1, .int v1), (2, .int v2)] [] σ := by
  unfold rM_carrier at h
  refine J_aload_n (q := 0) hX dX12_carrier_0 rfl rfl ?_
  refine J_aload_n (q := 0) hX dX12_carrier_1 rfl rfl ?_
  refine J_iload_n (q := 1) hX dX12_carrier_2 rfl rfl ?_
  obtain ⟨r_3, σ_1, hc_2, h⟩ := bnd2_some h
  refine K_callV [.int v1] hX hg hR (ctM_isCarrier hw hc_2) lk_X12_363_X12_isCarrier md_X12_isCarrier (mc_0 hw) cls_X12 ⟨by decide, by decide⟩ rfl rfl (Nat.le_of_ble_eq_true rfl) dX12_carrier_3 ?_
  refine K_if_eq (tgt := 23) hX dX12_carrier_6 rfl h (fun h => ?_) (fun h => ?_)
  · refine J_sub [0, 1, 2] rfl ?_
    exact tM_carrier_23 hX hw hg hR hr v1 v2 σ_1 h
  · refine J_iload_n (q := 2) hX dX12_carrier_9 rfl rfl ?_
    refine J_iconst (v := (0 : Int32)) hX dX12_carrier_10 (by decide) ?_
    refine J_bipush (v := (6 : Int32)) hX dX12_carrier_11 (by decide) ?_
    obtain ⟨r_28, σ_26, hc_27, h⟩ := bnd2_some h
    refine K_callS [.int v2, .int (0 : Int32), .int (6 : Int32)] hX hg hR (ctM_within hw hc_27) lk_X12_372_X12_within md_X12_within ⟨by decide, by decide⟩ rfl rfl (Nat.le_of_ble_eq_true rfl) dX12_carrier_13 ?_
    refine K_if_eq (tgt := 23) hX dX12_carrier_16 rfl h (fun h => ?_) (fun h => ?_)
    · refine J_sub [0, 1, 2] rfl ?_
      exact tM_carrier_23 hX hw hg hR hr v1 v2 σ_26 h
    · refine J_iconst (v := (0 : Int32)) hX dX12_carrier_19 (by decide) ?_
      refine J_goto (tgt := 24) hX dX12_carrier_20 rfl ?_
      refine J_sub [0, 1, 2] rfl ?_
      exact tM_carrier_24 hX hw hg hR hr v1 v2 (0 : Int32) σ_26 h
theorem ctM_carrier {w : WT} (hw : w.1 = mLy) {v1 : Int32} {v2 : Int32} {σ : St} {r : Int32} {τ : St} (h : rM_carrier v1 v2 σ = some (r, τ)) : Ct yX12_carrier cX12_carrier 3 (some .int) 2 43 w [.ref (wad w 0), .int v1, .int v2] σ (some (.int r)) τ 0 0 :=
  Ct_intro (fun _ => (0, 0)) (by decide) rfl ⟨rfl, Nat.le_refl _⟩ (Nat.le_of_ble_eq_true rfl) (fun X hX hR hwX hg hr => by subst hwX; exact tM_carrier hX hw hg hR hr v1 v2 σ h)

def rM_fills_115 (v2 : Int32) (s0 : Int32) (σ : St) : Option (St) :=
  nm s0 fun v4_9 => nm (setI σ 0 30 ((σ.1 0 30) + v4_9)) fun σ_10 => chk (ib ((43 : Int32) + v2) 6000) (chk (ib ((43 : Int32) + v2) 6000) (nm (setI σ_10 16 ((43 : Int32) + v2).toNatClampNeg ((σ_10.1 16 ((43 : Int32) + v2).toNatClampNeg) - v4_9)) fun σ_11 => some σ_11))
set_option maxRecDepth 100000 in
theorem tM_fills_115 {X : CX} (hX : gd X cX12_fills 5 RX12 none) (hw : (xw X).1 = mLy) (hg : nA X) (hR : xR X = rmOf 2 43 0 0) {τ : St} (hr : xr X = (none, τ)) (v2 : Int32) (s0 : Int32) (σ : St) (h : rM_fills_115 v2 s0 σ = some τ) : Jd X 5 115 [(0, .ref (wad (xw X) 0)), (2, .int v2)] [.int s0] σ := by
  unfold rM_fills_115 at h
  refine K_istore (fun v4_9 => [(4, .int v4_9), (0, .ref (wad (xw X) 0)), (2, .int v2)]) hX dX12_fills_115 (by decide) (fun _ => rfl) h (fun v4_9 h => ?_)
  refine J_aload_n (q := 1) hX dX12_fills_117 rfl rfl ?_
  refine J_dup hX dX12_fills_118 rfl ?_
  refine K_geti hX (mc_0 hw) cls_X12 (k := 30) (by decide) uw_6_77 rfl dX12_fills_119 ?_
  refine J_iload (q := 0) hX dX12_fills_122 rfl ?_
  refine J_iadd hX dX12_fills_124 ?_
  refine K_puti hX (mc_0 hw) cls_X12 (k := 30) (by decide) uw_6_77 rfl rfl rfl dX12_fills_125 h (fun σ_10 h => ?_)
  refine J_aload_n (q := 1) hX dX12_fills_128 rfl rfl ?_
  refine K_getc 16 hX (mc_0 hw) cls_X12 (k := 24) (by decide) uw_6_71 rfl dX12_fills_129 ?_
  refine J_bipush (v := (43 : Int32)) hX dX12_fills_132 (by decide) ?_
  refine J_iload_n (q := 2) hX dX12_fills_134 rfl rfl ?_
  refine J_iadd hX dX12_fills_135 ?_
  refine J_dup2 hX dX12_fills_136 rfl rfl ?_
  refine K_iald hX (mc_16 hw) dX12_fills_137 h (fun h => ?_)
  refine J_iload (q := 0) hX dX12_fills_138 rfl ?_
  refine J_isub hX dX12_fills_140 ?_
  refine K_iast hX (mc_16 hw) dX12_fills_141 h (fun σ_11 h => ?_)
  exact K_vret hX hr dX12_fills_142 h

def rM_fills_75 (v1 : Int32) (v2 : Int32) (s0 : Int32) (σ : St) : Option (St) :=
  nm (setI σ 0 30 s0) fun σ_4 => bnd2 (rM_holds v1 σ_4) fun r_7 σ_5 => nm (r_7 - (σ_5.1 0 30)) fun v3_8 => chk (ib ((43 : Int32) + v2) 6000) (brc (v3_8 ≤ (σ_5.1 16 ((43 : Int32) + v2).toNatClampNeg)) (rM_fills_115 v2 v3_8 σ_5) (chk (ib ((43 : Int32) + v2) 6000) (rM_fills_115 v2 (σ_5.1 16 ((43 : Int32) + v2).toNatClampNeg) σ_5)))
set_option maxRecDepth 100000 in
theorem tM_fills_75 {X : CX} (hX : gd X cX12_fills 5 RX12 none) (hw : (xw X).1 = mLy) (hg : nA X) (hR : xR X = rmOf 2 43 0 0) {τ : St} (hr : xr X = (none, τ)) (v1 : Int32) (v2 : Int32) (s0 : Int32) (σ : St) (h : rM_fills_75 v1 v2 s0 σ = some τ) : Jd X 5 75 [(0, .ref (wad (xw X) 0)), (1, .int v1), (2, .int v2)] [.int s0, .ref (wad (xw X) 0)] σ := by
  unfold rM_fills_75 at h
  refine K_puti hX (mc_0 hw) cls_X12 (k := 30) (by decide) uw_6_77 rfl rfl rfl dX12_fills_75 h (fun σ_4 h => ?_)
  refine J_aload_n (q := 0) hX dX12_fills_78 rfl rfl ?_
  refine J_iload_n (q := 1) hX dX12_fills_79 rfl rfl ?_
  obtain ⟨r_7, σ_5, hc_6, h⟩ := bnd2_some h
  refine K_callV [.int v1] hX hg hR (ctM_holds hw hc_6) lk_X12_366_X12_holds md_X12_holds (mc_0 hw) cls_X12 ⟨by decide, by decide⟩ rfl rfl (Nat.le_of_ble_eq_true rfl) dX12_fills_80 ?_
  refine J_aload_n (q := 0) hX dX12_fills_83 rfl rfl ?_
  refine K_geti hX (mc_0 hw) cls_X12 (k := 30) (by decide) uw_6_77 rfl dX12_fills_84 ?_
  refine J_isub hX dX12_fills_87 ?_
  refine K_istore_n (fun v3_8 => [(3, .int v3_8), (0, .ref (wad (xw X) 0)), (1, .int v1), (2, .int v2)]) hX dX12_fills_88 rfl (by decide) (fun _ => rfl) h (fun v3_8 h => ?_)
  refine J_aload_n (q := 1) hX dX12_fills_89 rfl rfl ?_
  refine K_getc 16 hX (mc_0 hw) cls_X12 (k := 24) (by decide) uw_6_71 rfl dX12_fills_90 ?_
  refine J_bipush (v := (43 : Int32)) hX dX12_fills_93 (by decide) ?_
  refine J_iload_n (q := 3) hX dX12_fills_95 rfl rfl ?_
  refine J_iadd hX dX12_fills_96 ?_
  refine K_iald hX (mc_16 hw) dX12_fills_97 h (fun h => ?_)
  refine J_iload_n (q := 0) hX dX12_fills_98 rfl rfl ?_
  refine K_icmp_ge (tgt := 114) hX dX12_fills_99 rfl h (fun h => ?_) (fun h => ?_)
  · refine J_iload_n (q := 0) hX dX12_fills_114 rfl rfl ?_
    refine J_sub [1, 3] rfl ?_
    exact tM_fills_115 hX hw hg hR hr v2 v3_8 σ_5 h
  · refine J_aload_n (q := 1) hX dX12_fills_102 rfl rfl ?_
    refine K_getc 16 hX (mc_0 hw) cls_X12 (k := 24) (by decide) uw_6_71 rfl dX12_fills_103 ?_
    refine J_bipush (v := (43 : Int32)) hX dX12_fills_106 (by decide) ?_
    refine J_iload_n (q := 3) hX dX12_fills_108 rfl rfl ?_
    refine J_iadd hX dX12_fills_109 ?_
    refine K_iald hX (mc_16 hw) dX12_fills_110 h (fun h => ?_)
    refine J_goto (tgt := 115) hX dX12_fills_111 rfl ?_
    refine J_sub [1, 3] rfl ?_
    exact tM_fills_115 hX hw hg hR hr v2 (σ_5.1 16 ((43 : Int32) + v2).toNatClampNeg) σ_5 h

def rM_fills_50 (v1 : Int32) (v2 : Int32) (σ : St) : Option (St) :=
  bnd2 (rM_holds v1 σ) fun r_3 σ_1 => brc ((σ.1 0 30) ≤ r_3) (rM_fills_75 v1 v2 (σ_1.1 0 30) σ_1) (bnd2 (rM_holds v1 σ_1) fun r_14 σ_12 => rM_fills_75 v1 v2 r_14 σ_12)
set_option maxRecDepth 100000 in
theorem tM_fills_50 {X : CX} (hX : gd X cX12_fills 5 RX12 none) (hw : (xw X).1 = mLy) (hg : nA X) (hR : xR X = rmOf 2 43 0 0) {τ : St} (hr : xr X = (none, τ)) (v1 : Int32) (v2 : Int32) (σ : St) (h : rM_fills_50 v1 v2 σ = some τ) : Jd X 5 50 [(0, .ref (wad (xw X) 0)), (1, .int v1), (2, .int v2)] [] σ := by
  unfold rM_fills_50 at h
  refine J_aload_n (q := 0) hX dX12_fills_50 rfl rfl ?_
  refine J_aload_n (q := 0) hX dX12_fills_51 rfl rfl ?_
  refine K_geti hX (mc_0 hw) cls_X12 (k := 30) (by decide) uw_6_77 rfl dX12_fills_52 ?_
  refine J_aload_n (q := 0) hX dX12_fills_55 rfl rfl ?_
  refine J_iload_n (q := 1) hX dX12_fills_56 rfl rfl ?_
  obtain ⟨r_3, σ_1, hc_2, h⟩ := bnd2_some h
  refine K_callV [.int v1] hX hg hR (ctM_holds hw hc_2) lk_X12_366_X12_holds md_X12_holds (mc_0 hw) cls_X12 ⟨by decide, by decide⟩ rfl rfl (Nat.le_of_ble_eq_true rfl) dX12_fills_57 ?_
  refine K_icmp_le (tgt := 71) hX dX12_fills_60 rfl h (fun h => ?_) (fun h => ?_)
  · refine J_aload_n (q := 0) hX dX12_fills_71 rfl rfl ?_
    refine K_geti hX (mc_0 hw) cls_X12 (k := 30) (by decide) uw_6_77 rfl dX12_fills_72 ?_
    refine J_sub [0, 1, 2] rfl ?_
    exact tM_fills_75 hX hw hg hR hr v1 v2 (σ_1.1 0 30) σ_1 h
  · refine J_aload_n (q := 0) hX dX12_fills_63 rfl rfl ?_
    refine J_iload_n (q := 1) hX dX12_fills_64 rfl rfl ?_
    obtain ⟨r_14, σ_12, hc_13, h⟩ := bnd2_some h
    refine K_callV [.int v1] hX hg hR (ctM_holds hw hc_13) lk_X12_366_X12_holds md_X12_holds (mc_0 hw) cls_X12 ⟨by decide, by decide⟩ rfl rfl (Nat.le_of_ble_eq_true rfl) dX12_fills_65 ?_
    refine J_goto (tgt := 75) hX dX12_fills_68 rfl ?_
    refine J_sub [0, 1, 2] rfl ?_
    exact tM_fills_75 hX hw hg hR hr v1 v2 r_14 σ_12 h

def rM_fills_45 (v1 : Int32) (v2 : Int32) (s0 : Int32) (s1 : Int32) (s2 : Int32) (σ : St) : Option (St) :=
  nm (setI σ 0 30 (s2 + (s1 + s0))) fun σ_21 => rM_fills_50 v1 v2 σ_21
set_option maxRecDepth 100000 in
theorem tM_fills_45 {X : CX} (hX : gd X cX12_fills 5 RX12 none) (hw : (xw X).1 = mLy) (hg : nA X) (hR : xR X = rmOf 2 43 0 0) {τ : St} (hr : xr X = (none, τ)) (v1 : Int32) (v2 : Int32) (s0 : Int32) (s1 : Int32) (s2 : Int32) (σ : St) (h : rM_fills_45 v1 v2 s0 s1 s2 σ = some τ) : Jd X 5 45 [(0, .ref (wad (xw X) 0)), (1, .int v1), (2, .int v2)] [.int s0, .int s1, .int s2, .ref (wad (xw X) 0)] σ := by
  unfold rM_fills_45 at h
  refine J_iadd hX dX12_fills_45 ?_
  refine J_iadd hX dX12_fills_46 ?_
  refine K_puti hX (mc_0 hw) cls_X12 (k := 30) (by decide) uw_6_77 rfl rfl rfl dX12_fills_47 h (fun σ_21 h => ?_)
  refine J_sub [0, 1, 2] rfl ?_
  exact tM_fills_50 hX hw hg hR hr v1 v2 σ_21 h

def rM_fills (v1 : Int32) (v2 : Int32) (σ : St) : Option (St) :=
  chk (ib ((8 : Int32) + ((2 : Int32) * v2)) 320) (chk (ib (3 : Int32) 320) (brc ((σ.1 6 ((8 : Int32) + ((2 : Int32) * v2)).toNatClampNeg) < (σ.1 6 (3 : Int32).toNatClampNeg)) (rM_fills_50 v1 v2 σ) (bnd2 (rM_draw (4 : Int32) σ) fun r_17 σ_15 => bnd2 (rM_carrierOf v1 (0 : Int32) σ_15) fun r_20 σ_18 => brc (¬ r_20 = (5 : Int32)) (rM_fills_45 v1 v2 (0 : Int32) r_17 (σ.1 0 30) σ_18) (rM_fills_45 v1 v2 (1 : Int32) r_17 (σ.1 0 30) σ_18))))
set_option maxRecDepth 100000 in
theorem tM_fills {X : CX} (hX : gd X cX12_fills 5 RX12 none) (hw : (xw X).1 = mLy) (hg : nA X) (hR : xR X = rmOf 2 43 0 0) {τ : St} (hr : xr X = (none, τ)) (v1 : Int32) (v2 : Int32) (σ : St) (h : rM_fills v1 v2 σ = some τ) : Jd X 5 0 [(0, .ref (wad (xw X) 0)), (1, .int v1), (2, .int v2)] [] σ := by
  unfold rM_fills at h
  refine J_aload_n (q := 0) hX dX12_fills_0 rfl rfl ?_
  refine K_getc 6 hX (mc_0 hw) cls_X12 (k := 10) (by decide) uw_6_57 rfl dX12_fills_1 ?_
  refine J_bipush (v := (8 : Int32)) hX dX12_fills_4 (by decide) ?_
  refine J_iconst (v := (2 : Int32)) hX dX12_fills_6 (by decide) ?_
  refine J_iload_n (q := 2) hX dX12_fills_7 rfl rfl ?_
  refine J_imul hX dX12_fills_8 ?_
  refine J_iadd hX dX12_fills_9 ?_
  refine K_iald hX (mc_6 hw) dX12_fills_10 h (fun h => ?_)
  refine J_aload_n (q := 0) hX dX12_fills_11 rfl rfl ?_
  refine K_getc 6 hX (mc_0 hw) cls_X12 (k := 10) (by decide) uw_6_57 rfl dX12_fills_12 ?_
  refine J_iconst (v := (3 : Int32)) hX dX12_fills_15 (by decide) ?_
  refine K_iald hX (mc_6 hw) dX12_fills_16 h (fun h => ?_)
  refine K_icmp_lt (tgt := 50) hX dX12_fills_17 rfl h (fun h => ?_) (fun h => ?_)
  · refine J_sub [0, 1, 2] rfl ?_
    exact tM_fills_50 hX hw hg hR hr v1 v2 σ h
  · refine J_aload_n (q := 0) hX dX12_fills_20 rfl rfl ?_
    refine J_dup hX dX12_fills_21 rfl ?_
    refine K_geti hX (mc_0 hw) cls_X12 (k := 30) (by decide) uw_6_77 rfl dX12_fills_22 ?_
    refine J_aload_n (q := 0) hX dX12_fills_25 rfl rfl ?_
    refine J_iconst (v := (4 : Int32)) hX dX12_fills_26 (by decide) ?_
    obtain ⟨r_17, σ_15, hc_16, h⟩ := bnd2_some h
    refine K_callV [.int (4 : Int32)] hX hg hR (ctM_draw hw hc_16) lk_X12_394_X12_draw md_X12_draw (mc_0 hw) cls_X12 ⟨by decide, by decide⟩ rfl rfl (Nat.le_of_ble_eq_true rfl) dX12_fills_27 ?_
    refine J_aload_n (q := 0) hX dX12_fills_30 rfl rfl ?_
    refine J_iload_n (q := 1) hX dX12_fills_31 rfl rfl ?_
    refine J_iconst (v := (0 : Int32)) hX dX12_fills_32 (by decide) ?_
    obtain ⟨r_20, σ_18, hc_19, h⟩ := bnd2_some h
    refine K_callV [.int v1, .int (0 : Int32)] hX hg hR (ctM_carrierOf hw hc_19) lk_X12_315_X12_carrierOf md_X12_carrierOf (mc_0 hw) cls_X12 ⟨by decide, by decide⟩ rfl rfl (Nat.le_of_ble_eq_true rfl) dX12_fills_33 ?_
    refine J_iconst (v := (5 : Int32)) hX dX12_fills_36 (by decide) ?_
    refine K_icmp_ne (tgt := 44) hX dX12_fills_37 rfl h (fun h => ?_) (fun h => ?_)
    · refine J_iconst (v := (0 : Int32)) hX dX12_fills_44 (by decide) ?_
      refine J_sub [0, 1, 2] rfl ?_
      exact tM_fills_45 hX hw hg hR hr v1 v2 (0 : Int32) r_17 (σ.1 0 30) σ_18 h
    · refine J_iconst (v := (1 : Int32)) hX dX12_fills_40 (by decide) ?_
      refine J_goto (tgt := 45) hX dX12_fills_41 rfl ?_
      refine J_sub [0, 1, 2] rfl ?_
      exact tM_fills_45 hX hw hg hR hr v1 v2 (1 : Int32) r_17 (σ.1 0 30) σ_18 h
theorem ctM_fills {w : WT} (hw : w.1 = mLy) {v1 : Int32} {v2 : Int32} {σ : St} {τ : St} (h : rM_fills v1 v2 σ = some τ) : Ct yX12_fills cX12_fills 5 none 2 43 w [.ref (wad w 0), .int v1, .int v2] σ none τ 0 0 :=
  Ct_intro (fun _ => (0, 0)) (by decide) rfl ⟨rfl, Nat.le_refl _⟩ (Nat.le_of_ble_eq_true rfl) (fun X hX hR hwX hg hr => by subst hwX; exact tM_fills hX hw hg hR hr v1 v2 σ h)

def rM_priceNow_70 (s0 : Int32) (σ : St) : Option (Int32 × St) :=
  some (s0, σ)
set_option maxRecDepth 100000 in
theorem tM_priceNow_70 {X : CX} (hX : gd X cX12_priceNow 2 RX12 (some .int)) (hw : (xw X).1 = mLy) (hg : nA X) (hR : xR X = rmOf 2 46 0 0) {r : Int32} {τ : St} (hr : xr X = (some (.int r), τ)) (s0 : Int32) (σ : St) (h : rM_priceNow_70 s0 σ = some (r, τ)) : Jd X 2 70 [] [.int s0] σ := by
  unfold rM_priceNow_70 at h
  exact K_iret hX hr dX12_priceNow_70 h

def rM_priceNow (σ : St) : Option (Int32 × St) :=
  chk (ib (7 : Int32) 320) (brc (0 ≤ (σ.1 6 (7 : Int32).toNatClampNeg)) (chk (ib (38 : Int32) 6000) (chk (ib (0 : Int32) 5) (nm (setI σ 14 (0 : Int32).toNatClampNeg (σ.1 16 (38 : Int32).toNatClampNeg)) fun σ_1 => chk (ib (40 : Int32) 6000) (chk (ib (1 : Int32) 5) (nm (setI σ_1 14 (1 : Int32).toNatClampNeg (σ_1.1 16 (40 : Int32).toNatClampNeg)) fun σ_2 => chk (ib (7 : Int32) 320) (bnd2 (rM_worthAt (σ_2.1 6 (7 : Int32).toNatClampNeg) σ_2) fun r_5 σ_3 => nm r_5 fun v1_6 => brc (0 ≤ v1_6) (brc (v1_6 ≤ (99 : Int32)) (rM_priceNow_70 v1_6 σ_3) (rM_priceNow_70 (99 : Int32) σ_3)) (rM_priceNow_70 (0 : Int32) σ_3))))))) (some ((1 : Int32), σ)))
set_option maxRecDepth 100000 in
theorem tM_priceNow {X : CX} (hX : gd X cX12_priceNow 2 RX12 (some .int)) (hw : (xw X).1 = mLy) (hg : nA X) (hR : xR X = rmOf 2 46 0 0) {r : Int32} {τ : St} (hr : xr X = (some (.int r), τ)) (σ : St) (h : rM_priceNow σ = some (r, τ)) : Jd X 2 0 [(0, .ref (wad (xw X) 0))] [] σ := by
  unfold rM_priceNow at h
  refine J_aload_n (q := 0) hX dX12_priceNow_0 rfl rfl ?_
  refine K_getc 6 hX (mc_0 hw) cls_X12 (k := 10) (by decide) uw_6_57 rfl dX12_priceNow_1 ?_
  refine J_bipush (v := (7 : Int32)) hX dX12_priceNow_4 (by decide) ?_
  refine K_iald hX (mc_6 hw) dX12_priceNow_6 h (fun h => ?_)
  refine K_if_ge (tgt := 12) hX dX12_priceNow_7 rfl h (fun h => ?_) (fun h => ?_)
  · refine J_aload_n (q := 0) hX dX12_priceNow_12 rfl rfl ?_
    refine K_getc 14 hX (mc_0 hw) cls_X12 (k := 22) (by decide) uw_6_69 rfl dX12_priceNow_13 ?_
    refine J_iconst (v := (0 : Int32)) hX dX12_priceNow_16 (by decide) ?_
    refine J_aload_n (q := 0) hX dX12_priceNow_17 rfl rfl ?_
    refine K_getc 16 hX (mc_0 hw) cls_X12 (k := 24) (by decide) uw_6_71 rfl dX12_priceNow_18 ?_
    refine J_bipush (v := (38 : Int32)) hX dX12_priceNow_21 (by decide) ?_
    refine K_iald hX (mc_16 hw) dX12_priceNow_23 h (fun h => ?_)
    refine K_iast hX (mc_14 hw) dX12_priceNow_24 h (fun σ_1 h => ?_)
    refine J_aload_n (q := 0) hX dX12_priceNow_25 rfl rfl ?_
    refine K_getc 14 hX (mc_0 hw) cls_X12 (k := 22) (by decide) uw_6_69 rfl dX12_priceNow_26 ?_
    refine J_iconst (v := (1 : Int32)) hX dX12_priceNow_29 (by decide) ?_
    refine J_aload_n (q := 0) hX dX12_priceNow_30 rfl rfl ?_
    refine K_getc 16 hX (mc_0 hw) cls_X12 (k := 24) (by decide) uw_6_71 rfl dX12_priceNow_31 ?_
    refine J_bipush (v := (40 : Int32)) hX dX12_priceNow_34 (by decide) ?_
    refine K_iald hX (mc_16 hw) dX12_priceNow_36 h (fun h => ?_)
    refine K_iast hX (mc_14 hw) dX12_priceNow_37 h (fun σ_2 h => ?_)
    refine J_aload_n (q := 0) hX dX12_priceNow_38 rfl rfl ?_
    refine J_aload_n (q := 0) hX dX12_priceNow_39 rfl rfl ?_
    refine K_getc 6 hX (mc_0 hw) cls_X12 (k := 10) (by decide) uw_6_57 rfl dX12_priceNow_40 ?_
    refine J_bipush (v := (7 : Int32)) hX dX12_priceNow_43 (by decide) ?_
    refine K_iald hX (mc_6 hw) dX12_priceNow_45 h (fun h => ?_)
    obtain ⟨r_5, σ_3, hc_4, h⟩ := bnd2_some h
    refine K_callV [.int (σ_2.1 6 (7 : Int32).toNatClampNeg)] hX hg hR (ctM_worthAt hw hc_4) lk_X12_342_X12_worthAt md_X12_worthAt (mc_0 hw) cls_X12 ⟨by decide, by decide⟩ rfl rfl (Nat.le_of_ble_eq_true rfl) dX12_priceNow_46 ?_
    refine K_istore_n (fun v1_6 => [(1, .int v1_6), (0, .ref (wad (xw X) 0))]) hX dX12_priceNow_49 rfl (by decide) (fun _ => rfl) h (fun v1_6 h => ?_)
    refine J_iload_n (q := 0) hX dX12_priceNow_50 rfl rfl ?_
    refine K_if_ge (tgt := 58) hX dX12_priceNow_51 rfl h (fun h => ?_) (fun h => ?_)
    · refine J_iload_n (q := 0) hX dX12_priceNow_58 rfl rfl ?_
      refine J_bipush (v := (99 : Int32)) hX dX12_priceNow_59 (by decide) ?_
      refine K_icmp_le (tgt := 69) hX dX12_priceNow_61 rfl h (fun h => ?_) (fun h => ?_)
      · refine J_iload_n (q := 0) hX dX12_priceNow_69 rfl rfl ?_
        refine J_sub [] rfl ?_
        exact tM_priceNow_70 hX hw hg hR hr v1_6 σ_3 h
      · refine J_bipush (v := (99 : Int32)) hX dX12_priceNow_64 (by decide) ?_
        refine J_goto (tgt := 70) hX dX12_priceNow_66 rfl ?_
        refine J_sub [] rfl ?_
        exact tM_priceNow_70 hX hw hg hR hr (99 : Int32) σ_3 h
    · refine J_iconst (v := (0 : Int32)) hX dX12_priceNow_54 (by decide) ?_
      refine J_goto (tgt := 70) hX dX12_priceNow_55 rfl ?_
      refine J_sub [] rfl ?_
      exact tM_priceNow_70 hX hw hg hR hr (0 : Int32) σ_3 h
  · refine J_iconst (v := (1 : Int32)) hX dX12_priceNow_10 (by decide) ?_
    exact K_iret hX hr dX12_priceNow_11 h
theorem ctM_priceNow {w : WT} (hw : w.1 = mLy) {σ : St} {r : Int32} {τ : St} (h : rM_priceNow σ = some (r, τ)) : Ct yX12_priceNow cX12_priceNow 2 (some .int) 2 46 w [.ref (wad w 0)] σ (some (.int r)) τ 0 0 :=
  Ct_intro (fun _ => (0, 0)) (by decide) rfl ⟨rfl, Nat.le_refl _⟩ (Nat.le_of_ble_eq_true rfl) (fun X hX hR hwX hg hr => by subst hwX; exact tM_priceNow hX hw hg hR hr  σ h)

def rM_owe_51 (σ : St) : Option (Int32 × St) :=
  chk (decide ((0 : Int32) = 0 ∨ (0 : Int32) = 1)) (some ((0 : Int32), σ))
set_option maxRecDepth 100000 in
theorem tM_owe_51 {X : CX} (hX : gd X cX12_owe 4 RX12 (some .boolean)) (hw : (xw X).1 = mLy) (hg : nA X) (hR : xR X = rmOf 2 45 0 0) {r : Int32} {τ : St} (hr : xr X = (some (.int r), τ)) (σ : St) (h : rM_owe_51 σ = some (r, τ)) : Jd X 4 51 [] [] σ := by
  unfold rM_owe_51 at h
  refine J_iconst (v := (0 : Int32)) hX dX12_owe_51 (by decide) ?_
  exact K_zret hX hr dX12_owe_52 h

def rM_owe (v1 : Int32) (v2 : Int32) (v3 : Int32) (σ : St) : Option (Int32 × St) :=
  nm (setI σ 0 0 (0 : Int32)) fun σ_1 => bnd2 (rM_isCarrier v1 σ_1) fun r_4 σ_2 => brc (r_4 = 0) (rM_owe_51 σ_2) (bnd2 (rM_isCarrier v2 σ_2) fun r_7 σ_5 => brc (r_7 = 0) (rM_owe_51 σ_5) (brc (v1 = v2) (rM_owe_51 σ_5) (bnd2 (rM_within v3 (0 : Int32) (99 : Int32) σ_5) fun r_10 σ_8 => brc (r_10 = 0) (rM_owe_51 σ_8) (chk (ib (((6 : Int32) * v1) + v2) 6000) (brc (¬ (σ_8.1 16 (((6 : Int32) * v1) + v2).toNatClampNeg) = v3) (bnd1 (rM_keeps σ_8) fun σ_11 => chk (ib (((6 : Int32) * v1) + v2) 6000) (nm (setI σ_11 16 (((6 : Int32) * v1) + v2).toNatClampNeg v3) fun σ_13 => chk (decide ((1 : Int32) = 0 ∨ (1 : Int32) = 1)) (some ((1 : Int32), σ_13)))) (rM_owe_51 σ_8))))))
set_option maxRecDepth 100000 in
theorem tM_owe {X : CX} (hX : gd X cX12_owe 4 RX12 (some .boolean)) (hw : (xw X).1 = mLy) (hg : nA X) (hR : xR X = rmOf 2 45 0 0) {r : Int32} {τ : St} (hr : xr X = (some (.int r), τ)) (v1 : Int32) (v2 : Int32) (v3 : Int32) (σ : St) (h : rM_owe v1 v2 v3 σ = some (r, τ)) : Jd X 4 0 [(0, .ref (wad (xw X) 0)), (1, .int v1), (2, .int v2), (3, .int v3)] [] σ := by
  unfold rM_owe at h
  refine J_aload_n (q := 0) hX dX12_owe_0 rfl rfl ?_
  refine J_iconst (v := (0 : Int32)) hX dX12_owe_1 (by decide) ?_
  refine K_puti hX (mc_0 hw) cls_X12 (k := 0) (by decide) uw_6_47 rfl rfl rfl dX12_owe_2 h (fun σ_1 h => ?_)
  refine J_aload_n (q := 0) hX dX12_owe_5 rfl rfl ?_
  refine J_iload_n (q := 1) hX dX12_owe_6 rfl rfl ?_
  obtain ⟨r_4, σ_2, hc_3, h⟩ := bnd2_some h
  refine K_callV [.int v1] hX hg hR (ctM_isCarrier hw hc_3) lk_X12_363_X12_isCarrier md_X12_isCarrier (mc_0 hw) cls_X12 ⟨by decide, by decide⟩ rfl rfl (Nat.le_of_ble_eq_true rfl) dX12_owe_7 ?_
  refine K_if_eq (tgt := 51) hX dX12_owe_10 rfl h (fun h => ?_) (fun h => ?_)
  · refine J_sub [] rfl ?_
    exact tM_owe_51 hX hw hg hR hr σ_2 h
  · refine J_aload_n (q := 0) hX dX12_owe_13 rfl rfl ?_
    refine J_iload_n (q := 2) hX dX12_owe_14 rfl rfl ?_
    obtain ⟨r_7, σ_5, hc_6, h⟩ := bnd2_some h
    refine K_callV [.int v2] hX hg hR (ctM_isCarrier hw hc_6) lk_X12_363_X12_isCarrier md_X12_isCarrier (mc_0 hw) cls_X12 ⟨by decide, by decide⟩ rfl rfl (Nat.le_of_ble_eq_true rfl) dX12_owe_15 ?_
    refine K_if_eq (tgt := 51) hX dX12_owe_18 rfl h (fun h => ?_) (fun h => ?_)
    · refine J_sub [] rfl ?_
      exact tM_owe_51 hX hw hg hR hr σ_5 h
    · refine J_iload_n (q := 1) hX dX12_owe_21 rfl rfl ?_
      refine J_iload_n (q := 2) hX dX12_owe_22 rfl rfl ?_
      refine K_icmp_eq (tgt := 51) hX dX12_owe_23 rfl h (fun h => ?_) (fun h => ?_)
      · refine J_sub [] rfl ?_
        exact tM_owe_51 hX hw hg hR hr σ_5 h
      · refine J_iload_n (q := 3) hX dX12_owe_26 rfl rfl ?_
        refine J_iconst (v := (0 : Int32)) hX dX12_owe_27 (by decide) ?_
        refine J_bipush (v := (99 : Int32)) hX dX12_owe_28 (by decide) ?_
        obtain ⟨r_10, σ_8, hc_9, h⟩ := bnd2_some h
        refine K_callS [.int v3, .int (0 : Int32), .int (99 : Int32)] hX hg hR (ctM_within hw hc_9) lk_X12_372_X12_within md_X12_within ⟨by decide, by decide⟩ rfl rfl (Nat.le_of_ble_eq_true rfl) dX12_owe_30 ?_
        refine K_if_eq (tgt := 51) hX dX12_owe_33 rfl h (fun h => ?_) (fun h => ?_)
        · refine J_sub [] rfl ?_
          exact tM_owe_51 hX hw hg hR hr σ_8 h
        · refine J_aload_n (q := 0) hX dX12_owe_36 rfl rfl ?_
          refine K_getc 16 hX (mc_0 hw) cls_X12 (k := 24) (by decide) uw_6_71 rfl dX12_owe_37 ?_
          refine J_bipush (v := (6 : Int32)) hX dX12_owe_40 (by decide) ?_
          refine J_iload_n (q := 1) hX dX12_owe_42 rfl rfl ?_
          refine J_imul hX dX12_owe_43 ?_
          refine J_iload_n (q := 2) hX dX12_owe_44 rfl rfl ?_
          refine J_iadd hX dX12_owe_45 ?_
          refine K_iald hX (mc_16 hw) dX12_owe_46 h (fun h => ?_)
          refine J_iload_n (q := 3) hX dX12_owe_47 rfl rfl ?_
          refine K_icmp_ne (tgt := 53) hX dX12_owe_48 rfl h (fun h => ?_) (fun h => ?_)
          · refine J_aload_n (q := 0) hX dX12_owe_53 rfl rfl ?_
            obtain ⟨σ_11, hc_12, h⟩ := bnd1_some h
            refine K_callV [] hX hg hR (ctM_keeps hw hc_12) lk_X12_428_X12_keeps md_X12_keeps (mc_0 hw) cls_X12 ⟨by decide, by decide⟩ rfl rfl (Nat.le_of_ble_eq_true rfl) dX12_owe_54 ?_
            refine J_aload_n (q := 0) hX dX12_owe_57 rfl rfl ?_
            refine K_getc 16 hX (mc_0 hw) cls_X12 (k := 24) (by decide) uw_6_71 rfl dX12_owe_58 ?_
            refine J_bipush (v := (6 : Int32)) hX dX12_owe_61 (by decide) ?_
            refine J_iload_n (q := 1) hX dX12_owe_63 rfl rfl ?_
            refine J_imul hX dX12_owe_64 ?_
            refine J_iload_n (q := 2) hX dX12_owe_65 rfl rfl ?_
            refine J_iadd hX dX12_owe_66 ?_
            refine J_iload_n (q := 3) hX dX12_owe_67 rfl rfl ?_
            refine K_iast hX (mc_16 hw) dX12_owe_68 h (fun σ_13 h => ?_)
            refine J_iconst (v := (1 : Int32)) hX dX12_owe_69 (by decide) ?_
            exact K_zret hX hr dX12_owe_70 h
          · refine J_sub [] rfl ?_
            exact tM_owe_51 hX hw hg hR hr σ_8 h
theorem ctM_owe {w : WT} (hw : w.1 = mLy) {v1 : Int32} {v2 : Int32} {v3 : Int32} {σ : St} {r : Int32} {τ : St} (h : rM_owe v1 v2 v3 σ = some (r, τ)) : Ct yX12_owe cX12_owe 4 (some .boolean) 2 45 w [.ref (wad w 0), .int v1, .int v2, .int v3] σ (some (.int r)) τ 0 0 :=
  Ct_intro (fun _ => (0, 0)) (by decide) rfl ⟨rfl, Nat.le_refl _⟩ (Nat.le_of_ble_eq_true rfl) (fun X hX hR hwX hg hr => by subst hwX; exact tM_owe hX hw hg hR hr v1 v2 v3 σ h)

def rM_owes_41 (s0 : Int32) (σ : St) : Option (Int32 × St) :=
  some (s0, σ)
set_option maxRecDepth 100000 in
theorem tM_owes_41 {X : CX} (hX : gd X cX12_owes 3 RX12 (some .int)) (hw : (xw X).1 = mLy) (hg : nA X) (hR : xR X = rmOf 2 41 0 0) {r : Int32} {τ : St} (hr : xr X = (some (.int r), τ)) (s0 : Int32) (σ : St) (h : rM_owes_41 s0 σ = some (r, τ)) : Jd X 3 41 [] [.int s0] σ := by
  unfold rM_owes_41 at h
  exact K_iret hX hr dX12_owes_41 h

def rM_owes_40 (σ : St) : Option (Int32 × St) :=
  rM_owes_41 (-1 : Int32) σ
set_option maxRecDepth 100000 in
theorem tM_owes_40 {X : CX} (hX : gd X cX12_owes 3 RX12 (some .int)) (hw : (xw X).1 = mLy) (hg : nA X) (hR : xR X = rmOf 2 41 0 0) {r : Int32} {τ : St} (hr : xr X = (some (.int r), τ)) (σ : St) (h : rM_owes_40 σ = some (r, τ)) : Jd X 3 40 [] [] σ := by
  unfold rM_owes_40 at h
  refine J_iconst (v := (-1 : Int32)) hX dX12_owes_40 (by decide) ?_
  refine J_sub [] rfl ?_
  exact tM_owes_41 hX hw hg hR hr (-1 : Int32) σ h

def rM_owes (v1 : Int32) (v2 : Int32) (σ : St) : Option (Int32 × St) :=
  nm (setI σ 0 0 (0 : Int32)) fun σ_1 => bnd2 (rM_isCarrier v1 σ_1) fun r_4 σ_2 => brc (r_4 = 0) (rM_owes_40 σ_2) (bnd2 (rM_isCarrier v2 σ_2) fun r_7 σ_5 => brc (r_7 = 0) (rM_owes_40 σ_5) (brc (v1 = v2) (rM_owes_40 σ_5) (chk (ib (((6 : Int32) * v1) + v2) 6000) (rM_owes_41 (σ_5.1 16 (((6 : Int32) * v1) + v2).toNatClampNeg) σ_5))))
set_option maxRecDepth 100000 in
theorem tM_owes {X : CX} (hX : gd X cX12_owes 3 RX12 (some .int)) (hw : (xw X).1 = mLy) (hg : nA X) (hR : xR X = rmOf 2 41 0 0) {r : Int32} {τ : St} (hr : xr X = (some (.int r), τ)) (v1 : Int32) (v2 : Int32) (σ : St) (h : rM_owes v1 v2 σ = some (r, τ)) : Jd X 3 0 [(0, .ref (wad (xw X) 0)), (1, .int v1), (2, .int v2)] [] σ := by
  unfold rM_owes at h
  refine J_aload_n (q := 0) hX dX12_owes_0 rfl rfl ?_
  refine J_iconst (v := (0 : Int32)) hX dX12_owes_1 (by decide) ?_
  refine K_puti hX (mc_0 hw) cls_X12 (k := 0) (by decide) uw_6_47 rfl rfl rfl dX12_owes_2 h (fun σ_1 h => ?_)
  refine J_aload_n (q := 0) hX dX12_owes_5 rfl rfl ?_
  refine J_iload_n (q := 1) hX dX12_owes_6 rfl rfl ?_
  obtain ⟨r_4, σ_2, hc_3, h⟩ := bnd2_some h
  refine K_callV [.int v1] hX hg hR (ctM_isCarrier hw hc_3) lk_X12_363_X12_isCarrier md_X12_isCarrier (mc_0 hw) cls_X12 ⟨by decide, by decide⟩ rfl rfl (Nat.le_of_ble_eq_true rfl) dX12_owes_7 ?_
  refine K_if_eq (tgt := 40) hX dX12_owes_10 rfl h (fun h => ?_) (fun h => ?_)
  · refine J_sub [] rfl ?_
    exact tM_owes_40 hX hw hg hR hr σ_2 h
  · refine J_aload_n (q := 0) hX dX12_owes_13 rfl rfl ?_
    refine J_iload_n (q := 2) hX dX12_owes_14 rfl rfl ?_
    obtain ⟨r_7, σ_5, hc_6, h⟩ := bnd2_some h
    refine K_callV [.int v2] hX hg hR (ctM_isCarrier hw hc_6) lk_X12_363_X12_isCarrier md_X12_isCarrier (mc_0 hw) cls_X12 ⟨by decide, by decide⟩ rfl rfl (Nat.le_of_ble_eq_true rfl) dX12_owes_15 ?_
    refine K_if_eq (tgt := 40) hX dX12_owes_18 rfl h (fun h => ?_) (fun h => ?_)
    · refine J_sub [] rfl ?_
      exact tM_owes_40 hX hw hg hR hr σ_5 h
    · refine J_iload_n (q := 1) hX dX12_owes_21 rfl rfl ?_
      refine J_iload_n (q := 2) hX dX12_owes_22 rfl rfl ?_
      refine K_icmp_eq (tgt := 40) hX dX12_owes_23 rfl h (fun h => ?_) (fun h => ?_)
      · refine J_sub [] rfl ?_
        exact tM_owes_40 hX hw hg hR hr σ_5 h
      · refine J_aload_n (q := 0) hX dX12_owes_26 rfl rfl ?_
        refine K_getc 16 hX (mc_0 hw) cls_X12 (k := 24) (by decide) uw_6_71 rfl dX12_owes_27 ?_
        refine J_bipush (v := (6 : Int32)) hX dX12_owes_30 (by decide) ?_
        refine J_iload_n (q := 1) hX dX12_owes_32 rfl rfl ?_
        refine J_imul hX dX12_owes_33 ?_
        refine J_iload_n (q := 2) hX dX12_owes_34 rfl rfl ?_
        refine J_iadd hX dX12_owes_35 ?_
        refine K_iald hX (mc_16 hw) dX12_owes_36 h (fun h => ?_)
        refine J_goto (tgt := 41) hX dX12_owes_37 rfl ?_
        refine J_sub [] rfl ?_
        exact tM_owes_41 hX hw hg hR hr (σ_5.1 16 (((6 : Int32) * v1) + v2).toNatClampNeg) σ_5 h
theorem ctM_owes {w : WT} (hw : w.1 = mLy) {v1 : Int32} {v2 : Int32} {σ : St} {r : Int32} {τ : St} (h : rM_owes v1 v2 σ = some (r, τ)) : Ct yX12_owes cX12_owes 3 (some .int) 2 41 w [.ref (wad w 0), .int v1, .int v2] σ (some (.int r)) τ 0 0 :=
  Ct_intro (fun _ => (0, 0)) (by decide) rfl ⟨rfl, Nat.le_refl _⟩ (Nat.le_of_ble_eq_true rfl) (fun X hX hR hwX hg hr => by subst hwX; exact tM_owes hX hw hg hR hr v1 v2 σ h)

def rM_debt_33 (s0 : Int32) (σ : St) : Option (Int32 × St) :=
  some (s0, σ)
set_option maxRecDepth 100000 in
theorem tM_debt_33 {X : CX} (hX : gd X cX12_debt 2 RX12 (some .int)) (hw : (xw X).1 = mLy) (hg : nA X) (hR : xR X = rmOf 2 41 0 0) {r : Int32} {τ : St} (hr : xr X = (some (.int r), τ)) (s0 : Int32) (σ : St) (h : rM_debt_33 s0 σ = some (r, τ)) : Jd X 2 33 [] [.int s0] σ := by
  unfold rM_debt_33 at h
  exact K_iret hX hr dX12_debt_33 h

def rM_debt_14 (v1 : Int32) (s0 : Int32) (σ : St) : Option (Int32 × St) :=
  nm (setI σ 0 0 s0) fun σ_4 => brc ((σ_4.1 0 0) ≤ 0) (bnd2 (rM_debtOf v1 σ_4) fun r_7 σ_5 => rM_debt_33 r_7 σ_5) (rM_debt_33 (0 : Int32) σ_4)
set_option maxRecDepth 100000 in
theorem tM_debt_14 {X : CX} (hX : gd X cX12_debt 2 RX12 (some .int)) (hw : (xw X).1 = mLy) (hg : nA X) (hR : xR X = rmOf 2 41 0 0) {r : Int32} {τ : St} (hr : xr X = (some (.int r), τ)) (v1 : Int32) (s0 : Int32) (σ : St) (h : rM_debt_14 v1 s0 σ = some (r, τ)) : Jd X 2 14 [(0, .ref (wad (xw X) 0)), (1, .int v1)] [.int s0, .ref (wad (xw X) 0)] σ := by
  unfold rM_debt_14 at h
  refine K_puti hX (mc_0 hw) cls_X12 (k := 0) (by decide) uw_6_47 rfl rfl rfl dX12_debt_14 h (fun σ_4 h => ?_)
  refine J_aload_n (q := 0) hX dX12_debt_17 rfl rfl ?_
  refine K_geti hX (mc_0 hw) cls_X12 (k := 0) (by decide) uw_6_47 rfl dX12_debt_18 ?_
  refine K_if_le (tgt := 28) hX dX12_debt_21 rfl h (fun h => ?_) (fun h => ?_)
  · refine J_aload_n (q := 0) hX dX12_debt_28 rfl rfl ?_
    refine J_iload_n (q := 1) hX dX12_debt_29 rfl rfl ?_
    obtain ⟨r_7, σ_5, hc_6, h⟩ := bnd2_some h
    refine K_callV [.int v1] hX hg hR (ctM_debtOf hw hc_6) lk_X12_339_X12_debtOf md_X12_debtOf (mc_0 hw) cls_X12 ⟨by decide, by decide⟩ rfl rfl (Nat.le_of_ble_eq_true rfl) dX12_debt_30 ?_
    refine J_sub [] rfl ?_
    exact tM_debt_33 hX hw hg hR hr r_7 σ_5 h
  · refine J_iconst (v := (0 : Int32)) hX dX12_debt_24 (by decide) ?_
    refine J_goto (tgt := 33) hX dX12_debt_25 rfl ?_
    refine J_sub [] rfl ?_
    exact tM_debt_33 hX hw hg hR hr (0 : Int32) σ_4 h

def rM_debt (v1 : Int32) (σ : St) : Option (Int32 × St) :=
  bnd2 (rM_isCarrier v1 σ) fun r_3 σ_1 => brc (r_3 = 0) (rM_debt_14 v1 (1 : Int32) σ_1) (rM_debt_14 v1 (0 : Int32) σ_1)
set_option maxRecDepth 100000 in
theorem tM_debt {X : CX} (hX : gd X cX12_debt 2 RX12 (some .int)) (hw : (xw X).1 = mLy) (hg : nA X) (hR : xR X = rmOf 2 41 0 0) {r : Int32} {τ : St} (hr : xr X = (some (.int r), τ)) (v1 : Int32) (σ : St) (h : rM_debt v1 σ = some (r, τ)) : Jd X 2 0 [(0, .ref (wad (xw X) 0)), (1, .int v1)] [] σ := by
  unfold rM_debt at h
  refine J_aload_n (q := 0) hX dX12_debt_0 rfl rfl ?_
  refine J_aload_n (q := 0) hX dX12_debt_1 rfl rfl ?_
  refine J_iload_n (q := 1) hX dX12_debt_2 rfl rfl ?_
  obtain ⟨r_3, σ_1, hc_2, h⟩ := bnd2_some h
  refine K_callV [.int v1] hX hg hR (ctM_isCarrier hw hc_2) lk_X12_363_X12_isCarrier md_X12_isCarrier (mc_0 hw) cls_X12 ⟨by decide, by decide⟩ rfl rfl (Nat.le_of_ble_eq_true rfl) dX12_debt_3 ?_
  refine K_if_eq (tgt := 13) hX dX12_debt_6 rfl h (fun h => ?_) (fun h => ?_)
  · refine J_iconst (v := (1 : Int32)) hX dX12_debt_13 (by decide) ?_
    refine J_sub [0, 1] rfl ?_
    exact tM_debt_14 hX hw hg hR hr v1 (1 : Int32) σ_1 h
  · refine J_iconst (v := (0 : Int32)) hX dX12_debt_9 (by decide) ?_
    refine J_goto (tgt := 14) hX dX12_debt_10 rfl ?_
    refine J_sub [0, 1] rfl ?_
    exact tM_debt_14 hX hw hg hR hr v1 (0 : Int32) σ_1 h
theorem ctM_debt {w : WT} (hw : w.1 = mLy) {v1 : Int32} {σ : St} {r : Int32} {τ : St} (h : rM_debt v1 σ = some (r, τ)) : Ct yX12_debt cX12_debt 2 (some .int) 2 41 w [.ref (wad w 0), .int v1] σ (some (.int r)) τ 0 0 :=
  Ct_intro (fun _ => (0, 0)) (by decide) rfl ⟨rfl, Nat.le_refl _⟩ (Nat.le_of_ble_eq_true rfl) (fun X hX hR hwX hg hr => by subst hwX; exact tM_debt hX hw hg hR hr v1 σ h)

def rM_settled_129 (k9 : Int32 → Int32 → St → Option (Int32 × St)) (v2 : Int32) (s0 : Int32) (σ : St) : Option (Int32 × St) :=
  nm s0 fun v1_12 => nm (v2 + Int32.ofInt 1) fun v2_13 => k9 v1_12 v2_13 σ
set_option maxRecDepth 100000 in
theorem tM_settled_129 {X : CX} (hX : gd X cX12_settled 4 RX12 (some .int)) (hw : (xw X).1 = mLy) (hg : nA X) (hR : xR X = rmOf 2 46 0 0) {r : Int32} {τ : St} (hr : xr X = (some (.int r), τ)) {k9 : Int32 → Int32 → St → Option (Int32 × St)} (hk9 : (∀ (v1 : Int32) (v2 : Int32) (σ : St), k9 v1 v2 σ = some (r, τ) → Jd X 4 9 [(0, .ref (wad (xw X) 0)), (1, .int v1), (2, .int v2)] [] σ)) (v2 : Int32) (s0 : Int32) (σ : St) (h : rM_settled_129 k9 v2 s0 σ = some (r, τ)) : Jd X 4 129 [(0, .ref (wad (xw X) 0)), (2, .int v2)] [.int s0] σ := by
  unfold rM_settled_129 at h
  refine K_istore_n (fun v1_12 => [(1, .int v1_12), (0, .ref (wad (xw X) 0)), (2, .int v2)]) hX dX12_settled_129 rfl (by decide) (fun _ => rfl) h (fun v1_12 h => ?_)
  refine K_iinc (q := 2) (fun v2_13 => [(2, .int v2_13), (1, .int v1_12), (0, .ref (wad (xw X) 0))]) hX dX12_settled_130 rfl (by decide) (fun _ => rfl) h (fun v2_13 h => ?_)
  refine J_goto (tgt := 9) hX dX12_settled_133 rfl ?_
  refine J_sub [2, 1, 0] rfl ?_
  exact hk9 v1_12 v2_13 σ h

def rM_settled_100 (k9 : Int32 → Int32 → St → Option (Int32 × St)) (k36 : Int32 → Int32 → Int32 → St → Option (Int32 × St)) (v1 : Int32) (v2 : Int32) (v3 : Int32) (σ : St) : Option (Int32 × St) :=
  nm ((v3 - (1 : Int32)) &&& v2) fun v3_17 => k36 v1 v2 v3_17 σ
set_option maxRecDepth 100000 in
theorem tM_settled_100 {X : CX} (hX : gd X cX12_settled 4 RX12 (some .int)) (hw : (xw X).1 = mLy) (hg : nA X) (hR : xR X = rmOf 2 46 0 0) {r : Int32} {τ : St} (hr : xr X = (some (.int r), τ)) {k9 : Int32 → Int32 → St → Option (Int32 × St)} (hk9 : (∀ (v1 : Int32) (v2 : Int32) (σ : St), k9 v1 v2 σ = some (r, τ) → Jd X 4 9 [(0, .ref (wad (xw X) 0)), (1, .int v1), (2, .int v2)] [] σ)) {k36 : Int32 → Int32 → Int32 → St → Option (Int32 × St)} (hk36 : (∀ (v1 : Int32) (v2 : Int32) (v3 : Int32) (σ : St), k36 v1 v2 v3 σ = some (r, τ) → Jd X 4 36 [(0, .ref (wad (xw X) 0)), (1, .int v1), (2, .int v2), (3, .int v3)] [] σ)) (v1 : Int32) (v2 : Int32) (v3 : Int32) (σ : St) (h : rM_settled_100 k9 k36 v1 v2 v3 σ = some (r, τ)) : Jd X 4 100 [(0, .ref (wad (xw X) 0)), (1, .int v1), (2, .int v2), (3, .int v3)] [] σ := by
  unfold rM_settled_100 at h
  refine J_iload_n (q := 3) hX dX12_settled_100 rfl rfl ?_
  refine J_iconst (v := (1 : Int32)) hX dX12_settled_101 (by decide) ?_
  refine J_isub hX dX12_settled_102 ?_
  refine J_iload_n (q := 2) hX dX12_settled_103 rfl rfl ?_
  refine J_iand hX dX12_settled_104 ?_
  refine K_istore_n (fun v3_17 => [(3, .int v3_17), (0, .ref (wad (xw X) 0)), (1, .int v1), (2, .int v2)]) hX dX12_settled_105 rfl (by decide) (fun _ => rfl) h (fun v3_17 h => ?_)
  refine J_goto (tgt := 36) hX dX12_settled_106 rfl ?_
  refine J_sub [1, 2, 3, 0] rfl ?_
  exact hk36 v1 v2 v3_17 σ h

def rM_settled_36 (k9 : Int32 → Int32 → St → Option (Int32 × St)) (k36 : Int32 → Int32 → Int32 → St → Option (Int32 × St)) (v1 : Int32) (v2 : Int32) (v3 : Int32) (σ : St) : Option (Int32 × St) :=
  brc (v3 ≤ 0) (chk (ib v2 64) (brc ((σ.1 25 v2.toNatClampNeg) ≤ v1) (rM_settled_129 k9 v2 v1 σ) (chk (ib v2 64) (rM_settled_129 k9 v2 (σ.1 25 v2.toNatClampNeg) σ)))) (bnd2 (rM_sumOf v3 σ) fun r_16 σ_14 => brc (¬ r_16 = 0) (rM_settled_100 k9 k36 v1 v2 v3 σ_14) (chk (ib (v2 &&& (v3 ^^^ (-1 : Int32))) 64) (brc ((σ_14.1 25 (v2 &&& (v3 ^^^ (-1 : Int32))).toNatClampNeg) < 0) (rM_settled_100 k9 k36 v1 v2 v3 σ_14) (chk (ib (v2 &&& (v3 ^^^ (-1 : Int32))) 64) (chk (ib v2 64) (brc (((σ_14.1 25 (v2 &&& (v3 ^^^ (-1 : Int32))).toNatClampNeg) + (1 : Int32)) ≤ (σ_14.1 25 v2.toNatClampNeg)) (rM_settled_100 k9 k36 v1 v2 v3 σ_14) (chk (ib (v2 &&& (v3 ^^^ (-1 : Int32))) 64) (chk (ib v2 64) (nm (setI σ_14 25 v2.toNatClampNeg ((σ_14.1 25 (v2 &&& (v3 ^^^ (-1 : Int32))).toNatClampNeg) + (1 : Int32))) fun σ_18 => rM_settled_100 k9 k36 v1 v2 v3 σ_18)))))))))
set_option maxRecDepth 100000 in
theorem tM_settled_36b {X : CX} (hX : gd X cX12_settled 4 RX12 (some .int)) (hw : (xw X).1 = mLy) (hg : nA X) (hR : xR X = rmOf 2 46 0 0) {r : Int32} {τ : St} (hr : xr X = (some (.int r), τ)) {k9 : Int32 → Int32 → St → Option (Int32 × St)} (hk9 : (∀ (v1 : Int32) (v2 : Int32) (σ : St), k9 v1 v2 σ = some (r, τ) → Jd X 4 9 [(0, .ref (wad (xw X) 0)), (1, .int v1), (2, .int v2)] [] σ)) {k36 : Int32 → Int32 → Int32 → St → Option (Int32 × St)} (hk36 : (∀ (v1 : Int32) (v2 : Int32) (v3 : Int32) (σ : St), k36 v1 v2 v3 σ = some (r, τ) → Jd X 4 36 [(0, .ref (wad (xw X) 0)), (1, .int v1), (2, .int v2), (3, .int v3)] [] σ)) (v1 : Int32) (v2 : Int32) (v3 : Int32) (σ : St) (h : rM_settled_36 k9 k36 v1 v2 v3 σ = some (r, τ)) : Jd X 4 36 [(0, .ref (wad (xw X) 0)), (1, .int v1), (2, .int v2), (3, .int v3)] [] σ := by
  unfold rM_settled_36 at h
  refine J_iload_n (q := 3) hX dX12_settled_36 rfl rfl ?_
  refine K_if_le (tgt := 109) hX dX12_settled_37 rfl h (fun h => ?_) (fun h => ?_)
  · refine J_aload_n (q := 0) hX dX12_settled_109 rfl rfl ?_
    refine K_getc 25 hX (mc_0 hw) cls_X12 (k := 43) (by decide) uw_6_90 rfl dX12_settled_110 ?_
    refine J_iload_n (q := 2) hX dX12_settled_113 rfl rfl ?_
    refine K_iald hX (mc_25 hw) dX12_settled_114 h (fun h => ?_)
    refine J_iload_n (q := 1) hX dX12_settled_115 rfl rfl ?_
    refine K_icmp_le (tgt := 128) hX dX12_settled_116 rfl h (fun h => ?_) (fun h => ?_)
    · refine J_iload_n (q := 1) hX dX12_settled_128 rfl rfl ?_
      refine J_sub [0, 2] rfl ?_
      exact tM_settled_129 hX hw hg hR hr hk9 v2 v1 σ h
    · refine J_aload_n (q := 0) hX dX12_settled_119 rfl rfl ?_
      refine K_getc 25 hX (mc_0 hw) cls_X12 (k := 43) (by decide) uw_6_90 rfl dX12_settled_120 ?_
      refine J_iload_n (q := 2) hX dX12_settled_123 rfl rfl ?_
      refine K_iald hX (mc_25 hw) dX12_settled_124 h (fun h => ?_)
      refine J_goto (tgt := 129) hX dX12_settled_125 rfl ?_
      refine J_sub [0, 2] rfl ?_
      exact tM_settled_129 hX hw hg hR hr hk9 v2 (σ.1 25 v2.toNatClampNeg) σ h
  · refine J_aload_n (q := 0) hX dX12_settled_40 rfl rfl ?_
    refine J_iload_n (q := 3) hX dX12_settled_41 rfl rfl ?_
    obtain ⟨r_16, σ_14, hc_15, h⟩ := bnd2_some h
    refine K_callV [.int v3] hX hg hR (ctM_sumOf hw hc_15) lk_X12_431_X12_sumOf md_X12_sumOf (mc_0 hw) cls_X12 ⟨by decide, by decide⟩ rfl rfl (Nat.le_of_ble_eq_true rfl) dX12_settled_42 ?_
    refine K_if_ne (tgt := 100) hX dX12_settled_45 rfl h (fun h => ?_) (fun h => ?_)
    · refine J_sub [0, 1, 2, 3] rfl ?_
      exact tM_settled_100 hX hw hg hR hr hk9 hk36 v1 v2 v3 σ_14 h
    · refine J_aload_n (q := 0) hX dX12_settled_48 rfl rfl ?_
      refine K_getc 25 hX (mc_0 hw) cls_X12 (k := 43) (by decide) uw_6_90 rfl dX12_settled_49 ?_
      refine J_iload_n (q := 2) hX dX12_settled_52 rfl rfl ?_
      refine J_iload_n (q := 3) hX dX12_settled_53 rfl rfl ?_
      refine J_iconst (v := (-1 : Int32)) hX dX12_settled_54 (by decide) ?_
      refine J_ixor hX dX12_settled_55 ?_
      refine J_iand hX dX12_settled_56 ?_
      refine K_iald hX (mc_25 hw) dX12_settled_57 h (fun h => ?_)
      refine K_if_lt (tgt := 100) hX dX12_settled_58 rfl h (fun h => ?_) (fun h => ?_)
      · refine J_sub [0, 1, 2, 3] rfl ?_
        exact tM_settled_100 hX hw hg hR hr hk9 hk36 v1 v2 v3 σ_14 h
      · refine J_aload_n (q := 0) hX dX12_settled_61 rfl rfl ?_
        refine K_getc 25 hX (mc_0 hw) cls_X12 (k := 43) (by decide) uw_6_90 rfl dX12_settled_62 ?_
        refine J_iload_n (q := 2) hX dX12_settled_65 rfl rfl ?_
        refine J_iload_n (q := 3) hX dX12_settled_66 rfl rfl ?_
        refine J_iconst (v := (-1 : Int32)) hX dX12_settled_67 (by decide) ?_
        refine J_ixor hX dX12_settled_68 ?_
        refine J_iand hX dX12_settled_69 ?_
        refine K_iald hX (mc_25 hw) dX12_settled_70 h (fun h => ?_)
        refine J_iconst (v := (1 : Int32)) hX dX12_settled_71 (by decide) ?_
        refine J_iadd hX dX12_settled_72 ?_
        refine J_aload_n (q := 0) hX dX12_settled_73 rfl rfl ?_
        refine K_getc 25 hX (mc_0 hw) cls_X12 (k := 43) (by decide) uw_6_90 rfl dX12_settled_74 ?_
        refine J_iload_n (q := 2) hX dX12_settled_77 rfl rfl ?_
        refine K_iald hX (mc_25 hw) dX12_settled_78 h (fun h => ?_)
        refine K_icmp_le (tgt := 100) hX dX12_settled_79 rfl h (fun h => ?_) (fun h => ?_)
        · refine J_sub [0, 1, 2, 3] rfl ?_
          exact tM_settled_100 hX hw hg hR hr hk9 hk36 v1 v2 v3 σ_14 h
        · refine J_aload_n (q := 0) hX dX12_settled_82 rfl rfl ?_
          refine K_getc 25 hX (mc_0 hw) cls_X12 (k := 43) (by decide) uw_6_90 rfl dX12_settled_83 ?_
          refine J_iload_n (q := 2) hX dX12_settled_86 rfl rfl ?_
          refine J_aload_n (q := 0) hX dX12_settled_87 rfl rfl ?_
          refine K_getc 25 hX (mc_0 hw) cls_X12 (k := 43) (by decide) uw_6_90 rfl dX12_settled_88 ?_
          refine J_iload_n (q := 2) hX dX12_settled_91 rfl rfl ?_
          refine J_iload_n (q := 3) hX dX12_settled_92 rfl rfl ?_
          refine J_iconst (v := (-1 : Int32)) hX dX12_settled_93 (by decide) ?_
          refine J_ixor hX dX12_settled_94 ?_
          refine J_iand hX dX12_settled_95 ?_
          refine K_iald hX (mc_25 hw) dX12_settled_96 h (fun h => ?_)
          refine J_iconst (v := (1 : Int32)) hX dX12_settled_97 (by decide) ?_
          refine J_iadd hX dX12_settled_98 ?_
          refine K_iast hX (mc_25 hw) dX12_settled_99 h (fun σ_18 h => ?_)
          refine J_sub [0, 1, 2, 3] rfl ?_
          exact tM_settled_100 hX hw hg hR hr hk9 hk36 v1 v2 v3 σ_18 h
def rM_settled_36L (k9 : Int32 → Int32 → St → Option (Int32 × St)) : ((Int32 × Int32 × Int32 × St) → Option (Int32 × St)) → (Int32 × Int32 × Int32 × St) → Option (Int32 × St) := fun k a => rM_settled_36 k9 (fun v1 v2 v3 σ => k (v1, v2, v3, σ)) a.1 a.2.1 a.2.2.1 a.2.2.2
theorem tM_settled_36 {X : CX} (hX : gd X cX12_settled 4 RX12 (some .int)) (hw : (xw X).1 = mLy) (hg : nA X) (hR : xR X = rmOf 2 46 0 0) {r : Int32} {τ : St} (hr : xr X = (some (.int r), τ)) {k9 : Int32 → Int32 → St → Option (Int32 × St)} (hk9 : (∀ (v1 : Int32) (v2 : Int32) (σ : St), k9 v1 v2 σ = some (r, τ) → Jd X 4 9 [(0, .ref (wad (xw X) 0)), (1, .int v1), (2, .int v2)] [] σ)) (n : Nat) (v1 : Int32) (v2 : Int32) (v3 : Int32) (σ : St) (h : lp (rM_settled_36L k9) n (v1, v2, v3, σ) = some (r, τ)) : Jd X 4 36 [(0, .ref (wad (xw X) 0)), (1, .int v1), (2, .int v2), (3, .int v3)] [] σ :=
  lp_ind (F := rM_settled_36L k9) (P := fun a => Jd X 4 36 [(0, .ref (wad (xw X) 0)), (1, .int a.1), (2, .int a.2.1), (3, .int a.2.2.1)] [] a.2.2.2) (fun k a hk h => tM_settled_36b hX hw hg hR hr hk9 (fun v1 v2 v3 σ h => hk (v1, v2, v3, σ) h) a.1 a.2.1 a.2.2.1 a.2.2.2 h) n (v1, v2, v3, σ) h

def rM_settled_33 (k9 : Int32 → Int32 → St → Option (Int32 × St)) (v1 : Int32) (v2 : Int32) (s0 : Int32) (s1 : Int32) (σ : St) : Option (Int32 × St) :=
  chk (ib s1 64) (nm (setI σ 25 s1.toNatClampNeg s0) fun σ_10 => nm v2 fun v3_11 => lp (rM_settled_36L k9) fu (v1, v2, v3_11, σ_10))
set_option maxRecDepth 100000 in
theorem tM_settled_33 {X : CX} (hX : gd X cX12_settled 4 RX12 (some .int)) (hw : (xw X).1 = mLy) (hg : nA X) (hR : xR X = rmOf 2 46 0 0) {r : Int32} {τ : St} (hr : xr X = (some (.int r), τ)) {k9 : Int32 → Int32 → St → Option (Int32 × St)} (hk9 : (∀ (v1 : Int32) (v2 : Int32) (σ : St), k9 v1 v2 σ = some (r, τ) → Jd X 4 9 [(0, .ref (wad (xw X) 0)), (1, .int v1), (2, .int v2)] [] σ)) (v1 : Int32) (v2 : Int32) (s0 : Int32) (s1 : Int32) (σ : St) (h : rM_settled_33 k9 v1 v2 s0 s1 σ = some (r, τ)) : Jd X 4 33 [(0, .ref (wad (xw X) 0)), (1, .int v1), (2, .int v2)] [.int s0, .int s1, .ref (wad (xw X) 25)] σ := by
  unfold rM_settled_33 at h
  refine K_iast hX (mc_25 hw) dX12_settled_33 h (fun σ_10 h => ?_)
  refine J_iload_n (q := 2) hX dX12_settled_34 rfl rfl ?_
  refine K_istore_n (fun v3_11 => [(3, .int v3_11), (0, .ref (wad (xw X) 0)), (1, .int v1), (2, .int v2)]) hX dX12_settled_35 rfl (by decide) (fun _ => rfl) h (fun v3_11 h => ?_)
  refine J_sub [1, 2, 3, 0] rfl ?_
  exact tM_settled_36 hX hw hg hR hr hk9 fu v1 v2 v3_11 σ_10 h

def rM_settled_9 (k9 : Int32 → Int32 → St → Option (Int32 × St)) (v1 : Int32) (v2 : Int32) (σ : St) : Option (Int32 × St) :=
  bnd2 (rM_carriers σ) fun r_6 σ_4 => brc (((1 : Int32) <<< (r_6 &&& 31)) ≤ v2) (bnd2 (rM_carriers σ_4) fun r_9 σ_7 => some (r_9 - v1, σ_7)) (brc (¬ v2 = 0) (rM_settled_33 k9 v1 v2 (-1 : Int32) v2 σ_4) (rM_settled_33 k9 v1 v2 (0 : Int32) v2 σ_4))
set_option maxRecDepth 100000 in
theorem tM_settled_9b {X : CX} (hX : gd X cX12_settled 4 RX12 (some .int)) (hw : (xw X).1 = mLy) (hg : nA X) (hR : xR X = rmOf 2 46 0 0) {r : Int32} {τ : St} (hr : xr X = (some (.int r), τ)) {k9 : Int32 → Int32 → St → Option (Int32 × St)} (hk9 : (∀ (v1 : Int32) (v2 : Int32) (σ : St), k9 v1 v2 σ = some (r, τ) → Jd X 4 9 [(0, .ref (wad (xw X) 0)), (1, .int v1), (2, .int v2)] [] σ)) (v1 : Int32) (v2 : Int32) (σ : St) (h : rM_settled_9 k9 v1 v2 σ = some (r, τ)) : Jd X 4 9 [(0, .ref (wad (xw X) 0)), (1, .int v1), (2, .int v2)] [] σ := by
  unfold rM_settled_9 at h
  refine J_iload_n (q := 2) hX dX12_settled_9 rfl rfl ?_
  refine J_iconst (v := (1 : Int32)) hX dX12_settled_10 (by decide) ?_
  refine J_aload_n (q := 0) hX dX12_settled_11 rfl rfl ?_
  obtain ⟨r_6, σ_4, hc_5, h⟩ := bnd2_some h
  refine K_callV [] hX hg hR (ctM_carriers hw hc_5) lk_X12_312_X12_carriers md_X12_carriers (mc_0 hw) cls_X12 ⟨by decide, by decide⟩ rfl rfl (Nat.le_of_ble_eq_true rfl) dX12_settled_12 ?_
  refine J_ishl hX dX12_settled_15 ?_
  refine K_icmp_ge (tgt := 136) hX dX12_settled_16 rfl h (fun h => ?_) (fun h => ?_)
  · refine J_aload_n (q := 0) hX dX12_settled_136 rfl rfl ?_
    obtain ⟨r_9, σ_7, hc_8, h⟩ := bnd2_some h
    refine K_callV [] hX hg hR (ctM_carriers hw hc_8) lk_X12_312_X12_carriers md_X12_carriers (mc_0 hw) cls_X12 ⟨by decide, by decide⟩ rfl rfl (Nat.le_of_ble_eq_true rfl) dX12_settled_137 ?_
    refine J_iload_n (q := 1) hX dX12_settled_140 rfl rfl ?_
    refine J_isub hX dX12_settled_141 ?_
    exact K_iret hX hr dX12_settled_142 h
  · refine J_aload_n (q := 0) hX dX12_settled_19 rfl rfl ?_
    refine K_getc 25 hX (mc_0 hw) cls_X12 (k := 43) (by decide) uw_6_90 rfl dX12_settled_20 ?_
    refine J_iload_n (q := 2) hX dX12_settled_23 rfl rfl ?_
    refine J_iload_n (q := 2) hX dX12_settled_24 rfl rfl ?_
    refine K_if_ne (tgt := 32) hX dX12_settled_25 rfl h (fun h => ?_) (fun h => ?_)
    · refine J_iconst (v := (-1 : Int32)) hX dX12_settled_32 (by decide) ?_
      refine J_sub [0, 1, 2] rfl ?_
      exact tM_settled_33 hX hw hg hR hr hk9 v1 v2 (-1 : Int32) v2 σ_4 h
    · refine J_iconst (v := (0 : Int32)) hX dX12_settled_28 (by decide) ?_
      refine J_goto (tgt := 33) hX dX12_settled_29 rfl ?_
      refine J_sub [0, 1, 2] rfl ?_
      exact tM_settled_33 hX hw hg hR hr hk9 v1 v2 (0 : Int32) v2 σ_4 h
def rM_settled_9L : ((Int32 × Int32 × St) → Option (Int32 × St)) → (Int32 × Int32 × St) → Option (Int32 × St) := fun k a => rM_settled_9 (fun v1 v2 σ => k (v1, v2, σ)) a.1 a.2.1 a.2.2
theorem tM_settled_9 {X : CX} (hX : gd X cX12_settled 4 RX12 (some .int)) (hw : (xw X).1 = mLy) (hg : nA X) (hR : xR X = rmOf 2 46 0 0) {r : Int32} {τ : St} (hr : xr X = (some (.int r), τ)) (n : Nat) (v1 : Int32) (v2 : Int32) (σ : St) (h : lp (rM_settled_9L) n (v1, v2, σ) = some (r, τ)) : Jd X 4 9 [(0, .ref (wad (xw X) 0)), (1, .int v1), (2, .int v2)] [] σ :=
  lp_ind (F := rM_settled_9L) (P := fun a => Jd X 4 9 [(0, .ref (wad (xw X) 0)), (1, .int a.1), (2, .int a.2.1)] [] a.2.2) (fun k a hk h => tM_settled_9b hX hw hg hR hr (fun v1 v2 σ h => hk (v1, v2, σ) h) a.1 a.2.1 a.2.2 h) n (v1, v2, σ) h

def rM_settled (σ : St) : Option (Int32 × St) :=
  nm (setI σ 0 0 (0 : Int32)) fun σ_1 => nm (0 : Int32) fun v1_2 => nm (0 : Int32) fun v2_3 => lp (rM_settled_9L) fu (v1_2, v2_3, σ_1)
set_option maxRecDepth 100000 in
theorem tM_settled {X : CX} (hX : gd X cX12_settled 4 RX12 (some .int)) (hw : (xw X).1 = mLy) (hg : nA X) (hR : xR X = rmOf 2 46 0 0) {r : Int32} {τ : St} (hr : xr X = (some (.int r), τ)) (σ : St) (h : rM_settled σ = some (r, τ)) : Jd X 4 0 [(0, .ref (wad (xw X) 0))] [] σ := by
  unfold rM_settled at h
  refine J_aload_n (q := 0) hX dX12_settled_0 rfl rfl ?_
  refine J_iconst (v := (0 : Int32)) hX dX12_settled_1 (by decide) ?_
  refine K_puti hX (mc_0 hw) cls_X12 (k := 0) (by decide) uw_6_47 rfl rfl rfl dX12_settled_2 h (fun σ_1 h => ?_)
  refine J_iconst (v := (0 : Int32)) hX dX12_settled_5 (by decide) ?_
  refine K_istore_n (fun v1_2 => [(1, .int v1_2), (0, .ref (wad (xw X) 0))]) hX dX12_settled_6 rfl (by decide) (fun _ => rfl) h (fun v1_2 h => ?_)
  refine J_iconst (v := (0 : Int32)) hX dX12_settled_7 (by decide) ?_
  refine K_istore_n (fun v2_3 => [(2, .int v2_3), (1, .int v1_2), (0, .ref (wad (xw X) 0))]) hX dX12_settled_8 rfl (by decide) (fun _ => rfl) h (fun v2_3 h => ?_)
  refine J_sub [2, 1, 0] rfl ?_
  exact tM_settled_9 hX hw hg hR hr fu v1_2 v2_3 σ_1 h
theorem ctM_settled {w : WT} (hw : w.1 = mLy) {σ : St} {r : Int32} {τ : St} (h : rM_settled σ = some (r, τ)) : Ct yX12_settled cX12_settled 4 (some .int) 2 46 w [.ref (wad w 0)] σ (some (.int r)) τ 0 0 :=
  Ct_intro (fun _ => (0, 0)) (by decide) rfl ⟨rfl, Nat.le_refl _⟩ (Nat.le_of_ble_eq_true rfl) (fun X hX hR hwX hg hr => by subst hwX; exact tM_settled hX hw hg hR hr  σ h)

def rM_missedBy_46 (k5 : Int32 → Int32 → Int32 → Int32 → St → Option (Int32 × St)) (v1 : Int32) (v2 : Int32) (v4 : Int32) (s0 : Int32) (s1 : Int32) (σ : St) : Option (Int32 × St) :=
  nm (s1 + s0) fun v3_9 => nm (v4 + Int32.ofInt 1) fun v4_10 => k5 v1 v2 v3_9 v4_10 σ
set_option maxRecDepth 100000 in
theorem tM_missedBy_46 {X : CX} (hX : gd X cX12_missedBy 5 RX12 (some .int)) (hw : (xw X).1 = mLy) (hg : nA X) (hR : xR X = rmOf 2 46 0 0) {r : Int32} {τ : St} (hr : xr X = (some (.int r), τ)) {k5 : Int32 → Int32 → Int32 → Int32 → St → Option (Int32 × St)} (hk5 : (∀ (v1 : Int32) (v2 : Int32) (v3 : Int32) (v4 : Int32) (σ : St), k5 v1 v2 v3 v4 σ = some (r, τ) → Jd X 5 5 [(0, .ref (wad (xw X) 0)), (1, .int v1), (2, .int v2), (3, .int v3), (4, .int v4)] [] σ)) (v1 : Int32) (v2 : Int32) (v4 : Int32) (s0 : Int32) (s1 : Int32) (σ : St) (h : rM_missedBy_46 k5 v1 v2 v4 s0 s1 σ = some (r, τ)) : Jd X 5 46 [(0, .ref (wad (xw X) 0)), (1, .int v1), (2, .int v2), (4, .int v4)] [.int s0, .int s1] σ := by
  unfold rM_missedBy_46 at h
  refine J_iadd hX dX12_missedBy_46 ?_
  refine K_istore_n (fun v3_9 => [(3, .int v3_9), (0, .ref (wad (xw X) 0)), (1, .int v1), (2, .int v2), (4, .int v4)]) hX dX12_missedBy_47 rfl (by decide) (fun _ => rfl) h (fun v3_9 h => ?_)
  refine K_iinc (q := 4) (fun v4_10 => [(4, .int v4_10), (3, .int v3_9), (0, .ref (wad (xw X) 0)), (1, .int v1), (2, .int v2)]) hX dX12_missedBy_48 rfl (by decide) (fun _ => rfl) h (fun v4_10 h => ?_)
  refine J_goto (tgt := 5) hX dX12_missedBy_51 rfl ?_
  refine J_sub [2, 3, 4, 1, 0] rfl ?_
  exact hk5 v1 v2 v3_9 v4_10 σ h

def rM_missedBy_45 (k5 : Int32 → Int32 → Int32 → Int32 → St → Option (Int32 × St)) (v1 : Int32) (v2 : Int32) (v4 : Int32) (s0 : Int32) (σ : St) : Option (Int32 × St) :=
  rM_missedBy_46 k5 v1 v2 v4 (0 : Int32) s0 σ
set_option maxRecDepth 100000 in
theorem tM_missedBy_45 {X : CX} (hX : gd X cX12_missedBy 5 RX12 (some .int)) (hw : (xw X).1 = mLy) (hg : nA X) (hR : xR X = rmOf 2 46 0 0) {r : Int32} {τ : St} (hr : xr X = (some (.int r), τ)) {k5 : Int32 → Int32 → Int32 → Int32 → St → Option (Int32 × St)} (hk5 : (∀ (v1 : Int32) (v2 : Int32) (v3 : Int32) (v4 : Int32) (σ : St), k5 v1 v2 v3 v4 σ = some (r, τ) → Jd X 5 5 [(0, .ref (wad (xw X) 0)), (1, .int v1), (2, .int v2), (3, .int v3), (4, .int v4)] [] σ)) (v1 : Int32) (v2 : Int32) (v4 : Int32) (s0 : Int32) (σ : St) (h : rM_missedBy_45 k5 v1 v2 v4 s0 σ = some (r, τ)) : Jd X 5 45 [(0, .ref (wad (xw X) 0)), (1, .int v1), (2, .int v2), (4, .int v4)] [.int s0] σ := by
  unfold rM_missedBy_45 at h
  refine J_iconst (v := (0 : Int32)) hX dX12_missedBy_45 (by decide) ?_
  refine J_sub [0, 1, 2, 3] rfl ?_
  exact tM_missedBy_46 hX hw hg hR hr hk5 v1 v2 v4 (0 : Int32) s0 σ h

def rM_missedBy_41 (k5 : Int32 → Int32 → Int32 → Int32 → St → Option (Int32 × St)) (v1 : Int32) (v2 : Int32) (v4 : Int32) (s0 : Int32) (σ : St) : Option (Int32 × St) :=
  rM_missedBy_46 k5 v1 v2 v4 (1 : Int32) s0 σ
set_option maxRecDepth 100000 in
theorem tM_missedBy_41 {X : CX} (hX : gd X cX12_missedBy 5 RX12 (some .int)) (hw : (xw X).1 = mLy) (hg : nA X) (hR : xR X = rmOf 2 46 0 0) {r : Int32} {τ : St} (hr : xr X = (some (.int r), τ)) {k5 : Int32 → Int32 → Int32 → Int32 → St → Option (Int32 × St)} (hk5 : (∀ (v1 : Int32) (v2 : Int32) (v3 : Int32) (v4 : Int32) (σ : St), k5 v1 v2 v3 v4 σ = some (r, τ) → Jd X 5 5 [(0, .ref (wad (xw X) 0)), (1, .int v1), (2, .int v2), (3, .int v3), (4, .int v4)] [] σ)) (v1 : Int32) (v2 : Int32) (v4 : Int32) (s0 : Int32) (σ : St) (h : rM_missedBy_41 k5 v1 v2 v4 s0 σ = some (r, τ)) : Jd X 5 41 [(0, .ref (wad (xw X) 0)), (1, .int v1), (2, .int v2), (4, .int v4)] [.int s0] σ := by
  unfold rM_missedBy_41 at h
  refine J_iconst (v := (1 : Int32)) hX dX12_missedBy_41 (by decide) ?_
  refine J_goto (tgt := 46) hX dX12_missedBy_42 rfl ?_
  refine J_sub [0, 1, 2, 3] rfl ?_
  exact tM_missedBy_46 hX hw hg hR hr hk5 v1 v2 v4 (1 : Int32) s0 σ h

def rM_missedBy_5 (k5 : Int32 → Int32 → Int32 → Int32 → St → Option (Int32 × St)) (v1 : Int32) (v2 : Int32) (v3 : Int32) (v4 : Int32) (σ : St) : Option (Int32 × St) :=
  bnd2 (rM_carriers σ) fun r_5 σ_3 => brc (((1 : Int32) <<< (r_5 &&& 31)) ≤ v4) (some (v3, σ_3)) (bnd2 (rM_isMissed v4 v1 σ_3) fun r_8 σ_6 => brc (r_8 = 0) (rM_missedBy_45 k5 v1 v2 v4 v3 σ_6) (brc (v2 < 0) (rM_missedBy_41 k5 v1 v2 v4 v3 σ_6) (brc (¬ ((v4 >>> (v2 &&& 31)) &&& (1 : Int32)) = (1 : Int32)) (rM_missedBy_45 k5 v1 v2 v4 v3 σ_6) (rM_missedBy_41 k5 v1 v2 v4 v3 σ_6))))
set_option maxRecDepth 100000 in
theorem tM_missedBy_5b {X : CX} (hX : gd X cX12_missedBy 5 RX12 (some .int)) (hw : (xw X).1 = mLy) (hg : nA X) (hR : xR X = rmOf 2 46 0 0) {r : Int32} {τ : St} (hr : xr X = (some (.int r), τ)) {k5 : Int32 → Int32 → Int32 → Int32 → St → Option (Int32 × St)} (hk5 : (∀ (v1 : Int32) (v2 : Int32) (v3 : Int32) (v4 : Int32) (σ : St), k5 v1 v2 v3 v4 σ = some (r, τ) → Jd X 5 5 [(0, .ref (wad (xw X) 0)), (1, .int v1), (2, .int v2), (3, .int v3), (4, .int v4)] [] σ)) (v1 : Int32) (v2 : Int32) (v3 : Int32) (v4 : Int32) (σ : St) (h : rM_missedBy_5 k5 v1 v2 v3 v4 σ = some (r, τ)) : Jd X 5 5 [(0, .ref (wad (xw X) 0)), (1, .int v1), (2, .int v2), (3, .int v3), (4, .int v4)] [] σ := by
  unfold rM_missedBy_5 at h
  refine J_iload (q := 4) hX dX12_missedBy_5 rfl ?_
  refine J_iconst (v := (1 : Int32)) hX dX12_missedBy_7 (by decide) ?_
  refine J_aload_n (q := 0) hX dX12_missedBy_8 rfl rfl ?_
  obtain ⟨r_5, σ_3, hc_4, h⟩ := bnd2_some h
  refine K_callV [] hX hg hR (ctM_carriers hw hc_4) lk_X12_312_X12_carriers md_X12_carriers (mc_0 hw) cls_X12 ⟨by decide, by decide⟩ rfl rfl (Nat.le_of_ble_eq_true rfl) dX12_missedBy_9 ?_
  refine J_ishl hX dX12_missedBy_12 ?_
  refine K_icmp_ge (tgt := 54) hX dX12_missedBy_13 rfl h (fun h => ?_) (fun h => ?_)
  · refine J_iload_n (q := 3) hX dX12_missedBy_54 rfl rfl ?_
    exact K_iret hX hr dX12_missedBy_55 h
  · refine J_iload_n (q := 3) hX dX12_missedBy_16 rfl rfl ?_
    refine J_aload_n (q := 0) hX dX12_missedBy_17 rfl rfl ?_
    refine J_iload (q := 4) hX dX12_missedBy_18 rfl ?_
    refine J_iload_n (q := 1) hX dX12_missedBy_20 rfl rfl ?_
    obtain ⟨r_8, σ_6, hc_7, h⟩ := bnd2_some h
    refine K_callV [.int v4, .int v1] hX hg hR (ctM_isMissed hw hc_7) lk_X12_434_X12_isMissed md_X12_isMissed (mc_0 hw) cls_X12 ⟨by decide, by decide⟩ rfl rfl (Nat.le_of_ble_eq_true rfl) dX12_missedBy_21 ?_
    refine K_if_eq (tgt := 45) hX dX12_missedBy_24 rfl h (fun h => ?_) (fun h => ?_)
    · refine J_sub [0, 1, 2, 4] rfl ?_
      exact tM_missedBy_45 hX hw hg hR hr hk5 v1 v2 v4 v3 σ_6 h
    · refine J_iload_n (q := 2) hX dX12_missedBy_27 rfl rfl ?_
      refine K_if_lt (tgt := 41) hX dX12_missedBy_28 rfl h (fun h => ?_) (fun h => ?_)
      · refine J_sub [0, 1, 2, 4] rfl ?_
        exact tM_missedBy_41 hX hw hg hR hr hk5 v1 v2 v4 v3 σ_6 h
      · refine J_iload (q := 4) hX dX12_missedBy_31 rfl ?_
        refine J_iload_n (q := 2) hX dX12_missedBy_33 rfl rfl ?_
        refine J_ishr hX dX12_missedBy_34 ?_
        refine J_iconst (v := (1 : Int32)) hX dX12_missedBy_35 (by decide) ?_
        refine J_iand hX dX12_missedBy_36 ?_
        refine J_iconst (v := (1 : Int32)) hX dX12_missedBy_37 (by decide) ?_
        refine K_icmp_ne (tgt := 45) hX dX12_missedBy_38 rfl h (fun h => ?_) (fun h => ?_)
        · refine J_sub [0, 1, 2, 4] rfl ?_
          exact tM_missedBy_45 hX hw hg hR hr hk5 v1 v2 v4 v3 σ_6 h
        · refine J_sub [0, 1, 2, 4] rfl ?_
          exact tM_missedBy_41 hX hw hg hR hr hk5 v1 v2 v4 v3 σ_6 h
def rM_missedBy_5L : ((Int32 × Int32 × Int32 × Int32 × St) → Option (Int32 × St)) → (Int32 × Int32 × Int32 × Int32 × St) → Option (Int32 × St) := fun k a => rM_missedBy_5 (fun v1 v2 v3 v4 σ => k (v1, v2, v3, v4, σ)) a.1 a.2.1 a.2.2.1 a.2.2.2.1 a.2.2.2.2
theorem tM_missedBy_5 {X : CX} (hX : gd X cX12_missedBy 5 RX12 (some .int)) (hw : (xw X).1 = mLy) (hg : nA X) (hR : xR X = rmOf 2 46 0 0) {r : Int32} {τ : St} (hr : xr X = (some (.int r), τ)) (n : Nat) (v1 : Int32) (v2 : Int32) (v3 : Int32) (v4 : Int32) (σ : St) (h : lp (rM_missedBy_5L) n (v1, v2, v3, v4, σ) = some (r, τ)) : Jd X 5 5 [(0, .ref (wad (xw X) 0)), (1, .int v1), (2, .int v2), (3, .int v3), (4, .int v4)] [] σ :=
  lp_ind (F := rM_missedBy_5L) (P := fun a => Jd X 5 5 [(0, .ref (wad (xw X) 0)), (1, .int a.1), (2, .int a.2.1), (3, .int a.2.2.1), (4, .int a.2.2.2.1)] [] a.2.2.2.2) (fun k a hk h => tM_missedBy_5b hX hw hg hR hr (fun v1 v2 v3 v4 σ h => hk (v1, v2, v3, v4, σ) h) a.1 a.2.1 a.2.2.1 a.2.2.2.1 a.2.2.2.2 h) n (v1, v2, v3, v4, σ) h

def rM_missedBy (v1 : Int32) (v2 : Int32) (σ : St) : Option (Int32 × St) :=
  nm (0 : Int32) fun v3_1 => nm (0 : Int32) fun v4_2 => lp (rM_missedBy_5L) fu (v1, v2, v3_1, v4_2, σ)
set_option maxRecDepth 100000 in
theorem tM_missedBy {X : CX} (hX : gd X cX12_missedBy 5 RX12 (some .int)) (hw : (xw X).1 = mLy) (hg : nA X) (hR : xR X = rmOf 2 46 0 0) {r : Int32} {τ : St} (hr : xr X = (some (.int r), τ)) (v1 : Int32) (v2 : Int32) (σ : St) (h : rM_missedBy v1 v2 σ = some (r, τ)) : Jd X 5 0 [(0, .ref (wad (xw X) 0)), (1, .int v1), (2, .int v2)] [] σ := by
  unfold rM_missedBy at h
  refine J_iconst (v := (0 : Int32)) hX dX12_missedBy_0 (by decide) ?_
  refine K_istore_n (fun v3_1 => [(3, .int v3_1), (0, .ref (wad (xw X) 0)), (1, .int v1), (2, .int v2)]) hX dX12_missedBy_1 rfl (by decide) (fun _ => rfl) h (fun v3_1 h => ?_)
  refine J_iconst (v := (0 : Int32)) hX dX12_missedBy_2 (by decide) ?_
  refine K_istore (fun v4_2 => [(4, .int v4_2), (3, .int v3_1), (0, .ref (wad (xw X) 0)), (1, .int v1), (2, .int v2)]) hX dX12_missedBy_3 (by decide) (fun _ => rfl) h (fun v4_2 h => ?_)
  refine J_sub [2, 3, 4, 1, 0] rfl ?_
  exact tM_missedBy_5 hX hw hg hR hr fu v1 v2 v3_1 v4_2 σ h
theorem ctM_missedBy {w : WT} (hw : w.1 = mLy) {v1 : Int32} {v2 : Int32} {σ : St} {r : Int32} {τ : St} (h : rM_missedBy v1 v2 σ = some (r, τ)) : Ct yX12_missedBy cX12_missedBy 5 (some .int) 2 46 w [.ref (wad w 0), .int v1, .int v2] σ (some (.int r)) τ 0 0 :=
  Ct_intro (fun _ => (0, 0)) (by decide) rfl ⟨rfl, Nat.le_refl _⟩ (Nat.le_of_ble_eq_true rfl) (fun X hX hR hwX hg hr => by subst hwX; exact tM_missedBy hX hw hg hR hr v1 v2 σ h)

def rM_patch_22 (σ : St) : Option (Int32 × St) :=
  chk (decide ((0 : Int32) = 0 ∨ (0 : Int32) = 1)) (some ((0 : Int32), σ))
set_option maxRecDepth 100000 in
theorem tM_patch_22 {X : CX} (hX : gd X cX12_patch 3 RX12 (some .boolean)) (hw : (xw X).1 = mLy) (hg : nA X) (hR : xR X = rmOf 2 45 0 0) {r : Int32} {τ : St} (hr : xr X = (some (.int r), τ)) (σ : St) (h : rM_patch_22 σ = some (r, τ)) : Jd X 3 22 [] [] σ := by
  unfold rM_patch_22 at h
  refine J_iconst (v := (0 : Int32)) hX dX12_patch_22 (by decide) ?_
  exact K_zret hX hr dX12_patch_23 h

def rM_patch (v1 : Int32) (v2 : Int32) (σ : St) : Option (Int32 × St) :=
  nm (setI σ 0 0 (0 : Int32)) fun σ_1 => bnd2 (rM_isCarrier v1 σ_1) fun r_4 σ_2 => brc (r_4 = 0) (rM_patch_22 σ_2) (bnd2 (rM_isPatched v1 σ_2) fun r_7 σ_5 => brc (¬ r_7 = v2) (bnd1 (rM_keeps σ_5) fun σ_8 => chk (ib (36 : Int32) 6000) (chk (ib (36 : Int32) 6000) (nm (setI σ_8 16 (36 : Int32).toNatClampNeg ((σ_8.1 16 (36 : Int32).toNatClampNeg) ^^^ ((1 : Int32) <<< (v1 &&& 31)))) fun σ_10 => chk (decide ((1 : Int32) = 0 ∨ (1 : Int32) = 1)) (some ((1 : Int32), σ_10))))) (rM_patch_22 σ_5))
set_option maxRecDepth 100000 in
theorem tM_patch {X : CX} (hX : gd X cX12_patch 3 RX12 (some .boolean)) (hw : (xw X).1 = mLy) (hg : nA X) (hR : xR X = rmOf 2 45 0 0) {r : Int32} {τ : St} (hr : xr X = (some (.int r), τ)) (v1 : Int32) (v2 : Int32) (σ : St) (h : rM_patch v1 v2 σ = some (r, τ)) : Jd X 3 0 [(0, .ref (wad (xw X) 0)), (1, .int v1), (2, .int v2)] [] σ := by
  unfold rM_patch at h
  refine J_aload_n (q := 0) hX dX12_patch_0 rfl rfl ?_
  refine J_iconst (v := (0 : Int32)) hX dX12_patch_1 (by decide) ?_
  refine K_puti hX (mc_0 hw) cls_X12 (k := 0) (by decide) uw_6_47 rfl rfl rfl dX12_patch_2 h (fun σ_1 h => ?_)
  refine J_aload_n (q := 0) hX dX12_patch_5 rfl rfl ?_
  refine J_iload_n (q := 1) hX dX12_patch_6 rfl rfl ?_
  obtain ⟨r_4, σ_2, hc_3, h⟩ := bnd2_some h
  refine K_callV [.int v1] hX hg hR (ctM_isCarrier hw hc_3) lk_X12_363_X12_isCarrier md_X12_isCarrier (mc_0 hw) cls_X12 ⟨by decide, by decide⟩ rfl rfl (Nat.le_of_ble_eq_true rfl) dX12_patch_7 ?_
  refine K_if_eq (tgt := 22) hX dX12_patch_10 rfl h (fun h => ?_) (fun h => ?_)
  · refine J_sub [] rfl ?_
    exact tM_patch_22 hX hw hg hR hr σ_2 h
  · refine J_aload_n (q := 0) hX dX12_patch_13 rfl rfl ?_
    refine J_iload_n (q := 1) hX dX12_patch_14 rfl rfl ?_
    obtain ⟨r_7, σ_5, hc_6, h⟩ := bnd2_some h
    refine K_callV [.int v1] hX hg hR (ctM_isPatched hw hc_6) lk_X12_327_X12_isPatched md_X12_isPatched (mc_0 hw) cls_X12 ⟨by decide, by decide⟩ rfl rfl (Nat.le_of_ble_eq_true rfl) dX12_patch_15 ?_
    refine J_iload_n (q := 2) hX dX12_patch_18 rfl rfl ?_
    refine K_icmp_ne (tgt := 24) hX dX12_patch_19 rfl h (fun h => ?_) (fun h => ?_)
    · refine J_aload_n (q := 0) hX dX12_patch_24 rfl rfl ?_
      obtain ⟨σ_8, hc_9, h⟩ := bnd1_some h
      refine K_callV [] hX hg hR (ctM_keeps hw hc_9) lk_X12_428_X12_keeps md_X12_keeps (mc_0 hw) cls_X12 ⟨by decide, by decide⟩ rfl rfl (Nat.le_of_ble_eq_true rfl) dX12_patch_25 ?_
      refine J_aload_n (q := 0) hX dX12_patch_28 rfl rfl ?_
      refine K_getc 16 hX (mc_0 hw) cls_X12 (k := 24) (by decide) uw_6_71 rfl dX12_patch_29 ?_
      refine J_bipush (v := (36 : Int32)) hX dX12_patch_32 (by decide) ?_
      refine J_dup2 hX dX12_patch_34 rfl rfl ?_
      refine K_iald hX (mc_16 hw) dX12_patch_35 h (fun h => ?_)
      refine J_iconst (v := (1 : Int32)) hX dX12_patch_36 (by decide) ?_
      refine J_iload_n (q := 1) hX dX12_patch_37 rfl rfl ?_
      refine J_ishl hX dX12_patch_38 ?_
      refine J_ixor hX dX12_patch_39 ?_
      refine K_iast hX (mc_16 hw) dX12_patch_40 h (fun σ_10 h => ?_)
      refine J_iconst (v := (1 : Int32)) hX dX12_patch_41 (by decide) ?_
      exact K_zret hX hr dX12_patch_42 h
    · refine J_sub [] rfl ?_
      exact tM_patch_22 hX hw hg hR hr σ_5 h
theorem ctM_patch {w : WT} (hw : w.1 = mLy) {v1 : Int32} {v2 : Int32} {σ : St} {r : Int32} {τ : St} (h : rM_patch v1 v2 σ = some (r, τ)) : Ct yX12_patch cX12_patch 3 (some .boolean) 2 45 w [.ref (wad w 0), .int v1, .int v2] σ (some (.int r)) τ 0 0 :=
  Ct_intro (fun _ => (0, 0)) (by decide) rfl ⟨rfl, Nat.le_refl _⟩ (Nat.le_of_ble_eq_true rfl) (fun X hX hR hwX hg hr => by subst hwX; exact tM_patch hX hw hg hR hr v1 v2 σ h)

def rM_takeAfter (v1 : Int32) (v2 : Int32) (v3 : Int32) (σ : St) : Option (Int32 × St) :=
  bnd1 (rM_takeWord v1 σ) fun σ_1 => bnd2 (rM_takeNumber v2 v3 σ_1) fun r_5 σ_3 => some (r_5, σ_3)
set_option maxRecDepth 100000 in
theorem tM_takeAfter {X : CX} (hX : gd X cX12_takeAfter 4 RX12 (some .int)) (hw : (xw X).1 = mLy) (hg : nA X) (hR : xR X = rmOf 3 64 0 0) {r : Int32} {τ : St} (hr : xr X = (some (.int r), τ)) (v1 : Int32) (v2 : Int32) (v3 : Int32) (σ : St) (h : rM_takeAfter v1 v2 v3 σ = some (r, τ)) : Jd X 4 0 [(0, .ref (wad (xw X) 0)), (1, .int v1), (2, .int v2), (3, .int v3)] [] σ := by
  unfold rM_takeAfter at h
  refine J_aload_n (q := 0) hX dX12_takeAfter_0 rfl rfl ?_
  refine J_iload_n (q := 1) hX dX12_takeAfter_1 rfl rfl ?_
  obtain ⟨σ_1, hc_2, h⟩ := bnd1_some h
  refine K_callV [.int v1] hX hg hR (ctM_takeWord hw hc_2) lk_X12_206_X12_takeWord md_X12_takeWord (mc_0 hw) cls_X12 ⟨by decide, by decide⟩ rfl rfl (Nat.le_of_ble_eq_true rfl) dX12_takeAfter_2 ?_
  refine J_aload_n (q := 0) hX dX12_takeAfter_5 rfl rfl ?_
  refine J_iload_n (q := 2) hX dX12_takeAfter_6 rfl rfl ?_
  refine J_iload_n (q := 3) hX dX12_takeAfter_7 rfl rfl ?_
  obtain ⟨r_5, σ_3, hc_4, h⟩ := bnd2_some h
  refine K_callV [.int v2, .int v3] hX hg hR (ctM_takeNumber hw hc_4) lk_X12_209_X12_takeNumber md_X12_takeNumber (mc_0 hw) cls_X12 ⟨by decide, by decide⟩ rfl rfl (Nat.le_of_ble_eq_true rfl) dX12_takeAfter_8 ?_
  exact K_iret hX hr dX12_takeAfter_11 h
theorem ctM_takeAfter {w : WT} (hw : w.1 = mLy) {v1 : Int32} {v2 : Int32} {v3 : Int32} {σ : St} {r : Int32} {τ : St} (h : rM_takeAfter v1 v2 v3 σ = some (r, τ)) : Ct yX12_takeAfter cX12_takeAfter 4 (some .int) 3 64 w [.ref (wad w 0), .int v1, .int v2, .int v3] σ (some (.int r)) τ 0 0 :=
  Ct_intro (fun _ => (0, 0)) (by decide) rfl ⟨rfl, Nat.le_refl _⟩ (Nat.le_of_ble_eq_true rfl) (fun X hX hR hwX hg hr => by subst hwX; exact tM_takeAfter hX hw hg hR hr v1 v2 v3 σ h)

def rM_goesTrip_64 (k8 : Int32 → Int32 → Int32 → St → Option (St)) (v1 : Int32) (v2 : Int32) (v4 : Int32) (σ : St) : Option (St) :=
  nm (v4 + Int32.ofInt 1) fun v4_18 => k8 v1 v2 v4_18 σ
set_option maxRecDepth 100000 in
theorem tM_goesTrip_64 {X : CX} (hX : gd X cX12_goesTrip 5 RX12 none) (hw : (xw X).1 = mLy) (hg : nA X) (hR : xR X = rmOf 3 69 0 0) {τ : St} (hr : xr X = (none, τ)) {k8 : Int32 → Int32 → Int32 → St → Option (St)} (hk8 : (∀ (v1 : Int32) (v2 : Int32) (v4 : Int32) (σ : St), k8 v1 v2 v4 σ = some τ → Jd X 5 8 [(0, .ref (wad (xw X) 0)), (1, .int v1), (2, .int v2), (4, .int v4)] [] σ)) (v1 : Int32) (v2 : Int32) (v4 : Int32) (σ : St) (h : rM_goesTrip_64 k8 v1 v2 v4 σ = some τ) : Jd X 5 64 [(0, .ref (wad (xw X) 0)), (1, .int v1), (2, .int v2), (4, .int v4)] [] σ := by
  unfold rM_goesTrip_64 at h
  refine K_iinc (q := 3) (fun v4_18 => [(4, .int v4_18), (0, .ref (wad (xw X) 0)), (1, .int v1), (2, .int v2)]) hX dX12_goesTrip_64 rfl (by decide) (fun _ => rfl) h (fun v4_18 h => ?_)
  refine J_goto (tgt := 8) hX dX12_goesTrip_67 rfl ?_
  refine J_sub [1, 2, 3, 0] rfl ?_
  exact hk8 v1 v2 v4_18 σ h

def rM_goesTrip_8 (k8 : Int32 → Int32 → Int32 → St → Option (St)) (v1 : Int32) (v2 : Int32) (v4 : Int32) (σ : St) : Option (St) :=
  bnd2 (rM_lengthOf v2 σ) fun r_6 σ_4 => brc (r_6 ≤ v4) (some σ_4) (bnd2 (rM_stationOf v2 (v4 - (1 : Int32)) σ_4) fun r_9 σ_7 => bnd2 (rM_stationOf v2 v4 σ_7) fun r_12 σ_10 => bnd1 (rM_goesWay v1 r_9 r_12 σ_10) fun σ_13 => bnd2 (rM_lengthOf v2 σ_13) fun r_17 σ_15 => brc ((r_17 - (1 : Int32)) ≤ v4) (rM_goesTrip_64 k8 v1 v2 v4 σ_15) (bnd2 (rM_stationOf v2 v4 σ_15) fun r_21 σ_19 => bnd2 (rM_drinksAt v1 r_21 σ_19) fun r_24 σ_22 => rM_goesTrip_64 k8 v1 v2 v4 σ_22))
set_option maxRecDepth 100000 in
theorem tM_goesTrip_8b {X : CX} (hX : gd X cX12_goesTrip 5 RX12 none) (hw : (xw X).1 = mLy) (hg : nA X) (hR : xR X = rmOf 3 69 0 0) {τ : St} (hr : xr X = (none, τ)) {k8 : Int32 → Int32 → Int32 → St → Option (St)} (hk8 : (∀ (v1 : Int32) (v2 : Int32) (v4 : Int32) (σ : St), k8 v1 v2 v4 σ = some τ → Jd X 5 8 [(0, .ref (wad (xw X) 0)), (1, .int v1), (2, .int v2), (4, .int v4)] [] σ)) (v1 : Int32) (v2 : Int32) (v4 : Int32) (σ : St) (h : rM_goesTrip_8 k8 v1 v2 v4 σ = some τ) : Jd X 5 8 [(0, .ref (wad (xw X) 0)), (1, .int v1), (2, .int v2), (4, .int v4)] [] σ := by
  unfold rM_goesTrip_8 at h
  refine J_iload (q := 3) hX dX12_goesTrip_8 rfl ?_
  refine J_aload_n (q := 0) hX dX12_goesTrip_10 rfl rfl ?_
  refine J_iload_n (q := 2) hX dX12_goesTrip_11 rfl rfl ?_
  obtain ⟨r_6, σ_4, hc_5, h⟩ := bnd2_some h
  refine K_callV [.int v2] hX hg hR (ctM_lengthOf hw hc_5) lk_X12_351_X12_lengthOf md_X12_lengthOf (mc_0 hw) cls_X12 ⟨by decide, by decide⟩ rfl rfl (Nat.le_of_ble_eq_true rfl) dX12_goesTrip_12 ?_
  refine K_icmp_ge (tgt := 70) hX dX12_goesTrip_15 rfl h (fun h => ?_) (fun h => ?_)
  · exact K_vret hX hr dX12_goesTrip_70 h
  · refine J_aload_n (q := 0) hX dX12_goesTrip_18 rfl rfl ?_
    refine J_iload_n (q := 1) hX dX12_goesTrip_19 rfl rfl ?_
    refine J_aload_n (q := 0) hX dX12_goesTrip_20 rfl rfl ?_
    refine J_iload_n (q := 2) hX dX12_goesTrip_21 rfl rfl ?_
    refine J_iload (q := 3) hX dX12_goesTrip_22 rfl ?_
    refine J_iconst (v := (1 : Int32)) hX dX12_goesTrip_24 (by decide) ?_
    refine J_isub hX dX12_goesTrip_25 ?_
    obtain ⟨r_9, σ_7, hc_8, h⟩ := bnd2_some h
    refine K_callV [.int v2, .int (v4 - (1 : Int32))] hX hg hR (ctM_stationOf hw hc_8) lk_X12_354_X12_stationOf md_X12_stationOf (mc_0 hw) cls_X12 ⟨by decide, by decide⟩ rfl rfl (Nat.le_of_ble_eq_true rfl) dX12_goesTrip_26 ?_
    refine J_aload_n (q := 0) hX dX12_goesTrip_29 rfl rfl ?_
    refine J_iload_n (q := 2) hX dX12_goesTrip_30 rfl rfl ?_
    refine J_iload (q := 3) hX dX12_goesTrip_31 rfl ?_
    obtain ⟨r_12, σ_10, hc_11, h⟩ := bnd2_some h
    refine K_callV [.int v2, .int v4] hX hg hR (ctM_stationOf hw hc_11) lk_X12_354_X12_stationOf md_X12_stationOf (mc_0 hw) cls_X12 ⟨by decide, by decide⟩ rfl rfl (Nat.le_of_ble_eq_true rfl) dX12_goesTrip_33 ?_
    obtain ⟨σ_13, hc_14, h⟩ := bnd1_some h
    refine K_callV [.int v1, .int r_9, .int r_12] hX hg hR (ctM_goesWay hw hc_14) lk_X12_357_X12_goesWay md_X12_goesWay (mc_0 hw) cls_X12 ⟨by decide, by decide⟩ rfl rfl (Nat.le_of_ble_eq_true rfl) dX12_goesTrip_36 ?_
    refine J_iload (q := 3) hX dX12_goesTrip_39 rfl ?_
    refine J_aload_n (q := 0) hX dX12_goesTrip_41 rfl rfl ?_
    refine J_iload_n (q := 2) hX dX12_goesTrip_42 rfl rfl ?_
    obtain ⟨r_17, σ_15, hc_16, h⟩ := bnd2_some h
    refine K_callV [.int v2] hX hg hR (ctM_lengthOf hw hc_16) lk_X12_351_X12_lengthOf md_X12_lengthOf (mc_0 hw) cls_X12 ⟨by decide, by decide⟩ rfl rfl (Nat.le_of_ble_eq_true rfl) dX12_goesTrip_43 ?_
    refine J_iconst (v := (1 : Int32)) hX dX12_goesTrip_46 (by decide) ?_
    refine J_isub hX dX12_goesTrip_47 ?_
    refine K_icmp_ge (tgt := 64) hX dX12_goesTrip_48 rfl h (fun h => ?_) (fun h => ?_)
    · refine J_sub [0, 1, 2, 3] rfl ?_
      exact tM_goesTrip_64 hX hw hg hR hr hk8 v1 v2 v4 σ_15 h
    · refine J_aload_n (q := 0) hX dX12_goesTrip_51 rfl rfl ?_
      refine J_iload_n (q := 1) hX dX12_goesTrip_52 rfl rfl ?_
      refine J_aload_n (q := 0) hX dX12_goesTrip_53 rfl rfl ?_
      refine J_iload_n (q := 2) hX dX12_goesTrip_54 rfl rfl ?_
      refine J_iload (q := 3) hX dX12_goesTrip_55 rfl ?_
      obtain ⟨r_21, σ_19, hc_20, h⟩ := bnd2_some h
      refine K_callV [.int v2, .int v4] hX hg hR (ctM_stationOf hw hc_20) lk_X12_354_X12_stationOf md_X12_stationOf (mc_0 hw) cls_X12 ⟨by decide, by decide⟩ rfl rfl (Nat.le_of_ble_eq_true rfl) dX12_goesTrip_57 ?_
      obtain ⟨r_24, σ_22, hc_23, h⟩ := bnd2_some h
      refine K_callV [.int v1, .int r_21] hX hg hR (ctM_drinksAt hw hc_23) lk_X12_360_X12_drinksAt md_X12_drinksAt (mc_0 hw) cls_X12 ⟨by decide, by decide⟩ rfl rfl (Nat.le_of_ble_eq_true rfl) dX12_goesTrip_60 ?_
      refine J_pop hX dX12_goesTrip_63 rfl ?_
      refine J_sub [0, 1, 2, 3] rfl ?_
      exact tM_goesTrip_64 hX hw hg hR hr hk8 v1 v2 v4 σ_22 h
def rM_goesTrip_8L : ((Int32 × Int32 × Int32 × St) → Option (St)) → (Int32 × Int32 × Int32 × St) → Option (St) := fun k a => rM_goesTrip_8 (fun v1 v2 v4 σ => k (v1, v2, v4, σ)) a.1 a.2.1 a.2.2.1 a.2.2.2
theorem tM_goesTrip_8 {X : CX} (hX : gd X cX12_goesTrip 5 RX12 none) (hw : (xw X).1 = mLy) (hg : nA X) (hR : xR X = rmOf 3 69 0 0) {τ : St} (hr : xr X = (none, τ)) (n : Nat) (v1 : Int32) (v2 : Int32) (v4 : Int32) (σ : St) (h : lp (rM_goesTrip_8L) n (v1, v2, v4, σ) = some τ) : Jd X 5 8 [(0, .ref (wad (xw X) 0)), (1, .int v1), (2, .int v2), (4, .int v4)] [] σ :=
  lp_ind (F := rM_goesTrip_8L) (P := fun a => Jd X 5 8 [(0, .ref (wad (xw X) 0)), (1, .int a.1), (2, .int a.2.1), (4, .int a.2.2.1)] [] a.2.2.2) (fun k a hk h => tM_goesTrip_8b hX hw hg hR hr (fun v1 v2 v4 σ h => hk (v1, v2, v4, σ) h) a.1 a.2.1 a.2.2.1 a.2.2.2 h) n (v1, v2, v4, σ) h

def rM_goesTrip (v1 : Int32) (v2 : Int32) (v3 : Int32) (σ : St) : Option (St) :=
  bnd1 (rM_starts v3 σ) fun σ_1 => nm (1 : Int32) fun v4_3 => lp (rM_goesTrip_8L) fu (v1, v2, v4_3, σ_1)
set_option maxRecDepth 100000 in
theorem tM_goesTrip {X : CX} (hX : gd X cX12_goesTrip 5 RX12 none) (hw : (xw X).1 = mLy) (hg : nA X) (hR : xR X = rmOf 3 69 0 0) {τ : St} (hr : xr X = (none, τ)) (v1 : Int32) (v2 : Int32) (v3 : Int32) (σ : St) (h : rM_goesTrip v1 v2 v3 σ = some τ) : Jd X 5 0 [(0, .ref (wad (xw X) 0)), (1, .int v1), (2, .int v2), (3, .int v3)] [] σ := by
  unfold rM_goesTrip at h
  refine J_aload_n (q := 0) hX dX12_goesTrip_0 rfl rfl ?_
  refine J_iload_n (q := 3) hX dX12_goesTrip_1 rfl rfl ?_
  obtain ⟨σ_1, hc_2, h⟩ := bnd1_some h
  refine K_callV [.int v3] hX hg hR (ctM_starts hw hc_2) lk_X12_348_X12_starts md_X12_starts (mc_0 hw) cls_X12 ⟨by decide, by decide⟩ rfl rfl (Nat.le_of_ble_eq_true rfl) dX12_goesTrip_2 ?_
  refine J_iconst (v := (1 : Int32)) hX dX12_goesTrip_5 (by decide) ?_
  refine K_istore (fun v4_3 => [(4, .int v4_3), (0, .ref (wad (xw X) 0)), (1, .int v1), (2, .int v2), (3, .int v3)]) hX dX12_goesTrip_6 (by decide) (fun _ => rfl) h (fun v4_3 h => ?_)
  refine J_sub [1, 2, 3, 0] rfl ?_
  exact tM_goesTrip_8 hX hw hg hR hr fu v1 v2 v4_3 σ_1 h
theorem ctM_goesTrip {w : WT} (hw : w.1 = mLy) {v1 : Int32} {v2 : Int32} {v3 : Int32} {σ : St} {τ : St} (h : rM_goesTrip v1 v2 v3 σ = some τ) : Ct yX12_goesTrip cX12_goesTrip 5 none 3 69 w [.ref (wad w 0), .int v1, .int v2, .int v3] σ none τ 0 0 :=
  Ct_intro (fun _ => (0, 0)) (by decide) rfl ⟨rfl, Nat.le_refl _⟩ (Nat.le_of_ble_eq_true rfl) (fun X hX hR hwX hg hr => by subst hwX; exact tM_goesTrip hX hw hg hR hr v1 v2 v3 σ h)

def rM_send_48 (σ : St) : Option (Int32 × St) :=
  some ((-1 : Int32), σ)
set_option maxRecDepth 100000 in
theorem tM_send_48 {X : CX} (hX : gd X cX12_send 6 RX12 (some .int)) (hw : (xw X).1 = mLy) (hg : nA X) (hR : xR X = rmOf 3 69 0 0) {r : Int32} {τ : St} (hr : xr X = (some (.int r), τ)) (σ : St) (h : rM_send_48 σ = some (r, τ)) : Jd X 6 48 [] [] σ := by
  unfold rM_send_48 at h
  refine J_iconst (v := (-1 : Int32)) hX dX12_send_48 (by decide) ?_
  exact K_iret hX hr dX12_send_49 h

def rM_send_150 (k82 : Int32 → Int32 → Int32 → St → Option (Int32 × St)) (v1 : Int32) (v2 : Int32) (v4 : Int32) (σ : St) : Option (Int32 × St) :=
  nm (v4 + Int32.ofInt 1) fun v4_34 => k82 v1 v2 v4_34 σ
set_option maxRecDepth 100000 in
theorem tM_send_150 {X : CX} (hX : gd X cX12_send 6 RX12 (some .int)) (hw : (xw X).1 = mLy) (hg : nA X) (hR : xR X = rmOf 3 69 0 0) {r : Int32} {τ : St} (hr : xr X = (some (.int r), τ)) {k82 : Int32 → Int32 → Int32 → St → Option (Int32 × St)} (hk82 : (∀ (v1 : Int32) (v2 : Int32) (v4 : Int32) (σ : St), k82 v1 v2 v4 σ = some (r, τ) → Jd X 6 82 [(0, .ref (wad (xw X) 0)), (1, .int v1), (2, .int v2), (4, .int v4)] [] σ)) (v1 : Int32) (v2 : Int32) (v4 : Int32) (σ : St) (h : rM_send_150 k82 v1 v2 v4 σ = some (r, τ)) : Jd X 6 150 [(0, .ref (wad (xw X) 0)), (1, .int v1), (2, .int v2), (4, .int v4)] [] σ := by
  unfold rM_send_150 at h
  refine K_iinc (q := 3) (fun v4_34 => [(4, .int v4_34), (0, .ref (wad (xw X) 0)), (1, .int v1), (2, .int v2)]) hX dX12_send_150 rfl (by decide) (fun _ => rfl) h (fun v4_34 h => ?_)
  refine J_goto (tgt := 82) hX dX12_send_153 rfl ?_
  refine J_sub [1, 2, 3, 0] rfl ?_
  exact hk82 v1 v2 v4_34 σ h

def rM_send_82 (k82 : Int32 → Int32 → Int32 → St → Option (Int32 × St)) (v1 : Int32) (v2 : Int32) (v4 : Int32) (σ : St) : Option (Int32 × St) :=
  bnd2 (rM_lengthOf v2 σ) fun r_15 σ_13 => brc (r_15 ≤ v4) (chk (ib ((50 : Int32) + v1) 6000) (bnd2 (rM_priceNow σ_13) fun r_18 σ_16 => chk (ib ((50 : Int32) + v1) 6000) (nm (setI σ_16 16 ((50 : Int32) + v1).toNatClampNeg ((σ_13.1 16 ((50 : Int32) + v1).toNatClampNeg) + ((σ_13.1 0 30) * r_18))) fun σ_19 => chk (ib (38 : Int32) 6000) (chk (ib (38 : Int32) 6000) (nm (setI σ_19 16 (38 : Int32).toNatClampNeg ((σ_19.1 16 (38 : Int32).toNatClampNeg) + (σ_19.1 0 30))) fun σ_20 => chk (ib (40 : Int32) 6000) (chk (ib (40 : Int32) 6000) (nm (setI σ_20 16 (40 : Int32).toNatClampNeg ((σ_20.1 16 (40 : Int32).toNatClampNeg) + (1 : Int32))) fun σ_21 => some (σ_21.1 0 30, σ_21)))))))) (bnd2 (rM_stationOf v2 v4 σ_13) fun r_24 σ_22 => nm r_24 fun v5_25 => bnd2 (rM_stationOf v2 (v4 - (1 : Int32)) σ_22) fun r_28 σ_26 => bnd1 (rM_goesWay v1 r_28 v5_25 σ_26) fun σ_29 => bnd2 (rM_lengthOf v2 σ_29) fun r_33 σ_31 => brc ((r_33 - (1 : Int32)) ≤ v4) (rM_send_150 k82 v1 v2 v4 σ_31) (bnd1 (rM_fills v1 v5_25 σ_31) fun σ_35 => bnd2 (rM_drinksAt v1 v5_25 σ_35) fun r_39 σ_37 => bnd1 (rM_writes v1 v5_25 r_39 σ_37) fun σ_40 => rM_send_150 k82 v1 v2 v4 σ_40))
set_option maxRecDepth 100000 in
theorem tM_send_82b {X : CX} (hX : gd X cX12_send 6 RX12 (some .int)) (hw : (xw X).1 = mLy) (hg : nA X) (hR : xR X = rmOf 3 69 0 0) {r : Int32} {τ : St} (hr : xr X = (some (.int r), τ)) {k82 : Int32 → Int32 → Int32 → St → Option (Int32 × St)} (hk82 : (∀ (v1 : Int32) (v2 : Int32) (v4 : Int32) (σ : St), k82 v1 v2 v4 σ = some (r, τ) → Jd X 6 82 [(0, .ref (wad (xw X) 0)), (1, .int v1), (2, .int v2), (4, .int v4)] [] σ)) (v1 : Int32) (v2 : Int32) (v4 : Int32) (σ : St) (h : rM_send_82 k82 v1 v2 v4 σ = some (r, τ)) : Jd X 6 82 [(0, .ref (wad (xw X) 0)), (1, .int v1), (2, .int v2), (4, .int v4)] [] σ := by
  unfold rM_send_82 at h
  refine J_iload (q := 3) hX dX12_send_82 rfl ?_
  refine J_aload_n (q := 0) hX dX12_send_84 rfl rfl ?_
  refine J_iload_n (q := 2) hX dX12_send_85 rfl rfl ?_
  obtain ⟨r_15, σ_13, hc_14, h⟩ := bnd2_some h
  refine K_callV [.int v2] hX hg hR (ctM_lengthOf hw hc_14) lk_X12_351_X12_lengthOf md_X12_lengthOf (mc_0 hw) cls_X12 ⟨by decide, by decide⟩ rfl rfl (Nat.le_of_ble_eq_true rfl) dX12_send_86 ?_
  refine K_icmp_ge (tgt := 156) hX dX12_send_89 rfl h (fun h => ?_) (fun h => ?_)
  · refine J_aload_n (q := 0) hX dX12_send_156 rfl rfl ?_
    refine K_getc 16 hX (mc_0 hw) cls_X12 (k := 24) (by decide) uw_6_71 rfl dX12_send_157 ?_
    refine J_bipush (v := (50 : Int32)) hX dX12_send_160 (by decide) ?_
    refine J_iload_n (q := 1) hX dX12_send_162 rfl rfl ?_
    refine J_iadd hX dX12_send_163 ?_
    refine J_dup2 hX dX12_send_164 rfl rfl ?_
    refine K_iald hX (mc_16 hw) dX12_send_165 h (fun h => ?_)
    refine J_aload_n (q := 0) hX dX12_send_166 rfl rfl ?_
    refine K_geti hX (mc_0 hw) cls_X12 (k := 30) (by decide) uw_6_77 rfl dX12_send_167 ?_
    refine J_aload_n (q := 0) hX dX12_send_170 rfl rfl ?_
    obtain ⟨r_18, σ_16, hc_17, h⟩ := bnd2_some h
    refine K_callV [] hX hg hR (ctM_priceNow hw hc_17) lk_X12_403_X12_priceNow md_X12_priceNow (mc_0 hw) cls_X12 ⟨by decide, by decide⟩ rfl rfl (Nat.le_of_ble_eq_true rfl) dX12_send_171 ?_
    refine J_imul hX dX12_send_174 ?_
    refine J_iadd hX dX12_send_175 ?_
    refine K_iast hX (mc_16 hw) dX12_send_176 h (fun σ_19 h => ?_)
    refine J_aload_n (q := 0) hX dX12_send_177 rfl rfl ?_
    refine K_getc 16 hX (mc_0 hw) cls_X12 (k := 24) (by decide) uw_6_71 rfl dX12_send_178 ?_
    refine J_bipush (v := (38 : Int32)) hX dX12_send_181 (by decide) ?_
    refine J_dup2 hX dX12_send_183 rfl rfl ?_
    refine K_iald hX (mc_16 hw) dX12_send_184 h (fun h => ?_)
    refine J_aload_n (q := 0) hX dX12_send_185 rfl rfl ?_
    refine K_geti hX (mc_0 hw) cls_X12 (k := 30) (by decide) uw_6_77 rfl dX12_send_186 ?_
    refine J_iadd hX dX12_send_189 ?_
    refine K_iast hX (mc_16 hw) dX12_send_190 h (fun σ_20 h => ?_)
    refine J_aload_n (q := 0) hX dX12_send_191 rfl rfl ?_
    refine K_getc 16 hX (mc_0 hw) cls_X12 (k := 24) (by decide) uw_6_71 rfl dX12_send_192 ?_
    refine J_bipush (v := (40 : Int32)) hX dX12_send_195 (by decide) ?_
    refine J_dup2 hX dX12_send_197 rfl rfl ?_
    refine K_iald hX (mc_16 hw) dX12_send_198 h (fun h => ?_)
    refine J_iconst (v := (1 : Int32)) hX dX12_send_199 (by decide) ?_
    refine J_iadd hX dX12_send_200 ?_
    refine K_iast hX (mc_16 hw) dX12_send_201 h (fun σ_21 h => ?_)
    refine J_aload_n (q := 0) hX dX12_send_202 rfl rfl ?_
    refine K_geti hX (mc_0 hw) cls_X12 (k := 30) (by decide) uw_6_77 rfl dX12_send_203 ?_
    exact K_iret hX hr dX12_send_206 h
  · refine J_aload_n (q := 0) hX dX12_send_92 rfl rfl ?_
    refine J_iload_n (q := 2) hX dX12_send_93 rfl rfl ?_
    refine J_iload (q := 3) hX dX12_send_94 rfl ?_
    obtain ⟨r_24, σ_22, hc_23, h⟩ := bnd2_some h
    refine K_callV [.int v2, .int v4] hX hg hR (ctM_stationOf hw hc_23) lk_X12_354_X12_stationOf md_X12_stationOf (mc_0 hw) cls_X12 ⟨by decide, by decide⟩ rfl rfl (Nat.le_of_ble_eq_true rfl) dX12_send_96 ?_
    refine K_istore (fun v5_25 => [(5, .int v5_25), (0, .ref (wad (xw X) 0)), (1, .int v1), (2, .int v2), (4, .int v4)]) hX dX12_send_99 (by decide) (fun _ => rfl) h (fun v5_25 h => ?_)
    refine J_aload_n (q := 1) hX dX12_send_101 rfl rfl ?_
    refine J_iload_n (q := 2) hX dX12_send_102 rfl rfl ?_
    refine J_aload_n (q := 1) hX dX12_send_103 rfl rfl ?_
    refine J_iload_n (q := 3) hX dX12_send_104 rfl rfl ?_
    refine J_iload (q := 4) hX dX12_send_105 rfl ?_
    refine J_iconst (v := (1 : Int32)) hX dX12_send_107 (by decide) ?_
    refine J_isub hX dX12_send_108 ?_
    obtain ⟨r_28, σ_26, hc_27, h⟩ := bnd2_some h
    refine K_callV [.int v2, .int (v4 - (1 : Int32))] hX hg hR (ctM_stationOf hw hc_27) lk_X12_354_X12_stationOf md_X12_stationOf (mc_0 hw) cls_X12 ⟨by decide, by decide⟩ rfl rfl (Nat.le_of_ble_eq_true rfl) dX12_send_109 ?_
    refine J_iload (q := 0) hX dX12_send_112 rfl ?_
    obtain ⟨σ_29, hc_30, h⟩ := bnd1_some h
    refine K_callV [.int v1, .int r_28, .int v5_25] hX hg hR (ctM_goesWay hw hc_30) lk_X12_357_X12_goesWay md_X12_goesWay (mc_0 hw) cls_X12 ⟨by decide, by decide⟩ rfl rfl (Nat.le_of_ble_eq_true rfl) dX12_send_114 ?_
    refine J_iload (q := 4) hX dX12_send_117 rfl ?_
    refine J_aload_n (q := 1) hX dX12_send_119 rfl rfl ?_
    refine J_iload_n (q := 3) hX dX12_send_120 rfl rfl ?_
    obtain ⟨r_33, σ_31, hc_32, h⟩ := bnd2_some h
    refine K_callV [.int v2] hX hg hR (ctM_lengthOf hw hc_32) lk_X12_351_X12_lengthOf md_X12_lengthOf (mc_0 hw) cls_X12 ⟨by decide, by decide⟩ rfl rfl (Nat.le_of_ble_eq_true rfl) dX12_send_121 ?_
    refine J_iconst (v := (1 : Int32)) hX dX12_send_124 (by decide) ?_
    refine J_isub hX dX12_send_125 ?_
    refine K_icmp_ge (tgt := 150) hX dX12_send_126 rfl h (fun h => ?_) (fun h => ?_)
    · refine J_sub [1, 2, 3, 4] rfl ?_
      exact tM_send_150 hX hw hg hR hr hk82 v1 v2 v4 σ_31 h
    · refine J_aload_n (q := 1) hX dX12_send_129 rfl rfl ?_
      refine J_iload_n (q := 2) hX dX12_send_130 rfl rfl ?_
      refine J_iload (q := 0) hX dX12_send_131 rfl ?_
      obtain ⟨σ_35, hc_36, h⟩ := bnd1_some h
      refine K_callV [.int v1, .int v5_25] hX hg hR (ctM_fills hw hc_36) lk_X12_397_X12_fills md_X12_fills (mc_0 hw) cls_X12 ⟨by decide, by decide⟩ rfl rfl (Nat.le_of_ble_eq_true rfl) dX12_send_133 ?_
      refine J_aload_n (q := 1) hX dX12_send_136 rfl rfl ?_
      refine J_iload_n (q := 2) hX dX12_send_137 rfl rfl ?_
      refine J_iload (q := 0) hX dX12_send_138 rfl ?_
      refine J_aload_n (q := 1) hX dX12_send_140 rfl rfl ?_
      refine J_iload_n (q := 2) hX dX12_send_141 rfl rfl ?_
      refine J_iload (q := 0) hX dX12_send_142 rfl ?_
      obtain ⟨r_39, σ_37, hc_38, h⟩ := bnd2_some h
      refine K_callV [.int v1, .int v5_25] hX hg hR (ctM_drinksAt hw hc_38) lk_X12_360_X12_drinksAt md_X12_drinksAt (mc_0 hw) cls_X12 ⟨by decide, by decide⟩ rfl rfl (Nat.le_of_ble_eq_true rfl) dX12_send_144 ?_
      obtain ⟨σ_40, hc_41, h⟩ := bnd1_some h
      refine K_callV [.int v1, .int v5_25, .int r_39] hX hg hR (ctM_writes hw hc_41) lk_X12_400_X12_writes md_X12_writes (mc_0 hw) cls_X12 ⟨by decide, by decide⟩ rfl rfl (Nat.le_of_ble_eq_true rfl) dX12_send_147 ?_
      refine J_sub [1, 2, 3, 4] rfl ?_
      exact tM_send_150 hX hw hg hR hr hk82 v1 v2 v4 σ_40 h
def rM_send_82L : ((Int32 × Int32 × Int32 × St) → Option (Int32 × St)) → (Int32 × Int32 × Int32 × St) → Option (Int32 × St) := fun k a => rM_send_82 (fun v1 v2 v4 σ => k (v1, v2, v4, σ)) a.1 a.2.1 a.2.2.1 a.2.2.2
theorem tM_send_82 {X : CX} (hX : gd X cX12_send 6 RX12 (some .int)) (hw : (xw X).1 = mLy) (hg : nA X) (hR : xR X = rmOf 3 69 0 0) {r : Int32} {τ : St} (hr : xr X = (some (.int r), τ)) (n : Nat) (v1 : Int32) (v2 : Int32) (v4 : Int32) (σ : St) (h : lp (rM_send_82L) n (v1, v2, v4, σ) = some (r, τ)) : Jd X 6 82 [(0, .ref (wad (xw X) 0)), (1, .int v1), (2, .int v2), (4, .int v4)] [] σ :=
  lp_ind (F := rM_send_82L) (P := fun a => Jd X 6 82 [(0, .ref (wad (xw X) 0)), (1, .int a.1), (2, .int a.2.1), (4, .int a.2.2.1)] [] a.2.2.2) (fun k a hk h => tM_send_82b hX hw hg hR hr (fun v1 v2 v4 σ h => hk (v1, v2, v4, σ) h) a.1 a.2.1 a.2.2.1 a.2.2.2 h) n (v1, v2, v4, σ) h

def rM_send (v1 : Int32) (v2 : Int32) (v3 : Int32) (σ : St) : Option (Int32 × St) :=
  nm (setI σ 0 0 (0 : Int32)) fun σ_1 => bnd2 (rM_canCarry v1 v3 σ_1) fun r_4 σ_2 => brc (r_4 = 0) (rM_send_48 σ_2) (bnd2 (rM_isPath v2 σ_2) fun r_7 σ_5 => brc (r_7 = 0) (rM_send_48 σ_5) (chk (ib (41 : Int32) 6000) (brc ((((σ_5.1 16 (41 : Int32).toNatClampNeg) >>> (v1 &&& 31)) &&& (1 : Int32)) = (1 : Int32)) (rM_send_48 σ_5) (chk (ib (39 : Int32) 6000) (brc (v3 ≤ (σ_5.1 16 (39 : Int32).toNatClampNeg)) (chk (ib (39 : Int32) 6000) (chk (ib (39 : Int32) 6000) (nm (setI σ_5 16 (39 : Int32).toNatClampNeg ((σ_5.1 16 (39 : Int32).toNatClampNeg) - v3)) fun σ_8 => chk (ib (41 : Int32) 6000) (chk (ib (41 : Int32) 6000) (nm (setI σ_8 16 (41 : Int32).toNatClampNeg ((σ_8.1 16 (41 : Int32).toNatClampNeg) ||| ((1 : Int32) <<< (v1 &&& 31)))) fun σ_9 => bnd1 (rM_starts v3 σ_9) fun σ_10 => nm (1 : Int32) fun v4_12 => lp (rM_send_82L) fu (v1, v2, v4_12, σ_10)))))) (rM_send_48 σ_5))))))
set_option maxRecDepth 100000 in
theorem tM_send {X : CX} (hX : gd X cX12_send 6 RX12 (some .int)) (hw : (xw X).1 = mLy) (hg : nA X) (hR : xR X = rmOf 3 69 0 0) {r : Int32} {τ : St} (hr : xr X = (some (.int r), τ)) (v1 : Int32) (v2 : Int32) (v3 : Int32) (σ : St) (h : rM_send v1 v2 v3 σ = some (r, τ)) : Jd X 6 0 [(0, .ref (wad (xw X) 0)), (1, .int v1), (2, .int v2), (3, .int v3)] [] σ := by
  unfold rM_send at h
  refine J_aload_n (q := 0) hX dX12_send_0 rfl rfl ?_
  refine J_iconst (v := (0 : Int32)) hX dX12_send_1 (by decide) ?_
  refine K_puti hX (mc_0 hw) cls_X12 (k := 0) (by decide) uw_6_47 rfl rfl rfl dX12_send_2 h (fun σ_1 h => ?_)
  refine J_aload_n (q := 0) hX dX12_send_5 rfl rfl ?_
  refine J_iload_n (q := 1) hX dX12_send_6 rfl rfl ?_
  refine J_iload_n (q := 3) hX dX12_send_7 rfl rfl ?_
  obtain ⟨r_4, σ_2, hc_3, h⟩ := bnd2_some h
  refine K_callV [.int v1, .int v3] hX hg hR (ctM_canCarry hw hc_3) lk_X12_379_X12_canCarry md_X12_canCarry (mc_0 hw) cls_X12 ⟨by decide, by decide⟩ rfl rfl (Nat.le_of_ble_eq_true rfl) dX12_send_8 ?_
  refine K_if_eq (tgt := 48) hX dX12_send_11 rfl h (fun h => ?_) (fun h => ?_)
  · refine J_sub [] rfl ?_
    exact tM_send_48 hX hw hg hR hr σ_2 h
  · refine J_aload_n (q := 0) hX dX12_send_14 rfl rfl ?_
    refine J_iload_n (q := 2) hX dX12_send_15 rfl rfl ?_
    obtain ⟨r_7, σ_5, hc_6, h⟩ := bnd2_some h
    refine K_callV [.int v2] hX hg hR (ctM_isPath hw hc_6) lk_X12_376_X12_isPath md_X12_isPath (mc_0 hw) cls_X12 ⟨by decide, by decide⟩ rfl rfl (Nat.le_of_ble_eq_true rfl) dX12_send_16 ?_
    refine K_if_eq (tgt := 48) hX dX12_send_19 rfl h (fun h => ?_) (fun h => ?_)
    · refine J_sub [] rfl ?_
      exact tM_send_48 hX hw hg hR hr σ_5 h
    · refine J_aload_n (q := 0) hX dX12_send_22 rfl rfl ?_
      refine K_getc 16 hX (mc_0 hw) cls_X12 (k := 24) (by decide) uw_6_71 rfl dX12_send_23 ?_
      refine J_bipush (v := (41 : Int32)) hX dX12_send_26 (by decide) ?_
      refine K_iald hX (mc_16 hw) dX12_send_28 h (fun h => ?_)
      refine J_iload_n (q := 1) hX dX12_send_29 rfl rfl ?_
      refine J_ishr hX dX12_send_30 ?_
      refine J_iconst (v := (1 : Int32)) hX dX12_send_31 (by decide) ?_
      refine J_iand hX dX12_send_32 ?_
      refine J_iconst (v := (1 : Int32)) hX dX12_send_33 (by decide) ?_
      refine K_icmp_eq (tgt := 48) hX dX12_send_34 rfl h (fun h => ?_) (fun h => ?_)
      · refine J_sub [] rfl ?_
        exact tM_send_48 hX hw hg hR hr σ_5 h
      · refine J_iload_n (q := 3) hX dX12_send_37 rfl rfl ?_
        refine J_aload_n (q := 0) hX dX12_send_38 rfl rfl ?_
        refine K_getc 16 hX (mc_0 hw) cls_X12 (k := 24) (by decide) uw_6_71 rfl dX12_send_39 ?_
        refine J_bipush (v := (39 : Int32)) hX dX12_send_42 (by decide) ?_
        refine K_iald hX (mc_16 hw) dX12_send_44 h (fun h => ?_)
        refine K_icmp_le (tgt := 50) hX dX12_send_45 rfl h (fun h => ?_) (fun h => ?_)
        · refine J_aload_n (q := 0) hX dX12_send_50 rfl rfl ?_
          refine K_getc 16 hX (mc_0 hw) cls_X12 (k := 24) (by decide) uw_6_71 rfl dX12_send_51 ?_
          refine J_bipush (v := (39 : Int32)) hX dX12_send_54 (by decide) ?_
          refine J_dup2 hX dX12_send_56 rfl rfl ?_
          refine K_iald hX (mc_16 hw) dX12_send_57 h (fun h => ?_)
          refine J_iload_n (q := 3) hX dX12_send_58 rfl rfl ?_
          refine J_isub hX dX12_send_59 ?_
          refine K_iast hX (mc_16 hw) dX12_send_60 h (fun σ_8 h => ?_)
          refine J_aload_n (q := 0) hX dX12_send_61 rfl rfl ?_
          refine K_getc 16 hX (mc_0 hw) cls_X12 (k := 24) (by decide) uw_6_71 rfl dX12_send_62 ?_
          refine J_bipush (v := (41 : Int32)) hX dX12_send_65 (by decide) ?_
          refine J_dup2 hX dX12_send_67 rfl rfl ?_
          refine K_iald hX (mc_16 hw) dX12_send_68 h (fun h => ?_)
          refine J_iconst (v := (1 : Int32)) hX dX12_send_69 (by decide) ?_
          refine J_iload_n (q := 1) hX dX12_send_70 rfl rfl ?_
          refine J_ishl hX dX12_send_71 ?_
          refine J_ior hX dX12_send_72 ?_
          refine K_iast hX (mc_16 hw) dX12_send_73 h (fun σ_9 h => ?_)
          refine J_aload_n (q := 0) hX dX12_send_74 rfl rfl ?_
          refine J_iload_n (q := 3) hX dX12_send_75 rfl rfl ?_
          obtain ⟨σ_10, hc_11, h⟩ := bnd1_some h
          refine K_callV [.int v3] hX hg hR (ctM_starts hw hc_11) lk_X12_348_X12_starts md_X12_starts (mc_0 hw) cls_X12 ⟨by decide, by decide⟩ rfl rfl (Nat.le_of_ble_eq_true rfl) dX12_send_76 ?_
          refine J_iconst (v := (1 : Int32)) hX dX12_send_79 (by decide) ?_
          refine K_istore (fun v4_12 => [(4, .int v4_12), (0, .ref (wad (xw X) 0)), (1, .int v1), (2, .int v2), (3, .int v3)]) hX dX12_send_80 (by decide) (fun _ => rfl) h (fun v4_12 h => ?_)
          refine J_sub [1, 2, 3, 0] rfl ?_
          exact tM_send_82 hX hw hg hR hr fu v1 v2 v4_12 σ_10 h
        · refine J_sub [] rfl ?_
          exact tM_send_48 hX hw hg hR hr σ_5 h
theorem ctM_send {w : WT} (hw : w.1 = mLy) {v1 : Int32} {v2 : Int32} {v3 : Int32} {σ : St} {r : Int32} {τ : St} (h : rM_send v1 v2 v3 σ = some (r, τ)) : Ct yX12_send cX12_send 6 (some .int) 3 69 w [.ref (wad w 0), .int v1, .int v2, .int v3] σ (some (.int r)) τ 0 0 :=
  Ct_intro (fun _ => (0, 0)) (by decide) rfl ⟨rfl, Nat.le_refl _⟩ (Nat.le_of_ble_eq_true rfl) (fun X hX hR hwX hg hr => by subst hwX; exact tM_send hX hw hg hR hr v1 v2 v3 σ h)

def rM_missed_24 (σ : St) : Option (Int32 × St) :=
  some ((-1 : Int32), σ)
set_option maxRecDepth 100000 in
theorem tM_missed_24 {X : CX} (hX : gd X cX12_missed 6 RX12 (some .int)) (hw : (xw X).1 = mLy) (hg : nA X) (hR : xR X = rmOf 3 70 0 0) {r : Int32} {τ : St} (hr : xr X = (some (.int r), τ)) (σ : St) (h : rM_missed_24 σ = some (r, τ)) : Jd X 6 24 [] [] σ := by
  unfold rM_missed_24 at h
  refine J_iconst (v := (-1 : Int32)) hX dX12_missed_24 (by decide) ?_
  exact K_iret hX hr dX12_missed_25 h

def rM_missed_92 (s0 : Int32) (σ : St) : Option (Int32 × St) :=
  some (s0, σ)
set_option maxRecDepth 100000 in
theorem tM_missed_92 {X : CX} (hX : gd X cX12_missed 6 RX12 (some .int)) (hw : (xw X).1 = mLy) (hg : nA X) (hR : xR X = rmOf 3 70 0 0) {r : Int32} {τ : St} (hr : xr X = (some (.int r), τ)) (s0 : Int32) (σ : St) (h : rM_missed_92 s0 σ = some (r, τ)) : Jd X 6 92 [] [.int s0] σ := by
  unfold rM_missed_92 at h
  exact K_iret hX hr dX12_missed_92 h

def rM_missed_73 (k39 : Int32 → Int32 → Int32 → Int32 → Int32 → St → Option (Int32 × St)) (v1 : Int32) (v2 : Int32) (v3 : Int32) (v5 : Int32) (s0 : Int32) (s1 : Int32) (σ : St) : Option (Int32 × St) :=
  nm (s1 ||| s0) fun v4_17 => nm (v5 + Int32.ofInt 1) fun v5_18 => k39 v1 v2 v3 v4_17 v5_18 σ
set_option maxRecDepth 100000 in
theorem tM_missed_73 {X : CX} (hX : gd X cX12_missed 6 RX12 (some .int)) (hw : (xw X).1 = mLy) (hg : nA X) (hR : xR X = rmOf 3 70 0 0) {r : Int32} {τ : St} (hr : xr X = (some (.int r), τ)) {k39 : Int32 → Int32 → Int32 → Int32 → Int32 → St → Option (Int32 × St)} (hk39 : (∀ (v1 : Int32) (v2 : Int32) (v3 : Int32) (v4 : Int32) (v5 : Int32) (σ : St), k39 v1 v2 v3 v4 v5 σ = some (r, τ) → Jd X 6 39 [(0, .ref (wad (xw X) 0)), (1, .int v1), (2, .int v2), (3, .int v3), (4, .int v4), (5, .int v5)] [] σ)) (v1 : Int32) (v2 : Int32) (v3 : Int32) (v5 : Int32) (s0 : Int32) (s1 : Int32) (σ : St) (h : rM_missed_73 k39 v1 v2 v3 v5 s0 s1 σ = some (r, τ)) : Jd X 6 73 [(0, .ref (wad (xw X) 0)), (1, .int v1), (2, .int v2), (3, .int v3), (5, .int v5)] [.int s0, .int s1] σ := by
  unfold rM_missed_73 at h
  refine J_ior hX dX12_missed_73 ?_
  refine K_istore (fun v4_17 => [(4, .int v4_17), (0, .ref (wad (xw X) 0)), (1, .int v1), (2, .int v2), (3, .int v3), (5, .int v5)]) hX dX12_missed_74 (by decide) (fun _ => rfl) h (fun v4_17 h => ?_)
  refine K_iinc (q := 5) (fun v5_18 => [(5, .int v5_18), (4, .int v4_17), (0, .ref (wad (xw X) 0)), (1, .int v1), (2, .int v2), (3, .int v3)]) hX dX12_missed_76 rfl (by decide) (fun _ => rfl) h (fun v5_18 h => ?_)
  refine J_goto (tgt := 39) hX dX12_missed_79 rfl ?_
  refine J_sub [2, 3, 4, 5, 1, 0] rfl ?_
  exact hk39 v1 v2 v3 v4_17 v5_18 σ h

def rM_missed_72 (k39 : Int32 → Int32 → Int32 → Int32 → Int32 → St → Option (Int32 × St)) (v1 : Int32) (v2 : Int32) (v3 : Int32) (v5 : Int32) (s0 : Int32) (σ : St) : Option (Int32 × St) :=
  rM_missed_73 k39 v1 v2 v3 v5 (0 : Int32) s0 σ
set_option maxRecDepth 100000 in
theorem tM_missed_72 {X : CX} (hX : gd X cX12_missed 6 RX12 (some .int)) (hw : (xw X).1 = mLy) (hg : nA X) (hR : xR X = rmOf 3 70 0 0) {r : Int32} {τ : St} (hr : xr X = (some (.int r), τ)) {k39 : Int32 → Int32 → Int32 → Int32 → Int32 → St → Option (Int32 × St)} (hk39 : (∀ (v1 : Int32) (v2 : Int32) (v3 : Int32) (v4 : Int32) (v5 : Int32) (σ : St), k39 v1 v2 v3 v4 v5 σ = some (r, τ) → Jd X 6 39 [(0, .ref (wad (xw X) 0)), (1, .int v1), (2, .int v2), (3, .int v3), (4, .int v4), (5, .int v5)] [] σ)) (v1 : Int32) (v2 : Int32) (v3 : Int32) (v5 : Int32) (s0 : Int32) (σ : St) (h : rM_missed_72 k39 v1 v2 v3 v5 s0 σ = some (r, τ)) : Jd X 6 72 [(0, .ref (wad (xw X) 0)), (1, .int v1), (2, .int v2), (3, .int v3), (5, .int v5)] [.int s0] σ := by
  unfold rM_missed_72 at h
  refine J_iconst (v := (0 : Int32)) hX dX12_missed_72 (by decide) ?_
  refine J_sub [0, 1, 2, 3, 4] rfl ?_
  exact tM_missed_73 hX hw hg hR hr hk39 v1 v2 v3 v5 (0 : Int32) s0 σ h

def rM_missed_39 (k39 : Int32 → Int32 → Int32 → Int32 → Int32 → St → Option (Int32 × St)) (v1 : Int32) (v2 : Int32) (v3 : Int32) (v4 : Int32) (v5 : Int32) (σ : St) : Option (Int32 × St) :=
  bnd2 (rM_carriers σ) fun r_16 σ_14 => brc (r_16 ≤ v5) (brc (¬ v2 = 0) (rM_missed_92 v4 σ_14) (rM_missed_92 v3 σ_14)) (brc (v3 ≤ 0) (rM_missed_72 k39 v1 v2 v3 v5 v4 σ_14) (bnd2 (rM_missedBy v1 v5 σ_14) fun r_21 σ_19 => brc (¬ r_21 = v3) (rM_missed_72 k39 v1 v2 v3 v5 v4 σ_19) (rM_missed_73 k39 v1 v2 v3 v5 ((1 : Int32) <<< (v5 &&& 31)) v4 σ_19)))
set_option maxRecDepth 100000 in
theorem tM_missed_39b {X : CX} (hX : gd X cX12_missed 6 RX12 (some .int)) (hw : (xw X).1 = mLy) (hg : nA X) (hR : xR X = rmOf 3 70 0 0) {r : Int32} {τ : St} (hr : xr X = (some (.int r), τ)) {k39 : Int32 → Int32 → Int32 → Int32 → Int32 → St → Option (Int32 × St)} (hk39 : (∀ (v1 : Int32) (v2 : Int32) (v3 : Int32) (v4 : Int32) (v5 : Int32) (σ : St), k39 v1 v2 v3 v4 v5 σ = some (r, τ) → Jd X 6 39 [(0, .ref (wad (xw X) 0)), (1, .int v1), (2, .int v2), (3, .int v3), (4, .int v4), (5, .int v5)] [] σ)) (v1 : Int32) (v2 : Int32) (v3 : Int32) (v4 : Int32) (v5 : Int32) (σ : St) (h : rM_missed_39 k39 v1 v2 v3 v4 v5 σ = some (r, τ)) : Jd X 6 39 [(0, .ref (wad (xw X) 0)), (1, .int v1), (2, .int v2), (3, .int v3), (4, .int v4), (5, .int v5)] [] σ := by
  unfold rM_missed_39 at h
  refine J_iload (q := 5) hX dX12_missed_39 rfl ?_
  refine J_aload_n (q := 0) hX dX12_missed_41 rfl rfl ?_
  obtain ⟨r_16, σ_14, hc_15, h⟩ := bnd2_some h
  refine K_callV [] hX hg hR (ctM_carriers hw hc_15) lk_X12_312_X12_carriers md_X12_carriers (mc_0 hw) cls_X12 ⟨by decide, by decide⟩ rfl rfl (Nat.le_of_ble_eq_true rfl) dX12_missed_42 ?_
  refine K_icmp_ge (tgt := 82) hX dX12_missed_45 rfl h (fun h => ?_) (fun h => ?_)
  · refine J_iload_n (q := 2) hX dX12_missed_82 rfl rfl ?_
    refine K_if_ne (tgt := 90) hX dX12_missed_83 rfl h (fun h => ?_) (fun h => ?_)
    · refine J_iload (q := 4) hX dX12_missed_90 rfl ?_
      refine J_sub [] rfl ?_
      exact tM_missed_92 hX hw hg hR hr v4 σ_14 h
    · refine J_iload_n (q := 3) hX dX12_missed_86 rfl rfl ?_
      refine J_goto (tgt := 92) hX dX12_missed_87 rfl ?_
      refine J_sub [] rfl ?_
      exact tM_missed_92 hX hw hg hR hr v3 σ_14 h
  · refine J_iload (q := 4) hX dX12_missed_48 rfl ?_
    refine J_iload_n (q := 3) hX dX12_missed_50 rfl rfl ?_
    refine K_if_le (tgt := 72) hX dX12_missed_51 rfl h (fun h => ?_) (fun h => ?_)
    · refine J_sub [0, 1, 2, 3, 5] rfl ?_
      exact tM_missed_72 hX hw hg hR hr hk39 v1 v2 v3 v5 v4 σ_14 h
    · refine J_aload_n (q := 0) hX dX12_missed_54 rfl rfl ?_
      refine J_iload_n (q := 1) hX dX12_missed_55 rfl rfl ?_
      refine J_iload (q := 5) hX dX12_missed_56 rfl ?_
      obtain ⟨r_21, σ_19, hc_20, h⟩ := bnd2_some h
      refine K_callV [.int v1, .int v5] hX hg hR (ctM_missedBy hw hc_20) lk_X12_437_X12_missedBy md_X12_missedBy (mc_0 hw) cls_X12 ⟨by decide, by decide⟩ rfl rfl (Nat.le_of_ble_eq_true rfl) dX12_missed_58 ?_
      refine J_iload_n (q := 3) hX dX12_missed_61 rfl rfl ?_
      refine K_icmp_ne (tgt := 72) hX dX12_missed_62 rfl h (fun h => ?_) (fun h => ?_)
      · refine J_sub [0, 1, 2, 3, 5] rfl ?_
        exact tM_missed_72 hX hw hg hR hr hk39 v1 v2 v3 v5 v4 σ_19 h
      · refine J_iconst (v := (1 : Int32)) hX dX12_missed_65 (by decide) ?_
        refine J_iload (q := 5) hX dX12_missed_66 rfl ?_
        refine J_ishl hX dX12_missed_68 ?_
        refine J_goto (tgt := 73) hX dX12_missed_69 rfl ?_
        refine J_sub [0, 1, 2, 3, 5] rfl ?_
        exact tM_missed_73 hX hw hg hR hr hk39 v1 v2 v3 v5 ((1 : Int32) <<< (v5 &&& 31)) v4 σ_19 h
def rM_missed_39L : ((Int32 × Int32 × Int32 × Int32 × Int32 × St) → Option (Int32 × St)) → (Int32 × Int32 × Int32 × Int32 × Int32 × St) → Option (Int32 × St) := fun k a => rM_missed_39 (fun v1 v2 v3 v4 v5 σ => k (v1, v2, v3, v4, v5, σ)) a.1 a.2.1 a.2.2.1 a.2.2.2.1 a.2.2.2.2.1 a.2.2.2.2.2
theorem tM_missed_39 {X : CX} (hX : gd X cX12_missed 6 RX12 (some .int)) (hw : (xw X).1 = mLy) (hg : nA X) (hR : xR X = rmOf 3 70 0 0) {r : Int32} {τ : St} (hr : xr X = (some (.int r), τ)) (n : Nat) (v1 : Int32) (v2 : Int32) (v3 : Int32) (v4 : Int32) (v5 : Int32) (σ : St) (h : lp (rM_missed_39L) n (v1, v2, v3, v4, v5, σ) = some (r, τ)) : Jd X 6 39 [(0, .ref (wad (xw X) 0)), (1, .int v1), (2, .int v2), (3, .int v3), (4, .int v4), (5, .int v5)] [] σ :=
  lp_ind (F := rM_missed_39L) (P := fun a => Jd X 6 39 [(0, .ref (wad (xw X) 0)), (1, .int a.1), (2, .int a.2.1), (3, .int a.2.2.1), (4, .int a.2.2.2.1), (5, .int a.2.2.2.2.1)] [] a.2.2.2.2.2) (fun k a hk h => tM_missed_39b hX hw hg hR hr (fun v1 v2 v3 v4 v5 σ h => hk (v1, v2, v3, v4, v5, σ) h) a.1 a.2.1 a.2.2.1 a.2.2.2.1 a.2.2.2.2.1 a.2.2.2.2.2 h) n (v1, v2, v3, v4, v5, σ) h

def rM_missed (v1 : Int32) (v2 : Int32) (σ : St) : Option (Int32 × St) :=
  nm (setI σ 0 0 (0 : Int32)) fun σ_1 => bnd2 (rM_within v1 (0 : Int32) (99 : Int32) σ_1) fun r_4 σ_2 => brc (r_4 = 0) (rM_missed_24 σ_2) (bnd2 (rM_within v2 (0 : Int32) (1 : Int32) σ_2) fun r_7 σ_5 => brc (¬ r_7 = 0) (bnd2 (rM_missedBy v1 (-1 : Int32) σ_5) fun r_10 σ_8 => nm r_10 fun v3_11 => nm (0 : Int32) fun v4_12 => nm (0 : Int32) fun v5_13 => lp (rM_missed_39L) fu (v1, v2, v3_11, v4_12, v5_13, σ_8)) (rM_missed_24 σ_5))
set_option maxRecDepth 100000 in
theorem tM_missed {X : CX} (hX : gd X cX12_missed 6 RX12 (some .int)) (hw : (xw X).1 = mLy) (hg : nA X) (hR : xR X = rmOf 3 70 0 0) {r : Int32} {τ : St} (hr : xr X = (some (.int r), τ)) (v1 : Int32) (v2 : Int32) (σ : St) (h : rM_missed v1 v2 σ = some (r, τ)) : Jd X 6 0 [(0, .ref (wad (xw X) 0)), (1, .int v1), (2, .int v2)] [] σ := by
  unfold rM_missed at h
  refine J_aload_n (q := 0) hX dX12_missed_0 rfl rfl ?_
  refine J_iconst (v := (0 : Int32)) hX dX12_missed_1 (by decide) ?_
  refine K_puti hX (mc_0 hw) cls_X12 (k := 0) (by decide) uw_6_47 rfl rfl rfl dX12_missed_2 h (fun σ_1 h => ?_)
  refine J_iload_n (q := 1) hX dX12_missed_5 rfl rfl ?_
  refine J_iconst (v := (0 : Int32)) hX dX12_missed_6 (by decide) ?_
  refine J_bipush (v := (99 : Int32)) hX dX12_missed_7 (by decide) ?_
  obtain ⟨r_4, σ_2, hc_3, h⟩ := bnd2_some h
  refine K_callS [.int v1, .int (0 : Int32), .int (99 : Int32)] hX hg hR (ctM_within hw hc_3) lk_X12_372_X12_within md_X12_within ⟨by decide, by decide⟩ rfl rfl (Nat.le_of_ble_eq_true rfl) dX12_missed_9 ?_
  refine K_if_eq (tgt := 24) hX dX12_missed_12 rfl h (fun h => ?_) (fun h => ?_)
  · refine J_sub [] rfl ?_
    exact tM_missed_24 hX hw hg hR hr σ_2 h
  · refine J_iload_n (q := 2) hX dX12_missed_15 rfl rfl ?_
    refine J_iconst (v := (0 : Int32)) hX dX12_missed_16 (by decide) ?_
    refine J_iconst (v := (1 : Int32)) hX dX12_missed_17 (by decide) ?_
    obtain ⟨r_7, σ_5, hc_6, h⟩ := bnd2_some h
    refine K_callS [.int v2, .int (0 : Int32), .int (1 : Int32)] hX hg hR (ctM_within hw hc_6) lk_X12_372_X12_within md_X12_within ⟨by decide, by decide⟩ rfl rfl (Nat.le_of_ble_eq_true rfl) dX12_missed_18 ?_
    refine K_if_ne (tgt := 26) hX dX12_missed_21 rfl h (fun h => ?_) (fun h => ?_)
    · refine J_aload_n (q := 0) hX dX12_missed_26 rfl rfl ?_
      refine J_iload_n (q := 1) hX dX12_missed_27 rfl rfl ?_
      refine J_iconst (v := (-1 : Int32)) hX dX12_missed_28 (by decide) ?_
      obtain ⟨r_10, σ_8, hc_9, h⟩ := bnd2_some h
      refine K_callV [.int v1, .int (-1 : Int32)] hX hg hR (ctM_missedBy hw hc_9) lk_X12_437_X12_missedBy md_X12_missedBy (mc_0 hw) cls_X12 ⟨by decide, by decide⟩ rfl rfl (Nat.le_of_ble_eq_true rfl) dX12_missed_29 ?_
      refine K_istore_n (fun v3_11 => [(3, .int v3_11), (0, .ref (wad (xw X) 0)), (1, .int v1), (2, .int v2)]) hX dX12_missed_32 rfl (by decide) (fun _ => rfl) h (fun v3_11 h => ?_)
      refine J_iconst (v := (0 : Int32)) hX dX12_missed_33 (by decide) ?_
      refine K_istore (fun v4_12 => [(4, .int v4_12), (3, .int v3_11), (0, .ref (wad (xw X) 0)), (1, .int v1), (2, .int v2)]) hX dX12_missed_34 (by decide) (fun _ => rfl) h (fun v4_12 h => ?_)
      refine J_iconst (v := (0 : Int32)) hX dX12_missed_36 (by decide) ?_
      refine K_istore (fun v5_13 => [(5, .int v5_13), (4, .int v4_12), (3, .int v3_11), (0, .ref (wad (xw X) 0)), (1, .int v1), (2, .int v2)]) hX dX12_missed_37 (by decide) (fun _ => rfl) h (fun v5_13 h => ?_)
      refine J_sub [3, 4, 5, 2, 1, 0] rfl ?_
      exact tM_missed_39 hX hw hg hR hr fu v1 v2 v3_11 v4_12 v5_13 σ_8 h
    · refine J_sub [] rfl ?_
      exact tM_missed_24 hX hw hg hR hr σ_5 h
theorem ctM_missed {w : WT} (hw : w.1 = mLy) {v1 : Int32} {v2 : Int32} {σ : St} {r : Int32} {τ : St} (h : rM_missed v1 v2 σ = some (r, τ)) : Ct yX12_missed cX12_missed 6 (some .int) 3 70 w [.ref (wad w 0), .int v1, .int v2] σ (some (.int r)) τ 0 0 :=
  Ct_intro (fun _ => (0, 0)) (by decide) rfl ⟨rfl, Nat.le_refl _⟩ (Nat.le_of_ble_eq_true rfl) (fun X hX hR hwX hg hr => by subst hwX; exact tM_missed hX hw hg hR hr v1 v2 σ h)

def rM_odds_41 (σ : St) : Option (Int32 × St) :=
  some ((-1 : Int32), σ)
set_option maxRecDepth 100000 in
theorem tM_odds_41 {X : CX} (hX : gd X cX12_odds 5 RX12 (some .int)) (hw : (xw X).1 = mLy) (hg : nA X) (hR : xR X = rmOf 3 70 0 0) {r : Int32} {τ : St} (hr : xr X = (some (.int r), τ)) (σ : St) (h : rM_odds_41 σ = some (r, τ)) : Jd X 5 41 [] [] σ := by
  unfold rM_odds_41 at h
  refine J_iconst (v := (-1 : Int32)) hX dX12_odds_41 (by decide) ?_
  exact K_iret hX hr dX12_odds_42 h

def rM_odds_79 (v4 : Int32) (s0 : Int32) (σ : St) : Option (Int32 × St) :=
  chk (decide (¬ v4 = 0)) (some (s0 / v4, σ))
set_option maxRecDepth 100000 in
theorem tM_odds_79 {X : CX} (hX : gd X cX12_odds 5 RX12 (some .int)) (hw : (xw X).1 = mLy) (hg : nA X) (hR : xR X = rmOf 3 70 0 0) {r : Int32} {τ : St} (hr : xr X = (some (.int r), τ)) (v4 : Int32) (s0 : Int32) (σ : St) (h : rM_odds_79 v4 s0 σ = some (r, τ)) : Jd X 5 79 [(4, .int v4)] [.int s0] σ := by
  unfold rM_odds_79 at h
  refine J_iload (q := 0) hX dX12_odds_79 rfl ?_
  refine K_idiv hX dX12_odds_81 h (fun h => ?_)
  exact K_iret hX hr dX12_odds_82 h

def rM_odds (v1 : Int32) (v2 : Int32) (v3 : Int32) (σ : St) : Option (Int32 × St) :=
  nm (setI σ 0 0 (0 : Int32)) fun σ_1 => bnd2 (rM_within v1 (0 : Int32) (99 : Int32) σ_1) fun r_4 σ_2 => brc (r_4 = 0) (rM_odds_41 σ_2) (bnd2 (rM_isCarrier v2 σ_2) fun r_7 σ_5 => brc (r_7 = 0) (rM_odds_41 σ_5) (bnd2 (rM_within v3 (0 : Int32) (1 : Int32) σ_5) fun r_10 σ_8 => brc (r_10 = 0) (rM_odds_41 σ_8) (bnd2 (rM_missedBy v1 (-1 : Int32) σ_8) fun r_13 σ_11 => brc (¬ r_13 = 0) (bnd2 (rM_missedBy v1 v2 σ_11) fun r_16 σ_14 => bnd2 (rM_missedBy v1 (-1 : Int32) σ_14) fun r_19 σ_17 => bnd2 (rM_common r_16 r_19 σ_17) fun r_22 σ_20 => nm r_22 fun v4_23 => brc (¬ v3 = 0) (bnd2 (rM_missedBy v1 (-1 : Int32) σ_20) fun r_26 σ_24 => rM_odds_79 v4_23 r_26 σ_24) (bnd2 (rM_missedBy v1 v2 σ_20) fun r_29 σ_27 => rM_odds_79 v4_23 r_29 σ_27)) (rM_odds_41 σ_11))))
set_option maxRecDepth 100000 in
theorem tM_odds {X : CX} (hX : gd X cX12_odds 5 RX12 (some .int)) (hw : (xw X).1 = mLy) (hg : nA X) (hR : xR X = rmOf 3 70 0 0) {r : Int32} {τ : St} (hr : xr X = (some (.int r), τ)) (v1 : Int32) (v2 : Int32) (v3 : Int32) (σ : St) (h : rM_odds v1 v2 v3 σ = some (r, τ)) : Jd X 5 0 [(0, .ref (wad (xw X) 0)), (1, .int v1), (2, .int v2), (3, .int v3)] [] σ := by
  unfold rM_odds at h
  refine J_aload_n (q := 0) hX dX12_odds_0 rfl rfl ?_
  refine J_iconst (v := (0 : Int32)) hX dX12_odds_1 (by decide) ?_
  refine K_puti hX (mc_0 hw) cls_X12 (k := 0) (by decide) uw_6_47 rfl rfl rfl dX12_odds_2 h (fun σ_1 h => ?_)
  refine J_iload_n (q := 1) hX dX12_odds_5 rfl rfl ?_
  refine J_iconst (v := (0 : Int32)) hX dX12_odds_6 (by decide) ?_
  refine J_bipush (v := (99 : Int32)) hX dX12_odds_7 (by decide) ?_
  obtain ⟨r_4, σ_2, hc_3, h⟩ := bnd2_some h
  refine K_callS [.int v1, .int (0 : Int32), .int (99 : Int32)] hX hg hR (ctM_within hw hc_3) lk_X12_372_X12_within md_X12_within ⟨by decide, by decide⟩ rfl rfl (Nat.le_of_ble_eq_true rfl) dX12_odds_9 ?_
  refine K_if_eq (tgt := 41) hX dX12_odds_12 rfl h (fun h => ?_) (fun h => ?_)
  · refine J_sub [] rfl ?_
    exact tM_odds_41 hX hw hg hR hr σ_2 h
  · refine J_aload_n (q := 0) hX dX12_odds_15 rfl rfl ?_
    refine J_iload_n (q := 2) hX dX12_odds_16 rfl rfl ?_
    obtain ⟨r_7, σ_5, hc_6, h⟩ := bnd2_some h
    refine K_callV [.int v2] hX hg hR (ctM_isCarrier hw hc_6) lk_X12_363_X12_isCarrier md_X12_isCarrier (mc_0 hw) cls_X12 ⟨by decide, by decide⟩ rfl rfl (Nat.le_of_ble_eq_true rfl) dX12_odds_17 ?_
    refine K_if_eq (tgt := 41) hX dX12_odds_20 rfl h (fun h => ?_) (fun h => ?_)
    · refine J_sub [] rfl ?_
      exact tM_odds_41 hX hw hg hR hr σ_5 h
    · refine J_iload_n (q := 3) hX dX12_odds_23 rfl rfl ?_
      refine J_iconst (v := (0 : Int32)) hX dX12_odds_24 (by decide) ?_
      refine J_iconst (v := (1 : Int32)) hX dX12_odds_25 (by decide) ?_
      obtain ⟨r_10, σ_8, hc_9, h⟩ := bnd2_some h
      refine K_callS [.int v3, .int (0 : Int32), .int (1 : Int32)] hX hg hR (ctM_within hw hc_9) lk_X12_372_X12_within md_X12_within ⟨by decide, by decide⟩ rfl rfl (Nat.le_of_ble_eq_true rfl) dX12_odds_26 ?_
      refine K_if_eq (tgt := 41) hX dX12_odds_29 rfl h (fun h => ?_) (fun h => ?_)
      · refine J_sub [] rfl ?_
        exact tM_odds_41 hX hw hg hR hr σ_8 h
      · refine J_aload_n (q := 0) hX dX12_odds_32 rfl rfl ?_
        refine J_iload_n (q := 1) hX dX12_odds_33 rfl rfl ?_
        refine J_iconst (v := (-1 : Int32)) hX dX12_odds_34 (by decide) ?_
        obtain ⟨r_13, σ_11, hc_12, h⟩ := bnd2_some h
        refine K_callV [.int v1, .int (-1 : Int32)] hX hg hR (ctM_missedBy hw hc_12) lk_X12_437_X12_missedBy md_X12_missedBy (mc_0 hw) cls_X12 ⟨by decide, by decide⟩ rfl rfl (Nat.le_of_ble_eq_true rfl) dX12_odds_35 ?_
        refine K_if_ne (tgt := 43) hX dX12_odds_38 rfl h (fun h => ?_) (fun h => ?_)
        · refine J_aload_n (q := 0) hX dX12_odds_43 rfl rfl ?_
          refine J_iload_n (q := 1) hX dX12_odds_44 rfl rfl ?_
          refine J_iload_n (q := 2) hX dX12_odds_45 rfl rfl ?_
          obtain ⟨r_16, σ_14, hc_15, h⟩ := bnd2_some h
          refine K_callV [.int v1, .int v2] hX hg hR (ctM_missedBy hw hc_15) lk_X12_437_X12_missedBy md_X12_missedBy (mc_0 hw) cls_X12 ⟨by decide, by decide⟩ rfl rfl (Nat.le_of_ble_eq_true rfl) dX12_odds_46 ?_
          refine J_aload_n (q := 0) hX dX12_odds_49 rfl rfl ?_
          refine J_iload_n (q := 1) hX dX12_odds_50 rfl rfl ?_
          refine J_iconst (v := (-1 : Int32)) hX dX12_odds_51 (by decide) ?_
          obtain ⟨r_19, σ_17, hc_18, h⟩ := bnd2_some h
          refine K_callV [.int v1, .int (-1 : Int32)] hX hg hR (ctM_missedBy hw hc_18) lk_X12_437_X12_missedBy md_X12_missedBy (mc_0 hw) cls_X12 ⟨by decide, by decide⟩ rfl rfl (Nat.le_of_ble_eq_true rfl) dX12_odds_52 ?_
          obtain ⟨r_22, σ_20, hc_21, h⟩ := bnd2_some h
          refine K_callS [.int r_16, .int r_19] hX hg hR (ctM_common hw hc_21) lk_X12_440_X12_common md_X12_common ⟨by decide, by decide⟩ rfl rfl (Nat.le_of_ble_eq_true rfl) dX12_odds_55 ?_
          refine K_istore (fun v4_23 => [(4, .int v4_23), (0, .ref (wad (xw X) 0)), (1, .int v1), (2, .int v2), (3, .int v3)]) hX dX12_odds_58 (by decide) (fun _ => rfl) h (fun v4_23 h => ?_)
          refine J_iload_n (q := 4) hX dX12_odds_60 rfl rfl ?_
          refine K_if_ne (tgt := 73) hX dX12_odds_61 rfl h (fun h => ?_) (fun h => ?_)
          · refine J_aload_n (q := 1) hX dX12_odds_73 rfl rfl ?_
            refine J_iload_n (q := 2) hX dX12_odds_74 rfl rfl ?_
            refine J_iconst (v := (-1 : Int32)) hX dX12_odds_75 (by decide) ?_
            obtain ⟨r_26, σ_24, hc_25, h⟩ := bnd2_some h
            refine K_callV [.int v1, .int (-1 : Int32)] hX hg hR (ctM_missedBy hw hc_25) lk_X12_437_X12_missedBy md_X12_missedBy (mc_0 hw) cls_X12 ⟨by decide, by decide⟩ rfl rfl (Nat.le_of_ble_eq_true rfl) dX12_odds_76 ?_
            refine J_sub [0] rfl ?_
            exact tM_odds_79 hX hw hg hR hr v4_23 r_26 σ_24 h
          · refine J_aload_n (q := 1) hX dX12_odds_64 rfl rfl ?_
            refine J_iload_n (q := 2) hX dX12_odds_65 rfl rfl ?_
            refine J_iload_n (q := 3) hX dX12_odds_66 rfl rfl ?_
            obtain ⟨r_29, σ_27, hc_28, h⟩ := bnd2_some h
            refine K_callV [.int v1, .int v2] hX hg hR (ctM_missedBy hw hc_28) lk_X12_437_X12_missedBy md_X12_missedBy (mc_0 hw) cls_X12 ⟨by decide, by decide⟩ rfl rfl (Nat.le_of_ble_eq_true rfl) dX12_odds_67 ?_
            refine J_goto (tgt := 79) hX dX12_odds_70 rfl ?_
            refine J_sub [0] rfl ?_
            exact tM_odds_79 hX hw hg hR hr v4_23 r_29 σ_27 h
        · refine J_sub [] rfl ?_
          exact tM_odds_41 hX hw hg hR hr σ_11 h
theorem ctM_odds {w : WT} (hw : w.1 = mLy) {v1 : Int32} {v2 : Int32} {v3 : Int32} {σ : St} {r : Int32} {τ : St} (h : rM_odds v1 v2 v3 σ = some (r, τ)) : Ct yX12_odds cX12_odds 5 (some .int) 3 70 w [.ref (wad w 0), .int v1, .int v2, .int v3] σ (some (.int r)) τ 0 0 :=
  Ct_intro (fun _ => (0, 0)) (by decide) rfl ⟨rfl, Nat.le_refl _⟩ (Nat.le_of_ble_eq_true rfl) (fun X hX hR hwX hg hr => by subst hwX; exact tM_odds hX hw hg hR hr v1 v2 v3 σ h)

def rM_readStation (σ : St) : Option (St) :=
  chk (ib (160 : Int32) 320) (nm (σ.1 6 (160 : Int32).toNatClampNeg) fun v1_1 => brc (¬ v1_1 = (7 : Int32)) (bnd1 (rM_readName v1_1 σ) fun σ_2 => bnd2 (rM_takeAfter (1 : Int32) (0 : Int32) (99 : Int32) σ_2) fun r_6 σ_4 => chk (ib ((168 : Int32) + ((2 : Int32) * v1_1)) 320) (nm (setI σ_4 6 ((168 : Int32) + ((2 : Int32) * v1_1)).toNatClampNeg r_6) fun σ_7 => bnd2 (rM_takeAfter (2 : Int32) (0 : Int32) (9 : Int32) σ_7) fun r_10 σ_8 => chk (ib (((168 : Int32) + ((2 : Int32) * v1_1)) + (1 : Int32)) 320) (nm (setI σ_8 6 (((168 : Int32) + ((2 : Int32) * v1_1)) + (1 : Int32)).toNatClampNeg r_10) fun σ_11 => chk (ib (160 : Int32) 320) (chk (ib (160 : Int32) 320) (nm (setI σ_11 6 (160 : Int32).toNatClampNeg ((σ_11.1 6 (160 : Int32).toNatClampNeg) + (1 : Int32))) fun σ_12 => some σ_12))))) (bnd1 (rM_wrong (5 : Int32) σ) fun σ_13 => some σ_13))
set_option maxRecDepth 100000 in
theorem tM_readStation {X : CX} (hX : gd X cX12_readStation 2 RX12 none) (hw : (xw X).1 = mLy) (hg : nA X) (hR : xR X = rmOf 4 87 0 0) {τ : St} (hr : xr X = (none, τ)) (σ : St) (h : rM_readStation σ = some τ) : Jd X 2 0 [(0, .ref (wad (xw X) 0))] [] σ := by
  unfold rM_readStation at h
  refine J_aload_n (q := 0) hX dX12_readStation_0 rfl rfl ?_
  refine K_getc 6 hX (mc_0 hw) cls_X12 (k := 10) (by decide) uw_6_57 rfl dX12_readStation_1 ?_
  refine J_sipush (v := (160 : Int32)) hX dX12_readStation_4 (by decide) ?_
  refine K_iald hX (mc_6 hw) dX12_readStation_7 h (fun h => ?_)
  refine K_istore_n (fun v1_1 => [(1, .int v1_1), (0, .ref (wad (xw X) 0))]) hX dX12_readStation_8 rfl (by decide) (fun _ => rfl) h (fun v1_1 h => ?_)
  refine J_iload_n (q := 0) hX dX12_readStation_9 rfl rfl ?_
  refine J_bipush (v := (7 : Int32)) hX dX12_readStation_10 (by decide) ?_
  refine K_icmp_ne (tgt := 21) hX dX12_readStation_12 rfl h (fun h => ?_) (fun h => ?_)
  · refine J_aload_n (q := 1) hX dX12_readStation_21 rfl rfl ?_
    refine J_iload_n (q := 0) hX dX12_readStation_22 rfl rfl ?_
    obtain ⟨σ_2, hc_3, h⟩ := bnd1_some h
    refine K_callV [.int v1_1] hX hg hR (ctM_readName hw hc_3) lk_X12_263_X12_readName md_X12_readName (mc_0 hw) cls_X12 ⟨by decide, by decide⟩ rfl rfl (Nat.le_of_ble_eq_true rfl) dX12_readStation_23 ?_
    refine J_aload_n (q := 1) hX dX12_readStation_26 rfl rfl ?_
    refine K_getc 6 hX (mc_0 hw) cls_X12 (k := 10) (by decide) uw_6_57 rfl dX12_readStation_27 ?_
    refine J_sipush (v := (168 : Int32)) hX dX12_readStation_30 (by decide) ?_
    refine J_iconst (v := (2 : Int32)) hX dX12_readStation_33 (by decide) ?_
    refine J_iload_n (q := 0) hX dX12_readStation_34 rfl rfl ?_
    refine J_imul hX dX12_readStation_35 ?_
    refine J_iadd hX dX12_readStation_36 ?_
    refine J_aload_n (q := 1) hX dX12_readStation_37 rfl rfl ?_
    refine J_iconst (v := (1 : Int32)) hX dX12_readStation_38 (by decide) ?_
    refine J_iconst (v := (0 : Int32)) hX dX12_readStation_39 (by decide) ?_
    refine J_bipush (v := (99 : Int32)) hX dX12_readStation_40 (by decide) ?_
    obtain ⟨r_6, σ_4, hc_5, h⟩ := bnd2_some h
    refine K_callV [.int (1 : Int32), .int (0 : Int32), .int (99 : Int32)] hX hg hR (ctM_takeAfter hw hc_5) lk_X12_266_X12_takeAfter md_X12_takeAfter (mc_0 hw) cls_X12 ⟨by decide, by decide⟩ rfl rfl (Nat.le_of_ble_eq_true rfl) dX12_readStation_42 ?_
    refine K_iast hX (mc_6 hw) dX12_readStation_45 h (fun σ_7 h => ?_)
    refine J_aload_n (q := 1) hX dX12_readStation_46 rfl rfl ?_
    refine K_getc 6 hX (mc_0 hw) cls_X12 (k := 10) (by decide) uw_6_57 rfl dX12_readStation_47 ?_
    refine J_sipush (v := (168 : Int32)) hX dX12_readStation_50 (by decide) ?_
    refine J_iconst (v := (2 : Int32)) hX dX12_readStation_53 (by decide) ?_
    refine J_iload_n (q := 0) hX dX12_readStation_54 rfl rfl ?_
    refine J_imul hX dX12_readStation_55 ?_
    refine J_iadd hX dX12_readStation_56 ?_
    refine J_iconst (v := (1 : Int32)) hX dX12_readStation_57 (by decide) ?_
    refine J_iadd hX dX12_readStation_58 ?_
    refine J_aload_n (q := 1) hX dX12_readStation_59 rfl rfl ?_
    refine J_iconst (v := (2 : Int32)) hX dX12_readStation_60 (by decide) ?_
    refine J_iconst (v := (0 : Int32)) hX dX12_readStation_61 (by decide) ?_
    refine J_bipush (v := (9 : Int32)) hX dX12_readStation_62 (by decide) ?_
    obtain ⟨r_10, σ_8, hc_9, h⟩ := bnd2_some h
    refine K_callV [.int (2 : Int32), .int (0 : Int32), .int (9 : Int32)] hX hg hR (ctM_takeAfter hw hc_9) lk_X12_266_X12_takeAfter md_X12_takeAfter (mc_0 hw) cls_X12 ⟨by decide, by decide⟩ rfl rfl (Nat.le_of_ble_eq_true rfl) dX12_readStation_64 ?_
    refine K_iast hX (mc_6 hw) dX12_readStation_67 h (fun σ_11 h => ?_)
    refine J_aload_n (q := 1) hX dX12_readStation_68 rfl rfl ?_
    refine K_getc 6 hX (mc_0 hw) cls_X12 (k := 10) (by decide) uw_6_57 rfl dX12_readStation_69 ?_
    refine J_sipush (v := (160 : Int32)) hX dX12_readStation_72 (by decide) ?_
    refine J_dup2 hX dX12_readStation_75 rfl rfl ?_
    refine K_iald hX (mc_6 hw) dX12_readStation_76 h (fun h => ?_)
    refine J_iconst (v := (1 : Int32)) hX dX12_readStation_77 (by decide) ?_
    refine J_iadd hX dX12_readStation_78 ?_
    refine K_iast hX (mc_6 hw) dX12_readStation_79 h (fun σ_12 h => ?_)
    exact K_vret hX hr dX12_readStation_80 h
  · refine J_aload_n (q := 1) hX dX12_readStation_15 rfl rfl ?_
    refine J_iconst (v := (5 : Int32)) hX dX12_readStation_16 (by decide) ?_
    obtain ⟨σ_13, hc_14, h⟩ := bnd1_some h
    refine K_callV [.int (5 : Int32)] hX hg hR (ctM_wrong hw hc_14) lk_X12_197_X12_wrong md_X12_wrong (mc_0 hw) cls_X12 ⟨by decide, by decide⟩ rfl rfl (Nat.le_of_ble_eq_true rfl) dX12_readStation_17 ?_
    exact K_vret hX hr dX12_readStation_20 h
theorem ctM_readStation {w : WT} (hw : w.1 = mLy) {σ : St} {τ : St} (h : rM_readStation σ = some τ) : Ct yX12_readStation cX12_readStation 2 none 4 87 w [.ref (wad w 0)] σ none τ 0 0 :=
  Ct_intro (fun _ => (0, 0)) (by decide) rfl ⟨rfl, Nat.le_refl _⟩ (Nat.le_of_ble_eq_true rfl) (fun X hX hR hwX hg hr => by subst hwX; exact tM_readStation hX hw hg hR hr  σ h)

def rM_readWay_236 (σ : St) : Option (St) :=
  some σ
set_option maxRecDepth 100000 in
theorem tM_readWay_236 {X : CX} (hX : gd X cX12_readWay 8 RX12 none) (hw : (xw X).1 = mLy) (hg : nA X) (hR : xR X = rmOf 4 87 0 0) {τ : St} (hr : xr X = (none, τ)) (σ : St) (h : rM_readWay_236 σ = some τ) : Jd X 8 236 [] [] σ := by
  unfold rM_readWay_236 at h
  exact K_vret hX hr dX12_readWay_236 h

def rM_readWay_194 (k164 : Int32 → Int32 → Int32 → Int32 → Int32 → St → Option (St)) (v2 : Int32) (v3 : Int32) (v4 : Int32) (v5 : Int32) (v6 : Int32) (s0 : Int32) (s1 : Int32) (s2 : Int32) (σ : St) : Option (St) :=
  nm (s2 + (s1 * s0)) fun v7_23 => chk (ib v7_23 320) (nm (setI σ 6 v7_23.toNatClampNeg v4) fun σ_24 => chk (ib (v7_23 + (1 : Int32)) 320) (nm (setI σ_24 6 (v7_23 + (1 : Int32)).toNatClampNeg v5) fun σ_25 => nm (v6 + Int32.ofInt 1) fun v6_26 => k164 v2 v3 v4 v5 v6_26 σ_25))
set_option maxRecDepth 100000 in
theorem tM_readWay_194 {X : CX} (hX : gd X cX12_readWay 8 RX12 none) (hw : (xw X).1 = mLy) (hg : nA X) (hR : xR X = rmOf 4 87 0 0) {τ : St} (hr : xr X = (none, τ)) {k164 : Int32 → Int32 → Int32 → Int32 → Int32 → St → Option (St)} (hk164 : (∀ (v2 : Int32) (v3 : Int32) (v4 : Int32) (v5 : Int32) (v6 : Int32) (σ : St), k164 v2 v3 v4 v5 v6 σ = some τ → Jd X 8 164 [(0, .ref (wad (xw X) 0)), (2, .int v2), (3, .int v3), (4, .int v4), (5, .int v5), (6, .int v6)] [] σ)) (v2 : Int32) (v3 : Int32) (v4 : Int32) (v5 : Int32) (v6 : Int32) (s0 : Int32) (s1 : Int32) (s2 : Int32) (σ : St) (h : rM_readWay_194 k164 v2 v3 v4 v5 v6 s0 s1 s2 σ = some τ) : Jd X 8 194 [(0, .ref (wad (xw X) 0)), (2, .int v2), (3, .int v3), (4, .int v4), (5, .int v5), (6, .int v6)] [.int s0, .int s1, .int s2] σ := by
  unfold rM_readWay_194 at h
  refine J_imul hX dX12_readWay_194 ?_
  refine J_iadd hX dX12_readWay_195 ?_
  refine K_istore (fun v7_23 => [(7, .int v7_23), (0, .ref (wad (xw X) 0)), (2, .int v2), (3, .int v3), (4, .int v4), (5, .int v5), (6, .int v6)]) hX dX12_readWay_196 (by decide) (fun _ => rfl) h (fun v7_23 h => ?_)
  refine J_aload_n (q := 1) hX dX12_readWay_198 rfl rfl ?_
  refine K_getc 6 hX (mc_0 hw) cls_X12 (k := 10) (by decide) uw_6_57 rfl dX12_readWay_199 ?_
  refine J_iload (q := 0) hX dX12_readWay_202 rfl ?_
  refine J_iload (q := 4) hX dX12_readWay_204 rfl ?_
  refine K_iast hX (mc_6 hw) dX12_readWay_206 h (fun σ_24 h => ?_)
  refine J_aload_n (q := 1) hX dX12_readWay_207 rfl rfl ?_
  refine K_getc 6 hX (mc_0 hw) cls_X12 (k := 10) (by decide) uw_6_57 rfl dX12_readWay_208 ?_
  refine J_iload (q := 0) hX dX12_readWay_211 rfl ?_
  refine J_iconst (v := (1 : Int32)) hX dX12_readWay_213 (by decide) ?_
  refine J_iadd hX dX12_readWay_214 ?_
  refine J_iload (q := 5) hX dX12_readWay_215 rfl ?_
  refine K_iast hX (mc_6 hw) dX12_readWay_217 h (fun σ_25 h => ?_)
  refine K_iinc (q := 6) (fun v6_26 => [(6, .int v6_26), (7, .int v7_23), (0, .ref (wad (xw X) 0)), (2, .int v2), (3, .int v3), (4, .int v4), (5, .int v5)]) hX dX12_readWay_218 rfl (by decide) (fun _ => rfl) h (fun v6_26 h => ?_)
  refine J_goto (tgt := 164) hX dX12_readWay_221 rfl ?_
  refine J_sub [2, 3, 4, 5, 6, 0] rfl ?_
  exact hk164 v2 v3 v4 v5 v6_26 σ_25 h

def rM_readWay_164 (k164 : Int32 → Int32 → Int32 → Int32 → Int32 → St → Option (St)) (v2 : Int32) (v3 : Int32) (v4 : Int32) (v5 : Int32) (v6 : Int32) (σ : St) : Option (St) :=
  brc ((2 : Int32) ≤ v6) (chk (ib (161 : Int32) 320) (chk (ib (161 : Int32) 320) (nm (setI σ 6 (161 : Int32).toNatClampNeg ((σ.1 6 (161 : Int32).toNatClampNeg) + (1 : Int32))) fun σ_22 => rM_readWay_236 σ_22))) (brc (¬ v6 = 0) (rM_readWay_194 k164 v2 v3 v4 v5 v6 (((7 : Int32) * v3) + v2) (2 : Int32) (182 : Int32) σ) (rM_readWay_194 k164 v2 v3 v4 v5 v6 (((7 : Int32) * v2) + v3) (2 : Int32) (182 : Int32) σ))
set_option maxRecDepth 100000 in
theorem tM_readWay_164b {X : CX} (hX : gd X cX12_readWay 8 RX12 none) (hw : (xw X).1 = mLy) (hg : nA X) (hR : xR X = rmOf 4 87 0 0) {τ : St} (hr : xr X = (none, τ)) {k164 : Int32 → Int32 → Int32 → Int32 → Int32 → St → Option (St)} (hk164 : (∀ (v2 : Int32) (v3 : Int32) (v4 : Int32) (v5 : Int32) (v6 : Int32) (σ : St), k164 v2 v3 v4 v5 v6 σ = some τ → Jd X 8 164 [(0, .ref (wad (xw X) 0)), (2, .int v2), (3, .int v3), (4, .int v4), (5, .int v5), (6, .int v6)] [] σ)) (v2 : Int32) (v3 : Int32) (v4 : Int32) (v5 : Int32) (v6 : Int32) (σ : St) (h : rM_readWay_164 k164 v2 v3 v4 v5 v6 σ = some τ) : Jd X 8 164 [(0, .ref (wad (xw X) 0)), (2, .int v2), (3, .int v3), (4, .int v4), (5, .int v5), (6, .int v6)] [] σ := by
  unfold rM_readWay_164 at h
  refine J_iload (q := 5) hX dX12_readWay_164 rfl ?_
  refine J_iconst (v := (2 : Int32)) hX dX12_readWay_166 (by decide) ?_
  refine K_icmp_ge (tgt := 224) hX dX12_readWay_167 rfl h (fun h => ?_) (fun h => ?_)
  · refine J_aload_n (q := 0) hX dX12_readWay_224 rfl rfl ?_
    refine K_getc 6 hX (mc_0 hw) cls_X12 (k := 10) (by decide) uw_6_57 rfl dX12_readWay_225 ?_
    refine J_sipush (v := (161 : Int32)) hX dX12_readWay_228 (by decide) ?_
    refine J_dup2 hX dX12_readWay_231 rfl rfl ?_
    refine K_iald hX (mc_6 hw) dX12_readWay_232 h (fun h => ?_)
    refine J_iconst (v := (1 : Int32)) hX dX12_readWay_233 (by decide) ?_
    refine J_iadd hX dX12_readWay_234 ?_
    refine K_iast hX (mc_6 hw) dX12_readWay_235 h (fun σ_22 h => ?_)
    refine J_sub [] rfl ?_
    exact tM_readWay_236 hX hw hg hR hr σ_22 h
  · refine J_sipush (v := (182 : Int32)) hX dX12_readWay_170 (by decide) ?_
    refine J_iconst (v := (2 : Int32)) hX dX12_readWay_173 (by decide) ?_
    refine J_iload (q := 5) hX dX12_readWay_174 rfl ?_
    refine K_if_ne (tgt := 188) hX dX12_readWay_176 rfl h (fun h => ?_) (fun h => ?_)
    · refine J_bipush (v := (7 : Int32)) hX dX12_readWay_188 (by decide) ?_
      refine J_iload_n (q := 2) hX dX12_readWay_190 rfl rfl ?_
      refine J_imul hX dX12_readWay_191 ?_
      refine J_iload_n (q := 1) hX dX12_readWay_192 rfl rfl ?_
      refine J_iadd hX dX12_readWay_193 ?_
      refine J_sub [0, 1, 2, 3, 4, 5] rfl ?_
      exact tM_readWay_194 hX hw hg hR hr hk164 v2 v3 v4 v5 v6 (((7 : Int32) * v3) + v2) (2 : Int32) (182 : Int32) σ h
    · refine J_bipush (v := (7 : Int32)) hX dX12_readWay_179 (by decide) ?_
      refine J_iload_n (q := 1) hX dX12_readWay_181 rfl rfl ?_
      refine J_imul hX dX12_readWay_182 ?_
      refine J_iload_n (q := 2) hX dX12_readWay_183 rfl rfl ?_
      refine J_iadd hX dX12_readWay_184 ?_
      refine J_goto (tgt := 194) hX dX12_readWay_185 rfl ?_
      refine J_sub [0, 1, 2, 3, 4, 5] rfl ?_
      exact tM_readWay_194 hX hw hg hR hr hk164 v2 v3 v4 v5 v6 (((7 : Int32) * v2) + v3) (2 : Int32) (182 : Int32) σ h
def rM_readWay_164L : ((Int32 × Int32 × Int32 × Int32 × Int32 × St) → Option (St)) → (Int32 × Int32 × Int32 × Int32 × Int32 × St) → Option (St) := fun k a => rM_readWay_164 (fun v2 v3 v4 v5 v6 σ => k (v2, v3, v4, v5, v6, σ)) a.1 a.2.1 a.2.2.1 a.2.2.2.1 a.2.2.2.2.1 a.2.2.2.2.2
theorem tM_readWay_164 {X : CX} (hX : gd X cX12_readWay 8 RX12 none) (hw : (xw X).1 = mLy) (hg : nA X) (hR : xR X = rmOf 4 87 0 0) {τ : St} (hr : xr X = (none, τ)) (n : Nat) (v2 : Int32) (v3 : Int32) (v4 : Int32) (v5 : Int32) (v6 : Int32) (σ : St) (h : lp (rM_readWay_164L) n (v2, v3, v4, v5, v6, σ) = some τ) : Jd X 8 164 [(0, .ref (wad (xw X) 0)), (2, .int v2), (3, .int v3), (4, .int v4), (5, .int v5), (6, .int v6)] [] σ :=
  lp_ind (F := rM_readWay_164L) (P := fun a => Jd X 8 164 [(0, .ref (wad (xw X) 0)), (2, .int a.1), (3, .int a.2.1), (4, .int a.2.2.1), (5, .int a.2.2.2.1), (6, .int a.2.2.2.2.1)] [] a.2.2.2.2.2) (fun k a hk h => tM_readWay_164b hX hw hg hR hr (fun v2 v3 v4 v5 v6 σ h => hk (v2, v3, v4, v5, v6, σ) h) a.1 a.2.1 a.2.2.1 a.2.2.2.1 a.2.2.2.2.1 a.2.2.2.2.2 h) n (v2, v3, v4, v5, v6, σ) h

def rM_readWay_130 (v2 : Int32) (v3 : Int32) (s0 : Int32) (s1 : Int32) (σ : St) : Option (St) :=
  nm (setI σ 0 7 (s1 + s0)) fun σ_12 => bnd2 (rM_takeAfter (4 : Int32) (1 : Int32) (99 : Int32) σ_12) fun r_15 σ_13 => nm r_15 fun v4_16 => bnd2 (rM_takeAfter (5 : Int32) (0 : Int32) (9 : Int32) σ_13) fun r_19 σ_17 => nm r_19 fun v5_20 => brc (¬ (σ_17.1 0 8) = 0) (rM_readWay_236 σ_17) (nm (0 : Int32) fun v6_21 => lp (rM_readWay_164L) fu (v2, v3, v4_16, v5_20, v6_21, σ_17))
set_option maxRecDepth 100000 in
theorem tM_readWay_130 {X : CX} (hX : gd X cX12_readWay 8 RX12 none) (hw : (xw X).1 = mLy) (hg : nA X) (hR : xR X = rmOf 4 87 0 0) {τ : St} (hr : xr X = (none, τ)) (v2 : Int32) (v3 : Int32) (s0 : Int32) (s1 : Int32) (σ : St) (h : rM_readWay_130 v2 v3 s0 s1 σ = some τ) : Jd X 8 130 [(0, .ref (wad (xw X) 0)), (2, .int v2), (3, .int v3)] [.int s0, .int s1, .ref (wad (xw X) 0)] σ := by
  unfold rM_readWay_130 at h
  refine J_iadd hX dX12_readWay_130 ?_
  refine K_puti hX (mc_0 hw) cls_X12 (k := 7) (by decide) uw_6_54 rfl rfl rfl dX12_readWay_131 h (fun σ_12 h => ?_)
  refine J_aload_n (q := 0) hX dX12_readWay_134 rfl rfl ?_
  refine J_iconst (v := (4 : Int32)) hX dX12_readWay_135 (by decide) ?_
  refine J_iconst (v := (1 : Int32)) hX dX12_readWay_136 (by decide) ?_
  refine J_bipush (v := (99 : Int32)) hX dX12_readWay_137 (by decide) ?_
  obtain ⟨r_15, σ_13, hc_14, h⟩ := bnd2_some h
  refine K_callV [.int (4 : Int32), .int (1 : Int32), .int (99 : Int32)] hX hg hR (ctM_takeAfter hw hc_14) lk_X12_266_X12_takeAfter md_X12_takeAfter (mc_0 hw) cls_X12 ⟨by decide, by decide⟩ rfl rfl (Nat.le_of_ble_eq_true rfl) dX12_readWay_139 ?_
  refine K_istore (fun v4_16 => [(4, .int v4_16), (0, .ref (wad (xw X) 0)), (2, .int v2), (3, .int v3)]) hX dX12_readWay_142 (by decide) (fun _ => rfl) h (fun v4_16 h => ?_)
  refine J_aload_n (q := 1) hX dX12_readWay_144 rfl rfl ?_
  refine J_iconst (v := (5 : Int32)) hX dX12_readWay_145 (by decide) ?_
  refine J_iconst (v := (0 : Int32)) hX dX12_readWay_146 (by decide) ?_
  refine J_bipush (v := (9 : Int32)) hX dX12_readWay_147 (by decide) ?_
  obtain ⟨r_19, σ_17, hc_18, h⟩ := bnd2_some h
  refine K_callV [.int (5 : Int32), .int (0 : Int32), .int (9 : Int32)] hX hg hR (ctM_takeAfter hw hc_18) lk_X12_266_X12_takeAfter md_X12_takeAfter (mc_0 hw) cls_X12 ⟨by decide, by decide⟩ rfl rfl (Nat.le_of_ble_eq_true rfl) dX12_readWay_149 ?_
  refine K_istore (fun v5_20 => [(5, .int v5_20), (4, .int v4_16), (0, .ref (wad (xw X) 0)), (2, .int v2), (3, .int v3)]) hX dX12_readWay_152 (by decide) (fun _ => rfl) h (fun v5_20 h => ?_)
  refine J_aload_n (q := 2) hX dX12_readWay_154 rfl rfl ?_
  refine K_geti hX (mc_0 hw) cls_X12 (k := 8) (by decide) uw_6_55 rfl dX12_readWay_155 ?_
  refine K_if_ne (tgt := 236) hX dX12_readWay_158 rfl h (fun h => ?_) (fun h => ?_)
  · refine J_sub [] rfl ?_
    exact tM_readWay_236 hX hw hg hR hr σ_17 h
  · refine J_iconst (v := (0 : Int32)) hX dX12_readWay_161 (by decide) ?_
    refine K_istore (fun v6_21 => [(6, .int v6_21), (5, .int v5_20), (4, .int v4_16), (0, .ref (wad (xw X) 0)), (2, .int v2), (3, .int v3)]) hX dX12_readWay_162 (by decide) (fun _ => rfl) h (fun v6_21 h => ?_)
    refine J_sub [3, 4, 5, 2, 1, 0] rfl ?_
    exact tM_readWay_164 hX hw hg hR hr fu v2 v3 v4_16 v5_20 v6_21 σ_17 h

def rM_readWay_113 (v2 : Int32) (v3 : Int32) (σ : St) : Option (St) :=
  brc ((σ.1 0 8) ≤ 0) (rM_readWay_130 v2 v3 (1 : Int32) (σ.1 0 7) σ) (rM_readWay_130 v2 v3 (0 : Int32) (σ.1 0 7) σ)
set_option maxRecDepth 100000 in
theorem tM_readWay_113 {X : CX} (hX : gd X cX12_readWay 8 RX12 none) (hw : (xw X).1 = mLy) (hg : nA X) (hR : xR X = rmOf 4 87 0 0) {τ : St} (hr : xr X = (none, τ)) (v2 : Int32) (v3 : Int32) (σ : St) (h : rM_readWay_113 v2 v3 σ = some τ) : Jd X 8 113 [(0, .ref (wad (xw X) 0)), (2, .int v2), (3, .int v3)] [] σ := by
  unfold rM_readWay_113 at h
  refine J_aload_n (q := 0) hX dX12_readWay_113 rfl rfl ?_
  refine J_dup hX dX12_readWay_114 rfl ?_
  refine K_geti hX (mc_0 hw) cls_X12 (k := 7) (by decide) uw_6_54 rfl dX12_readWay_115 ?_
  refine J_aload_n (q := 0) hX dX12_readWay_118 rfl rfl ?_
  refine K_geti hX (mc_0 hw) cls_X12 (k := 8) (by decide) uw_6_55 rfl dX12_readWay_119 ?_
  refine K_if_le (tgt := 129) hX dX12_readWay_122 rfl h (fun h => ?_) (fun h => ?_)
  · refine J_iconst (v := (1 : Int32)) hX dX12_readWay_129 (by decide) ?_
    refine J_sub [0, 1, 2] rfl ?_
    exact tM_readWay_130 hX hw hg hR hr v2 v3 (1 : Int32) (σ.1 0 7) σ h
  · refine J_iconst (v := (0 : Int32)) hX dX12_readWay_125 (by decide) ?_
    refine J_goto (tgt := 130) hX dX12_readWay_126 rfl ?_
    refine J_sub [0, 1, 2] rfl ?_
    exact tM_readWay_130 hX hw hg hR hr v2 v3 (0 : Int32) (σ.1 0 7) σ h

def rM_readWay_80 (v2 : Int32) (s0 : Int32) (σ : St) : Option (St) :=
  nm s0 fun v3_11 => brc (¬ (σ.1 0 8) = 0) (rM_readWay_113 v2 v3_11 σ) (chk (ib ((182 : Int32) + ((2 : Int32) * (((7 : Int32) * v2) + v3_11))) 320) (brc ((σ.1 6 ((182 : Int32) + ((2 : Int32) * (((7 : Int32) * v2) + v3_11))).toNatClampNeg) ≤ 0) (rM_readWay_113 v2 v3_11 σ) (bnd1 (rM_wrong (3 : Int32) σ) fun σ_27 => rM_readWay_113 v2 v3_11 σ_27)))
set_option maxRecDepth 100000 in
theorem tM_readWay_80 {X : CX} (hX : gd X cX12_readWay 8 RX12 none) (hw : (xw X).1 = mLy) (hg : nA X) (hR : xR X = rmOf 4 87 0 0) {τ : St} (hr : xr X = (none, τ)) (v2 : Int32) (s0 : Int32) (σ : St) (h : rM_readWay_80 v2 s0 σ = some τ) : Jd X 8 80 [(0, .ref (wad (xw X) 0)), (2, .int v2)] [.int s0] σ := by
  unfold rM_readWay_80 at h
  refine K_istore_n (fun v3_11 => [(3, .int v3_11), (0, .ref (wad (xw X) 0)), (2, .int v2)]) hX dX12_readWay_80 rfl (by decide) (fun _ => rfl) h (fun v3_11 h => ?_)
  refine J_aload_n (q := 1) hX dX12_readWay_81 rfl rfl ?_
  refine K_geti hX (mc_0 hw) cls_X12 (k := 8) (by decide) uw_6_55 rfl dX12_readWay_82 ?_
  refine K_if_ne (tgt := 113) hX dX12_readWay_85 rfl h (fun h => ?_) (fun h => ?_)
  · refine J_sub [1, 2, 0] rfl ?_
    exact tM_readWay_113 hX hw hg hR hr v2 v3_11 σ h
  · refine J_aload_n (q := 1) hX dX12_readWay_88 rfl rfl ?_
    refine K_getc 6 hX (mc_0 hw) cls_X12 (k := 10) (by decide) uw_6_57 rfl dX12_readWay_89 ?_
    refine J_sipush (v := (182 : Int32)) hX dX12_readWay_92 (by decide) ?_
    refine J_iconst (v := (2 : Int32)) hX dX12_readWay_95 (by decide) ?_
    refine J_bipush (v := (7 : Int32)) hX dX12_readWay_96 (by decide) ?_
    refine J_iload_n (q := 2) hX dX12_readWay_98 rfl rfl ?_
    refine J_imul hX dX12_readWay_99 ?_
    refine J_iload_n (q := 0) hX dX12_readWay_100 rfl rfl ?_
    refine J_iadd hX dX12_readWay_101 ?_
    refine J_imul hX dX12_readWay_102 ?_
    refine J_iadd hX dX12_readWay_103 ?_
    refine K_iald hX (mc_6 hw) dX12_readWay_104 h (fun h => ?_)
    refine K_if_le (tgt := 113) hX dX12_readWay_105 rfl h (fun h => ?_) (fun h => ?_)
    · refine J_sub [1, 2, 0] rfl ?_
      exact tM_readWay_113 hX hw hg hR hr v2 v3_11 σ h
    · refine J_aload_n (q := 1) hX dX12_readWay_108 rfl rfl ?_
      refine J_iconst (v := (3 : Int32)) hX dX12_readWay_109 (by decide) ?_
      obtain ⟨σ_27, hc_28, h⟩ := bnd1_some h
      refine K_callV [.int (3 : Int32)] hX hg hR (ctM_wrong hw hc_28) lk_X12_197_X12_wrong md_X12_wrong (mc_0 hw) cls_X12 ⟨by decide, by decide⟩ rfl rfl (Nat.le_of_ble_eq_true rfl) dX12_readWay_110 ?_
      refine J_sub [1, 2, 0] rfl ?_
      exact tM_readWay_113 hX hw hg hR hr v2 v3_11 σ_27 h

def rM_readWay_57 (v2 : Int32) (s0 : Int32) (s1 : Int32) (σ : St) : Option (St) :=
  nm (setI σ 0 7 (s1 + s0)) fun σ_7 => brc ((σ_7.1 0 8) ≤ 0) (bnd2 (rM_nameHere (0 : Int32) (7 : Int32) v2 σ_7) fun r_10 σ_8 => rM_readWay_80 v2 r_10 σ_8) (rM_readWay_80 v2 (-1 : Int32) σ_7)
set_option maxRecDepth 100000 in
theorem tM_readWay_57 {X : CX} (hX : gd X cX12_readWay 8 RX12 none) (hw : (xw X).1 = mLy) (hg : nA X) (hR : xR X = rmOf 4 87 0 0) {τ : St} (hr : xr X = (none, τ)) (v2 : Int32) (s0 : Int32) (s1 : Int32) (σ : St) (h : rM_readWay_57 v2 s0 s1 σ = some τ) : Jd X 8 57 [(0, .ref (wad (xw X) 0)), (2, .int v2)] [.int s0, .int s1, .ref (wad (xw X) 0)] σ := by
  unfold rM_readWay_57 at h
  refine J_iadd hX dX12_readWay_57 ?_
  refine K_puti hX (mc_0 hw) cls_X12 (k := 7) (by decide) uw_6_54 rfl rfl rfl dX12_readWay_58 h (fun σ_7 h => ?_)
  refine J_aload_n (q := 0) hX dX12_readWay_61 rfl rfl ?_
  refine K_geti hX (mc_0 hw) cls_X12 (k := 8) (by decide) uw_6_55 rfl dX12_readWay_62 ?_
  refine K_if_le (tgt := 72) hX dX12_readWay_65 rfl h (fun h => ?_) (fun h => ?_)
  · refine J_aload_n (q := 0) hX dX12_readWay_72 rfl rfl ?_
    refine J_iconst (v := (0 : Int32)) hX dX12_readWay_73 (by decide) ?_
    refine J_bipush (v := (7 : Int32)) hX dX12_readWay_74 (by decide) ?_
    refine J_iload_n (q := 1) hX dX12_readWay_76 rfl rfl ?_
    obtain ⟨r_10, σ_8, hc_9, h⟩ := bnd2_some h
    refine K_callV [.int (0 : Int32), .int (7 : Int32), .int v2] hX hg hR (ctM_nameHere hw hc_9) lk_X12_270_X12_nameHere md_X12_nameHere (mc_0 hw) cls_X12 ⟨by decide, by decide⟩ rfl rfl (Nat.le_of_ble_eq_true rfl) dX12_readWay_77 ?_
    refine J_sub [0, 1] rfl ?_
    exact tM_readWay_80 hX hw hg hR hr v2 r_10 σ_8 h
  · refine J_iconst (v := (-1 : Int32)) hX dX12_readWay_68 (by decide) ?_
    refine J_goto (tgt := 80) hX dX12_readWay_69 rfl ?_
    refine J_sub [0, 1] rfl ?_
    exact tM_readWay_80 hX hw hg hR hr v2 (-1 : Int32) σ_7 h

def rM_readWay (σ : St) : Option (St) :=
  chk (ib (161 : Int32) 320) (nm (σ.1 6 (161 : Int32).toNatClampNeg) fun v1_1 => brc (¬ v1_1 = (12 : Int32)) (nm (setI σ 0 7 ((σ.1 0 7) + (1 : Int32))) fun σ_2 => bnd2 (rM_nameHere (0 : Int32) (7 : Int32) (-1 : Int32) σ_2) fun r_5 σ_3 => nm r_5 fun v2_6 => brc ((σ_3.1 0 8) ≤ 0) (rM_readWay_57 v2_6 (1 : Int32) (σ_3.1 0 7) σ_3) (rM_readWay_57 v2_6 (0 : Int32) (σ_3.1 0 7) σ_3)) (bnd1 (rM_wrong (5 : Int32) σ) fun σ_29 => some σ_29))
set_option maxRecDepth 100000 in
theorem tM_readWay {X : CX} (hX : gd X cX12_readWay 8 RX12 none) (hw : (xw X).1 = mLy) (hg : nA X) (hR : xR X = rmOf 4 87 0 0) {τ : St} (hr : xr X = (none, τ)) (σ : St) (h : rM_readWay σ = some τ) : Jd X 8 0 [(0, .ref (wad (xw X) 0))] [] σ := by
  unfold rM_readWay at h
  refine J_aload_n (q := 0) hX dX12_readWay_0 rfl rfl ?_
  refine K_getc 6 hX (mc_0 hw) cls_X12 (k := 10) (by decide) uw_6_57 rfl dX12_readWay_1 ?_
  refine J_sipush (v := (161 : Int32)) hX dX12_readWay_4 (by decide) ?_
  refine K_iald hX (mc_6 hw) dX12_readWay_7 h (fun h => ?_)
  refine K_istore_n (fun v1_1 => [(1, .int v1_1), (0, .ref (wad (xw X) 0))]) hX dX12_readWay_8 rfl (by decide) (fun _ => rfl) h (fun v1_1 h => ?_)
  refine J_iload_n (q := 0) hX dX12_readWay_9 rfl rfl ?_
  refine J_bipush (v := (12 : Int32)) hX dX12_readWay_10 (by decide) ?_
  refine K_icmp_ne (tgt := 21) hX dX12_readWay_12 rfl h (fun h => ?_) (fun h => ?_)
  · refine J_aload_n (q := 1) hX dX12_readWay_21 rfl rfl ?_
    refine J_dup hX dX12_readWay_22 rfl ?_
    refine K_geti hX (mc_0 hw) cls_X12 (k := 7) (by decide) uw_6_54 rfl dX12_readWay_23 ?_
    refine J_iconst (v := (1 : Int32)) hX dX12_readWay_26 (by decide) ?_
    refine J_iadd hX dX12_readWay_27 ?_
    refine K_puti hX (mc_0 hw) cls_X12 (k := 7) (by decide) uw_6_54 rfl rfl rfl dX12_readWay_28 h (fun σ_2 h => ?_)
    refine J_aload_n (q := 1) hX dX12_readWay_31 rfl rfl ?_
    refine J_iconst (v := (0 : Int32)) hX dX12_readWay_32 (by decide) ?_
    refine J_bipush (v := (7 : Int32)) hX dX12_readWay_33 (by decide) ?_
    refine J_iconst (v := (-1 : Int32)) hX dX12_readWay_35 (by decide) ?_
    obtain ⟨r_5, σ_3, hc_4, h⟩ := bnd2_some h
    refine K_callV [.int (0 : Int32), .int (7 : Int32), .int (-1 : Int32)] hX hg hR (ctM_nameHere hw hc_4) lk_X12_270_X12_nameHere md_X12_nameHere (mc_0 hw) cls_X12 ⟨by decide, by decide⟩ rfl rfl (Nat.le_of_ble_eq_true rfl) dX12_readWay_36 ?_
    refine K_istore_n (fun v2_6 => [(2, .int v2_6), (1, .int v1_1), (0, .ref (wad (xw X) 0))]) hX dX12_readWay_39 rfl (by decide) (fun _ => rfl) h (fun v2_6 h => ?_)
    refine J_aload_n (q := 2) hX dX12_readWay_40 rfl rfl ?_
    refine J_dup hX dX12_readWay_41 rfl ?_
    refine K_geti hX (mc_0 hw) cls_X12 (k := 7) (by decide) uw_6_54 rfl dX12_readWay_42 ?_
    refine J_aload_n (q := 2) hX dX12_readWay_45 rfl rfl ?_
    refine K_geti hX (mc_0 hw) cls_X12 (k := 8) (by decide) uw_6_55 rfl dX12_readWay_46 ?_
    refine K_if_le (tgt := 56) hX dX12_readWay_49 rfl h (fun h => ?_) (fun h => ?_)
    · refine J_iconst (v := (1 : Int32)) hX dX12_readWay_56 (by decide) ?_
      refine J_sub [2, 0] rfl ?_
      exact tM_readWay_57 hX hw hg hR hr v2_6 (1 : Int32) (σ_3.1 0 7) σ_3 h
    · refine J_iconst (v := (0 : Int32)) hX dX12_readWay_52 (by decide) ?_
      refine J_goto (tgt := 57) hX dX12_readWay_53 rfl ?_
      refine J_sub [2, 0] rfl ?_
      exact tM_readWay_57 hX hw hg hR hr v2_6 (0 : Int32) (σ_3.1 0 7) σ_3 h
  · refine J_aload_n (q := 1) hX dX12_readWay_15 rfl rfl ?_
    refine J_iconst (v := (5 : Int32)) hX dX12_readWay_16 (by decide) ?_
    obtain ⟨σ_29, hc_30, h⟩ := bnd1_some h
    refine K_callV [.int (5 : Int32)] hX hg hR (ctM_wrong hw hc_30) lk_X12_197_X12_wrong md_X12_wrong (mc_0 hw) cls_X12 ⟨by decide, by decide⟩ rfl rfl (Nat.le_of_ble_eq_true rfl) dX12_readWay_17 ?_
    exact K_vret hX hr dX12_readWay_20 h
theorem ctM_readWay {w : WT} (hw : w.1 = mLy) {σ : St} {τ : St} (h : rM_readWay σ = some τ) : Ct yX12_readWay cX12_readWay 8 none 4 87 w [.ref (wad w 0)] σ none τ 0 0 :=
  Ct_intro (fun _ => (0, 0)) (by decide) rfl ⟨rfl, Nat.le_refl _⟩ (Nat.le_of_ble_eq_true rfl) (fun X hX hR hwX hg hr => by subst hwX; exact tM_readWay hX hw hg hR hr  σ h)

def rM_readCarrier_88 (v1 : Int32) (v2 : Int32) (s0 : Int32) (s1 : Int32) (σ : St) : Option (St) :=
  nm (setI σ 0 7 (s1 + s0)) fun σ_6 => nm ((280 : Int32) + ((4 : Int32) * v1)) fun v3_7 => chk (ib v3_7 320) (nm (setI σ_6 6 v3_7.toNatClampNeg v2) fun σ_8 => bnd2 (rM_takeAfter (7 : Int32) (1 : Int32) (60 : Int32) σ_8) fun r_11 σ_9 => chk (ib (v3_7 + (1 : Int32)) 320) (nm (setI σ_9 6 (v3_7 + (1 : Int32)).toNatClampNeg r_11) fun σ_12 => bnd2 (rM_takeAfter (8 : Int32) (0 : Int32) (20 : Int32) σ_12) fun r_15 σ_13 => chk (ib (v3_7 + (2 : Int32)) 320) (nm (setI σ_13 6 (v3_7 + (2 : Int32)).toNatClampNeg r_15) fun σ_16 => bnd2 (rM_takeAfter (9 : Int32) (0 : Int32) (9 : Int32) σ_16) fun r_19 σ_17 => chk (ib (v3_7 + (3 : Int32)) 320) (nm (setI σ_17 6 (v3_7 + (3 : Int32)).toNatClampNeg r_19) fun σ_20 => chk (ib (162 : Int32) 320) (chk (ib (162 : Int32) 320) (nm (setI σ_20 6 (162 : Int32).toNatClampNeg ((σ_20.1 6 (162 : Int32).toNatClampNeg) + (1 : Int32))) fun σ_21 => some σ_21))))))
set_option maxRecDepth 100000 in
theorem tM_readCarrier_88 {X : CX} (hX : gd X cX12_readCarrier 4 RX12 none) (hw : (xw X).1 = mLy) (hg : nA X) (hR : xR X = rmOf 4 87 0 0) {τ : St} (hr : xr X = (none, τ)) (v1 : Int32) (v2 : Int32) (s0 : Int32) (s1 : Int32) (σ : St) (h : rM_readCarrier_88 v1 v2 s0 s1 σ = some τ) : Jd X 4 88 [(0, .ref (wad (xw X) 0)), (1, .int v1), (2, .int v2)] [.int s0, .int s1, .ref (wad (xw X) 0)] σ := by
  unfold rM_readCarrier_88 at h
  refine J_iadd hX dX12_readCarrier_88 ?_
  refine K_puti hX (mc_0 hw) cls_X12 (k := 7) (by decide) uw_6_54 rfl rfl rfl dX12_readCarrier_89 h (fun σ_6 h => ?_)
  refine J_sipush (v := (280 : Int32)) hX dX12_readCarrier_92 (by decide) ?_
  refine J_iconst (v := (4 : Int32)) hX dX12_readCarrier_95 (by decide) ?_
  refine J_iload_n (q := 1) hX dX12_readCarrier_96 rfl rfl ?_
  refine J_imul hX dX12_readCarrier_97 ?_
  refine J_iadd hX dX12_readCarrier_98 ?_
  refine K_istore_n (fun v3_7 => [(3, .int v3_7), (0, .ref (wad (xw X) 0)), (1, .int v1), (2, .int v2)]) hX dX12_readCarrier_99 rfl (by decide) (fun _ => rfl) h (fun v3_7 h => ?_)
  refine J_aload_n (q := 1) hX dX12_readCarrier_100 rfl rfl ?_
  refine K_getc 6 hX (mc_0 hw) cls_X12 (k := 10) (by decide) uw_6_57 rfl dX12_readCarrier_101 ?_
  refine J_iload_n (q := 0) hX dX12_readCarrier_104 rfl rfl ?_
  refine J_iload_n (q := 3) hX dX12_readCarrier_105 rfl rfl ?_
  refine K_iast hX (mc_6 hw) dX12_readCarrier_106 h (fun σ_8 h => ?_)
  refine J_aload_n (q := 1) hX dX12_readCarrier_107 rfl rfl ?_
  refine K_getc 6 hX (mc_0 hw) cls_X12 (k := 10) (by decide) uw_6_57 rfl dX12_readCarrier_108 ?_
  refine J_iload_n (q := 0) hX dX12_readCarrier_111 rfl rfl ?_
  refine J_iconst (v := (1 : Int32)) hX dX12_readCarrier_112 (by decide) ?_
  refine J_iadd hX dX12_readCarrier_113 ?_
  refine J_aload_n (q := 1) hX dX12_readCarrier_114 rfl rfl ?_
  refine J_bipush (v := (7 : Int32)) hX dX12_readCarrier_115 (by decide) ?_
  refine J_iconst (v := (1 : Int32)) hX dX12_readCarrier_117 (by decide) ?_
  refine J_bipush (v := (60 : Int32)) hX dX12_readCarrier_118 (by decide) ?_
  obtain ⟨r_11, σ_9, hc_10, h⟩ := bnd2_some h
  refine K_callV [.int (7 : Int32), .int (1 : Int32), .int (60 : Int32)] hX hg hR (ctM_takeAfter hw hc_10) lk_X12_266_X12_takeAfter md_X12_takeAfter (mc_0 hw) cls_X12 ⟨by decide, by decide⟩ rfl rfl (Nat.le_of_ble_eq_true rfl) dX12_readCarrier_120 ?_
  refine K_iast hX (mc_6 hw) dX12_readCarrier_123 h (fun σ_12 h => ?_)
  refine J_aload_n (q := 1) hX dX12_readCarrier_124 rfl rfl ?_
  refine K_getc 6 hX (mc_0 hw) cls_X12 (k := 10) (by decide) uw_6_57 rfl dX12_readCarrier_125 ?_
  refine J_iload_n (q := 0) hX dX12_readCarrier_128 rfl rfl ?_
  refine J_iconst (v := (2 : Int32)) hX dX12_readCarrier_129 (by decide) ?_
  refine J_iadd hX dX12_readCarrier_130 ?_
  refine J_aload_n (q := 1) hX dX12_readCarrier_131 rfl rfl ?_
  refine J_bipush (v := (8 : Int32)) hX dX12_readCarrier_132 (by decide) ?_
  refine J_iconst (v := (0 : Int32)) hX dX12_readCarrier_134 (by decide) ?_
  refine J_bipush (v := (20 : Int32)) hX dX12_readCarrier_135 (by decide) ?_
  obtain ⟨r_15, σ_13, hc_14, h⟩ := bnd2_some h
  refine K_callV [.int (8 : Int32), .int (0 : Int32), .int (20 : Int32)] hX hg hR (ctM_takeAfter hw hc_14) lk_X12_266_X12_takeAfter md_X12_takeAfter (mc_0 hw) cls_X12 ⟨by decide, by decide⟩ rfl rfl (Nat.le_of_ble_eq_true rfl) dX12_readCarrier_137 ?_
  refine K_iast hX (mc_6 hw) dX12_readCarrier_140 h (fun σ_16 h => ?_)
  refine J_aload_n (q := 1) hX dX12_readCarrier_141 rfl rfl ?_
  refine K_getc 6 hX (mc_0 hw) cls_X12 (k := 10) (by decide) uw_6_57 rfl dX12_readCarrier_142 ?_
  refine J_iload_n (q := 0) hX dX12_readCarrier_145 rfl rfl ?_
  refine J_iconst (v := (3 : Int32)) hX dX12_readCarrier_146 (by decide) ?_
  refine J_iadd hX dX12_readCarrier_147 ?_
  refine J_aload_n (q := 1) hX dX12_readCarrier_148 rfl rfl ?_
  refine J_bipush (v := (9 : Int32)) hX dX12_readCarrier_149 (by decide) ?_
  refine J_iconst (v := (0 : Int32)) hX dX12_readCarrier_151 (by decide) ?_
  refine J_bipush (v := (9 : Int32)) hX dX12_readCarrier_152 (by decide) ?_
  obtain ⟨r_19, σ_17, hc_18, h⟩ := bnd2_some h
  refine K_callV [.int (9 : Int32), .int (0 : Int32), .int (9 : Int32)] hX hg hR (ctM_takeAfter hw hc_18) lk_X12_266_X12_takeAfter md_X12_takeAfter (mc_0 hw) cls_X12 ⟨by decide, by decide⟩ rfl rfl (Nat.le_of_ble_eq_true rfl) dX12_readCarrier_154 ?_
  refine K_iast hX (mc_6 hw) dX12_readCarrier_157 h (fun σ_20 h => ?_)
  refine J_aload_n (q := 1) hX dX12_readCarrier_158 rfl rfl ?_
  refine K_getc 6 hX (mc_0 hw) cls_X12 (k := 10) (by decide) uw_6_57 rfl dX12_readCarrier_159 ?_
  refine J_sipush (v := (162 : Int32)) hX dX12_readCarrier_162 (by decide) ?_
  refine J_dup2 hX dX12_readCarrier_165 rfl rfl ?_
  refine K_iald hX (mc_6 hw) dX12_readCarrier_166 h (fun h => ?_)
  refine J_iconst (v := (1 : Int32)) hX dX12_readCarrier_167 (by decide) ?_
  refine J_iadd hX dX12_readCarrier_168 ?_
  refine K_iast hX (mc_6 hw) dX12_readCarrier_169 h (fun σ_21 h => ?_)
  exact K_vret hX hr dX12_readCarrier_170 h

def rM_readCarrier_71 (v1 : Int32) (v2 : Int32) (σ : St) : Option (St) :=
  brc ((σ.1 0 8) ≤ 0) (rM_readCarrier_88 v1 v2 (1 : Int32) (σ.1 0 7) σ) (rM_readCarrier_88 v1 v2 (0 : Int32) (σ.1 0 7) σ)
set_option maxRecDepth 100000 in
theorem tM_readCarrier_71 {X : CX} (hX : gd X cX12_readCarrier 4 RX12 none) (hw : (xw X).1 = mLy) (hg : nA X) (hR : xR X = rmOf 4 87 0 0) {τ : St} (hr : xr X = (none, τ)) (v1 : Int32) (v2 : Int32) (σ : St) (h : rM_readCarrier_71 v1 v2 σ = some τ) : Jd X 4 71 [(0, .ref (wad (xw X) 0)), (1, .int v1), (2, .int v2)] [] σ := by
  unfold rM_readCarrier_71 at h
  refine J_aload_n (q := 0) hX dX12_readCarrier_71 rfl rfl ?_
  refine J_dup hX dX12_readCarrier_72 rfl ?_
  refine K_geti hX (mc_0 hw) cls_X12 (k := 7) (by decide) uw_6_54 rfl dX12_readCarrier_73 ?_
  refine J_aload_n (q := 0) hX dX12_readCarrier_76 rfl rfl ?_
  refine K_geti hX (mc_0 hw) cls_X12 (k := 8) (by decide) uw_6_55 rfl dX12_readCarrier_77 ?_
  refine K_if_le (tgt := 87) hX dX12_readCarrier_80 rfl h (fun h => ?_) (fun h => ?_)
  · refine J_iconst (v := (1 : Int32)) hX dX12_readCarrier_87 (by decide) ?_
    refine J_sub [0, 1, 2] rfl ?_
    exact tM_readCarrier_88 hX hw hg hR hr v1 v2 (1 : Int32) (σ.1 0 7) σ h
  · refine J_iconst (v := (0 : Int32)) hX dX12_readCarrier_83 (by decide) ?_
    refine J_goto (tgt := 88) hX dX12_readCarrier_84 rfl ?_
    refine J_sub [0, 1, 2] rfl ?_
    exact tM_readCarrier_88 hX hw hg hR hr v1 v2 (0 : Int32) (σ.1 0 7) σ h

def rM_readCarrier_55 (k33 : Int32 → Int32 → Int32 → St → Option (St)) (v1 : Int32) (v3 : Int32) (s0 : Int32) (σ : St) : Option (St) :=
  nm s0 fun v2_27 => nm (v3 + Int32.ofInt 1) fun v3_28 => k33 v1 v2_27 v3_28 σ
set_option maxRecDepth 100000 in
theorem tM_readCarrier_55 {X : CX} (hX : gd X cX12_readCarrier 4 RX12 none) (hw : (xw X).1 = mLy) (hg : nA X) (hR : xR X = rmOf 4 87 0 0) {τ : St} (hr : xr X = (none, τ)) {k33 : Int32 → Int32 → Int32 → St → Option (St)} (hk33 : (∀ (v1 : Int32) (v2 : Int32) (v3 : Int32) (σ : St), k33 v1 v2 v3 σ = some τ → Jd X 4 33 [(0, .ref (wad (xw X) 0)), (1, .int v1), (2, .int v2), (3, .int v3)] [] σ)) (v1 : Int32) (v3 : Int32) (s0 : Int32) (σ : St) (h : rM_readCarrier_55 k33 v1 v3 s0 σ = some τ) : Jd X 4 55 [(0, .ref (wad (xw X) 0)), (1, .int v1), (3, .int v3)] [.int s0] σ := by
  unfold rM_readCarrier_55 at h
  refine K_istore_n (fun v2_27 => [(2, .int v2_27), (0, .ref (wad (xw X) 0)), (1, .int v1), (3, .int v3)]) hX dX12_readCarrier_55 rfl (by decide) (fun _ => rfl) h (fun v2_27 h => ?_)
  refine K_iinc (q := 3) (fun v3_28 => [(3, .int v3_28), (2, .int v2_27), (0, .ref (wad (xw X) 0)), (1, .int v1)]) hX dX12_readCarrier_56 rfl (by decide) (fun _ => rfl) h (fun v3_28 h => ?_)
  refine J_goto (tgt := 33) hX dX12_readCarrier_59 rfl ?_
  refine J_sub [2, 3, 1, 0] rfl ?_
  exact hk33 v1 v2_27 v3_28 σ h

def rM_readCarrier_33 (k33 : Int32 → Int32 → Int32 → St → Option (St)) (v1 : Int32) (v2 : Int32) (v3 : Int32) (σ : St) : Option (St) :=
  brc ((6 : Int32) ≤ v3) (brc (0 ≤ v2) (rM_readCarrier_71 v1 v2 σ) (bnd1 (rM_wrong (1 : Int32) σ) fun σ_22 => rM_readCarrier_71 v1 v2 σ_22)) (bnd2 (rM_isWord ((16 : Int32) + v3) σ) fun r_26 σ_24 => brc (r_26 = 0) (rM_readCarrier_55 k33 v1 v3 v2 σ_24) (rM_readCarrier_55 k33 v1 v3 v3 σ_24))
set_option maxRecDepth 100000 in
theorem tM_readCarrier_33b {X : CX} (hX : gd X cX12_readCarrier 4 RX12 none) (hw : (xw X).1 = mLy) (hg : nA X) (hR : xR X = rmOf 4 87 0 0) {τ : St} (hr : xr X = (none, τ)) {k33 : Int32 → Int32 → Int32 → St → Option (St)} (hk33 : (∀ (v1 : Int32) (v2 : Int32) (v3 : Int32) (σ : St), k33 v1 v2 v3 σ = some τ → Jd X 4 33 [(0, .ref (wad (xw X) 0)), (1, .int v1), (2, .int v2), (3, .int v3)] [] σ)) (v1 : Int32) (v2 : Int32) (v3 : Int32) (σ : St) (h : rM_readCarrier_33 k33 v1 v2 v3 σ = some τ) : Jd X 4 33 [(0, .ref (wad (xw X) 0)), (1, .int v1), (2, .int v2), (3, .int v3)] [] σ := by
  unfold rM_readCarrier_33 at h
  refine J_iload_n (q := 3) hX dX12_readCarrier_33 rfl rfl ?_
  refine J_bipush (v := (6 : Int32)) hX dX12_readCarrier_34 (by decide) ?_
  refine K_icmp_ge (tgt := 62) hX dX12_readCarrier_36 rfl h (fun h => ?_) (fun h => ?_)
  · refine J_iload_n (q := 2) hX dX12_readCarrier_62 rfl rfl ?_
    refine K_if_ge (tgt := 71) hX dX12_readCarrier_63 rfl h (fun h => ?_) (fun h => ?_)
    · refine J_sub [0, 1, 2] rfl ?_
      exact tM_readCarrier_71 hX hw hg hR hr v1 v2 σ h
    · refine J_aload_n (q := 0) hX dX12_readCarrier_66 rfl rfl ?_
      refine J_iconst (v := (1 : Int32)) hX dX12_readCarrier_67 (by decide) ?_
      obtain ⟨σ_22, hc_23, h⟩ := bnd1_some h
      refine K_callV [.int (1 : Int32)] hX hg hR (ctM_wrong hw hc_23) lk_X12_197_X12_wrong md_X12_wrong (mc_0 hw) cls_X12 ⟨by decide, by decide⟩ rfl rfl (Nat.le_of_ble_eq_true rfl) dX12_readCarrier_68 ?_
      refine J_sub [0, 1, 2] rfl ?_
      exact tM_readCarrier_71 hX hw hg hR hr v1 v2 σ_22 h
  · refine J_aload_n (q := 0) hX dX12_readCarrier_39 rfl rfl ?_
    refine J_bipush (v := (16 : Int32)) hX dX12_readCarrier_40 (by decide) ?_
    refine J_iload_n (q := 3) hX dX12_readCarrier_42 rfl rfl ?_
    refine J_iadd hX dX12_readCarrier_43 ?_
    obtain ⟨r_26, σ_24, hc_25, h⟩ := bnd2_some h
    refine K_callV [.int ((16 : Int32) + v3)] hX hg hR (ctM_isWord hw hc_25) lk_X12_200_X12_isWord md_X12_isWord (mc_0 hw) cls_X12 ⟨by decide, by decide⟩ rfl rfl (Nat.le_of_ble_eq_true rfl) dX12_readCarrier_44 ?_
    refine K_if_eq (tgt := 54) hX dX12_readCarrier_47 rfl h (fun h => ?_) (fun h => ?_)
    · refine J_iload_n (q := 2) hX dX12_readCarrier_54 rfl rfl ?_
      refine J_sub [0, 1, 3] rfl ?_
      exact tM_readCarrier_55 hX hw hg hR hr hk33 v1 v3 v2 σ_24 h
    · refine J_iload_n (q := 3) hX dX12_readCarrier_50 rfl rfl ?_
      refine J_goto (tgt := 55) hX dX12_readCarrier_51 rfl ?_
      refine J_sub [0, 1, 3] rfl ?_
      exact tM_readCarrier_55 hX hw hg hR hr hk33 v1 v3 v3 σ_24 h
def rM_readCarrier_33L : ((Int32 × Int32 × Int32 × St) → Option (St)) → (Int32 × Int32 × Int32 × St) → Option (St) := fun k a => rM_readCarrier_33 (fun v1 v2 v3 σ => k (v1, v2, v3, σ)) a.1 a.2.1 a.2.2.1 a.2.2.2
theorem tM_readCarrier_33 {X : CX} (hX : gd X cX12_readCarrier 4 RX12 none) (hw : (xw X).1 = mLy) (hg : nA X) (hR : xR X = rmOf 4 87 0 0) {τ : St} (hr : xr X = (none, τ)) (n : Nat) (v1 : Int32) (v2 : Int32) (v3 : Int32) (σ : St) (h : lp (rM_readCarrier_33L) n (v1, v2, v3, σ) = some τ) : Jd X 4 33 [(0, .ref (wad (xw X) 0)), (1, .int v1), (2, .int v2), (3, .int v3)] [] σ :=
  lp_ind (F := rM_readCarrier_33L) (P := fun a => Jd X 4 33 [(0, .ref (wad (xw X) 0)), (1, .int a.1), (2, .int a.2.1), (3, .int a.2.2.1)] [] a.2.2.2) (fun k a hk h => tM_readCarrier_33b hX hw hg hR hr (fun v1 v2 v3 σ h => hk (v1, v2, v3, σ) h) a.1 a.2.1 a.2.2.1 a.2.2.2 h) n (v1, v2, v3, σ) h

def rM_readCarrier (σ : St) : Option (St) :=
  chk (ib (162 : Int32) 320) (nm (σ.1 6 (162 : Int32).toNatClampNeg) fun v1_1 => brc (¬ v1_1 = (6 : Int32)) (bnd1 (rM_readName ((7 : Int32) + v1_1) σ) fun σ_2 => nm (-1 : Int32) fun v2_4 => nm (0 : Int32) fun v3_5 => lp (rM_readCarrier_33L) fu (v1_1, v2_4, v3_5, σ_2)) (bnd1 (rM_wrong (5 : Int32) σ) fun σ_29 => some σ_29))
set_option maxRecDepth 100000 in
theorem tM_readCarrier {X : CX} (hX : gd X cX12_readCarrier 4 RX12 none) (hw : (xw X).1 = mLy) (hg : nA X) (hR : xR X = rmOf 4 87 0 0) {τ : St} (hr : xr X = (none, τ)) (σ : St) (h : rM_readCarrier σ = some τ) : Jd X 4 0 [(0, .ref (wad (xw X) 0))] [] σ := by
  unfold rM_readCarrier at h
  refine J_aload_n (q := 0) hX dX12_readCarrier_0 rfl rfl ?_
  refine K_getc 6 hX (mc_0 hw) cls_X12 (k := 10) (by decide) uw_6_57 rfl dX12_readCarrier_1 ?_
  refine J_sipush (v := (162 : Int32)) hX dX12_readCarrier_4 (by decide) ?_
  refine K_iald hX (mc_6 hw) dX12_readCarrier_7 h (fun h => ?_)
  refine K_istore_n (fun v1_1 => [(1, .int v1_1), (0, .ref (wad (xw X) 0))]) hX dX12_readCarrier_8 rfl (by decide) (fun _ => rfl) h (fun v1_1 h => ?_)
  refine J_iload_n (q := 0) hX dX12_readCarrier_9 rfl rfl ?_
  refine J_bipush (v := (6 : Int32)) hX dX12_readCarrier_10 (by decide) ?_
  refine K_icmp_ne (tgt := 21) hX dX12_readCarrier_12 rfl h (fun h => ?_) (fun h => ?_)
  · refine J_aload_n (q := 1) hX dX12_readCarrier_21 rfl rfl ?_
    refine J_bipush (v := (7 : Int32)) hX dX12_readCarrier_22 (by decide) ?_
    refine J_iload_n (q := 0) hX dX12_readCarrier_24 rfl rfl ?_
    refine J_iadd hX dX12_readCarrier_25 ?_
    obtain ⟨σ_2, hc_3, h⟩ := bnd1_some h
    refine K_callV [.int ((7 : Int32) + v1_1)] hX hg hR (ctM_readName hw hc_3) lk_X12_263_X12_readName md_X12_readName (mc_0 hw) cls_X12 ⟨by decide, by decide⟩ rfl rfl (Nat.le_of_ble_eq_true rfl) dX12_readCarrier_26 ?_
    refine J_iconst (v := (-1 : Int32)) hX dX12_readCarrier_29 (by decide) ?_
    refine K_istore_n (fun v2_4 => [(2, .int v2_4), (1, .int v1_1), (0, .ref (wad (xw X) 0))]) hX dX12_readCarrier_30 rfl (by decide) (fun _ => rfl) h (fun v2_4 h => ?_)
    refine J_iconst (v := (0 : Int32)) hX dX12_readCarrier_31 (by decide) ?_
    refine K_istore_n (fun v3_5 => [(3, .int v3_5), (2, .int v2_4), (1, .int v1_1), (0, .ref (wad (xw X) 0))]) hX dX12_readCarrier_32 rfl (by decide) (fun _ => rfl) h (fun v3_5 h => ?_)
    refine J_sub [3, 2, 1, 0] rfl ?_
    exact tM_readCarrier_33 hX hw hg hR hr fu v1_1 v2_4 v3_5 σ_2 h
  · refine J_aload_n (q := 1) hX dX12_readCarrier_15 rfl rfl ?_
    refine J_iconst (v := (5 : Int32)) hX dX12_readCarrier_16 (by decide) ?_
    obtain ⟨σ_29, hc_30, h⟩ := bnd1_some h
    refine K_callV [.int (5 : Int32)] hX hg hR (ctM_wrong hw hc_30) lk_X12_197_X12_wrong md_X12_wrong (mc_0 hw) cls_X12 ⟨by decide, by decide⟩ rfl rfl (Nat.le_of_ble_eq_true rfl) dX12_readCarrier_17 ?_
    exact K_vret hX hr dX12_readCarrier_20 h
theorem ctM_readCarrier {w : WT} (hw : w.1 = mLy) {σ : St} {τ : St} (h : rM_readCarrier σ = some τ) : Ct yX12_readCarrier cX12_readCarrier 4 none 4 87 w [.ref (wad w 0)] σ none τ 0 0 :=
  Ct_intro (fun _ => (0, 0)) (by decide) rfl ⟨rfl, Nat.le_refl _⟩ (Nat.le_of_ble_eq_true rfl) (fun X hX hR hwX hg hr => by subst hwX; exact tM_readCarrier hX hw hg hR hr  σ h)

def rM_trip_32 (σ : St) : Option (Int32 × St) :=
  some ((-1 : Int32), σ)
set_option maxRecDepth 100000 in
theorem tM_trip_32 {X : CX} (hX : gd X cX12_trip 5 RX12 (some .int)) (hw : (xw X).1 = mLy) (hg : nA X) (hR : xR X = rmOf 4 93 0 0) {r : Int32} {τ : St} (hr : xr X = (some (.int r), τ)) (σ : St) (h : rM_trip_32 σ = some (r, τ)) : Jd X 5 32 [] [] σ := by
  unfold rM_trip_32 at h
  refine J_iconst (v := (-1 : Int32)) hX dX12_trip_32 (by decide) ?_
  exact K_iret hX hr dX12_trip_33 h

def rM_trip_83 (s0 : Int32) (σ : St) : Option (Int32 × St) :=
  some (s0, σ)
set_option maxRecDepth 100000 in
theorem tM_trip_83 {X : CX} (hX : gd X cX12_trip 5 RX12 (some .int)) (hw : (xw X).1 = mLy) (hg : nA X) (hR : xR X = rmOf 4 93 0 0) {r : Int32} {τ : St} (hr : xr X = (some (.int r), τ)) (s0 : Int32) (σ : St) (h : rM_trip_83 s0 σ = some (r, τ)) : Jd X 5 83 [] [.int s0] σ := by
  unfold rM_trip_83 at h
  exact K_iret hX hr dX12_trip_83 h

def rM_trip (v1 : Int32) (v2 : Int32) (v3 : Int32) (v4 : Int32) (σ : St) : Option (Int32 × St) :=
  nm (setI σ 0 0 (0 : Int32)) fun σ_1 => bnd2 (rM_canCarry v1 v3 σ_1) fun r_4 σ_2 => brc (r_4 = 0) (rM_trip_32 σ_2) (bnd2 (rM_isPath v2 σ_2) fun r_7 σ_5 => brc (r_7 = 0) (rM_trip_32 σ_5) (bnd2 (rM_within v4 (0 : Int32) (3 : Int32) σ_5) fun r_10 σ_8 => brc (¬ r_10 = 0) (bnd1 (rM_goesTrip v1 v2 v3 σ_8) fun σ_11 => brc (¬ v4 = 0) (brc (¬ v4 = (1 : Int32)) (brc (¬ v4 = (2 : Int32)) (rM_trip_83 (σ_11.1 0 33) σ_11) (rM_trip_83 (σ_11.1 0 32) σ_11)) (rM_trip_83 (σ_11.1 0 31) σ_11)) (rM_trip_83 (σ_11.1 0 30) σ_11)) (rM_trip_32 σ_8)))
set_option maxRecDepth 100000 in
theorem tM_trip {X : CX} (hX : gd X cX12_trip 5 RX12 (some .int)) (hw : (xw X).1 = mLy) (hg : nA X) (hR : xR X = rmOf 4 93 0 0) {r : Int32} {τ : St} (hr : xr X = (some (.int r), τ)) (v1 : Int32) (v2 : Int32) (v3 : Int32) (v4 : Int32) (σ : St) (h : rM_trip v1 v2 v3 v4 σ = some (r, τ)) : Jd X 5 0 [(0, .ref (wad (xw X) 0)), (1, .int v1), (2, .int v2), (3, .int v3), (4, .int v4)] [] σ := by
  unfold rM_trip at h
  refine J_aload_n (q := 0) hX dX12_trip_0 rfl rfl ?_
  refine J_iconst (v := (0 : Int32)) hX dX12_trip_1 (by decide) ?_
  refine K_puti hX (mc_0 hw) cls_X12 (k := 0) (by decide) uw_6_47 rfl rfl rfl dX12_trip_2 h (fun σ_1 h => ?_)
  refine J_aload_n (q := 0) hX dX12_trip_5 rfl rfl ?_
  refine J_iload_n (q := 1) hX dX12_trip_6 rfl rfl ?_
  refine J_iload_n (q := 3) hX dX12_trip_7 rfl rfl ?_
  obtain ⟨r_4, σ_2, hc_3, h⟩ := bnd2_some h
  refine K_callV [.int v1, .int v3] hX hg hR (ctM_canCarry hw hc_3) lk_X12_379_X12_canCarry md_X12_canCarry (mc_0 hw) cls_X12 ⟨by decide, by decide⟩ rfl rfl (Nat.le_of_ble_eq_true rfl) dX12_trip_8 ?_
  refine K_if_eq (tgt := 32) hX dX12_trip_11 rfl h (fun h => ?_) (fun h => ?_)
  · refine J_sub [] rfl ?_
    exact tM_trip_32 hX hw hg hR hr σ_2 h
  · refine J_aload_n (q := 0) hX dX12_trip_14 rfl rfl ?_
    refine J_iload_n (q := 2) hX dX12_trip_15 rfl rfl ?_
    obtain ⟨r_7, σ_5, hc_6, h⟩ := bnd2_some h
    refine K_callV [.int v2] hX hg hR (ctM_isPath hw hc_6) lk_X12_376_X12_isPath md_X12_isPath (mc_0 hw) cls_X12 ⟨by decide, by decide⟩ rfl rfl (Nat.le_of_ble_eq_true rfl) dX12_trip_16 ?_
    refine K_if_eq (tgt := 32) hX dX12_trip_19 rfl h (fun h => ?_) (fun h => ?_)
    · refine J_sub [] rfl ?_
      exact tM_trip_32 hX hw hg hR hr σ_5 h
    · refine J_iload (q := 4) hX dX12_trip_22 rfl ?_
      refine J_iconst (v := (0 : Int32)) hX dX12_trip_24 (by decide) ?_
      refine J_iconst (v := (3 : Int32)) hX dX12_trip_25 (by decide) ?_
      obtain ⟨r_10, σ_8, hc_9, h⟩ := bnd2_some h
      refine K_callS [.int v4, .int (0 : Int32), .int (3 : Int32)] hX hg hR (ctM_within hw hc_9) lk_X12_372_X12_within md_X12_within ⟨by decide, by decide⟩ rfl rfl (Nat.le_of_ble_eq_true rfl) dX12_trip_26 ?_
      refine K_if_ne (tgt := 34) hX dX12_trip_29 rfl h (fun h => ?_) (fun h => ?_)
      · refine J_aload_n (q := 0) hX dX12_trip_34 rfl rfl ?_
        refine J_iload_n (q := 1) hX dX12_trip_35 rfl rfl ?_
        refine J_iload_n (q := 2) hX dX12_trip_36 rfl rfl ?_
        refine J_iload_n (q := 3) hX dX12_trip_37 rfl rfl ?_
        obtain ⟨σ_11, hc_12, h⟩ := bnd1_some h
        refine K_callV [.int v1, .int v2, .int v3] hX hg hR (ctM_goesTrip hw hc_12) lk_X12_383_X12_goesTrip md_X12_goesTrip (mc_0 hw) cls_X12 ⟨by decide, by decide⟩ rfl rfl (Nat.le_of_ble_eq_true rfl) dX12_trip_38 ?_
        refine J_iload (q := 4) hX dX12_trip_41 rfl ?_
        refine K_if_ne (tgt := 53) hX dX12_trip_43 rfl h (fun h => ?_) (fun h => ?_)
        · refine J_iload (q := 4) hX dX12_trip_53 rfl ?_
          refine J_iconst (v := (1 : Int32)) hX dX12_trip_55 (by decide) ?_
          refine K_icmp_ne (tgt := 66) hX dX12_trip_56 rfl h (fun h => ?_) (fun h => ?_)
          · refine J_iload (q := 4) hX dX12_trip_66 rfl ?_
            refine J_iconst (v := (2 : Int32)) hX dX12_trip_68 (by decide) ?_
            refine K_icmp_ne (tgt := 79) hX dX12_trip_69 rfl h (fun h => ?_) (fun h => ?_)
            · refine J_aload_n (q := 0) hX dX12_trip_79 rfl rfl ?_
              refine K_geti hX (mc_0 hw) cls_X12 (k := 33) (by decide) uw_6_80 rfl dX12_trip_80 ?_
              refine J_sub [] rfl ?_
              exact tM_trip_83 hX hw hg hR hr (σ_11.1 0 33) σ_11 h
            · refine J_aload_n (q := 0) hX dX12_trip_72 rfl rfl ?_
              refine K_geti hX (mc_0 hw) cls_X12 (k := 32) (by decide) uw_6_79 rfl dX12_trip_73 ?_
              refine J_goto (tgt := 83) hX dX12_trip_76 rfl ?_
              refine J_sub [] rfl ?_
              exact tM_trip_83 hX hw hg hR hr (σ_11.1 0 32) σ_11 h
          · refine J_aload_n (q := 0) hX dX12_trip_59 rfl rfl ?_
            refine K_geti hX (mc_0 hw) cls_X12 (k := 31) (by decide) uw_6_78 rfl dX12_trip_60 ?_
            refine J_goto (tgt := 83) hX dX12_trip_63 rfl ?_
            refine J_sub [] rfl ?_
            exact tM_trip_83 hX hw hg hR hr (σ_11.1 0 31) σ_11 h
        · refine J_aload_n (q := 0) hX dX12_trip_46 rfl rfl ?_
          refine K_geti hX (mc_0 hw) cls_X12 (k := 30) (by decide) uw_6_77 rfl dX12_trip_47 ?_
          refine J_goto (tgt := 83) hX dX12_trip_50 rfl ?_
          refine J_sub [] rfl ?_
          exact tM_trip_83 hX hw hg hR hr (σ_11.1 0 30) σ_11 h
      · refine J_sub [] rfl ?_
        exact tM_trip_32 hX hw hg hR hr σ_8 h
theorem ctM_trip {w : WT} (hw : w.1 = mLy) {v1 : Int32} {v2 : Int32} {v3 : Int32} {v4 : Int32} {σ : St} {r : Int32} {τ : St} (h : rM_trip v1 v2 v3 v4 σ = some (r, τ)) : Ct yX12_trip cX12_trip 5 (some .int) 4 93 w [.ref (wad w 0), .int v1, .int v2, .int v3, .int v4] σ (some (.int r)) τ 0 0 :=
  Ct_intro (fun _ => (0, 0)) (by decide) rfl ⟨rfl, Nat.le_refl _⟩ (Nat.le_of_ble_eq_true rfl) (fun X hX hR hwX hg hr => by subst hwX; exact tM_trip hX hw hg hR hr v1 v2 v3 v4 σ h)

def rM_findBest_82 (s0 : Int32) (σ : St) : Option (Int32 × St) :=
  chk (decide (s0 = 0 ∨ s0 = 1)) (some (s0, σ))
set_option maxRecDepth 100000 in
theorem tM_findBest_82 {X : CX} (hX : gd X cX12_findBest 4 RX12 (some .boolean)) (hw : (xw X).1 = mLy) (hg : nA X) (hR : xR X = rmOf 4 93 0 0) {r : Int32} {τ : St} (hr : xr X = (some (.int r), τ)) (s0 : Int32) (σ : St) (h : rM_findBest_82 s0 σ = some (r, τ)) : Jd X 4 82 [] [.int s0] σ := by
  unfold rM_findBest_82 at h
  exact K_zret hX hr dX12_findBest_82 h

def rM_findBest_64 (k12 : Int32 → Int32 → Int32 → St → Option (Int32 × St)) (v1 : Int32) (v2 : Int32) (v3 : Int32) (σ : St) : Option (Int32 × St) :=
  nm (v3 + Int32.ofInt 1) fun v3_6 => k12 v1 v2 v3_6 σ
set_option maxRecDepth 100000 in
theorem tM_findBest_64 {X : CX} (hX : gd X cX12_findBest 4 RX12 (some .boolean)) (hw : (xw X).1 = mLy) (hg : nA X) (hR : xR X = rmOf 4 93 0 0) {r : Int32} {τ : St} (hr : xr X = (some (.int r), τ)) {k12 : Int32 → Int32 → Int32 → St → Option (Int32 × St)} (hk12 : (∀ (v1 : Int32) (v2 : Int32) (v3 : Int32) (σ : St), k12 v1 v2 v3 σ = some (r, τ) → Jd X 4 12 [(0, .ref (wad (xw X) 0)), (1, .int v1), (2, .int v2), (3, .int v3)] [] σ)) (v1 : Int32) (v2 : Int32) (v3 : Int32) (σ : St) (h : rM_findBest_64 k12 v1 v2 v3 σ = some (r, τ)) : Jd X 4 64 [(0, .ref (wad (xw X) 0)), (1, .int v1), (2, .int v2), (3, .int v3)] [] σ := by
  unfold rM_findBest_64 at h
  refine K_iinc (q := 3) (fun v3_6 => [(3, .int v3_6), (0, .ref (wad (xw X) 0)), (1, .int v1), (2, .int v2)]) hX dX12_findBest_64 rfl (by decide) (fun _ => rfl) h (fun v3_6 h => ?_)
  refine J_goto (tgt := 12) hX dX12_findBest_67 rfl ?_
  refine J_sub [1, 2, 3, 0] rfl ?_
  exact hk12 v1 v2 v3_6 σ h

def rM_findBest_12 (k12 : Int32 → Int32 → Int32 → St → Option (Int32 × St)) (v1 : Int32) (v2 : Int32) (v3 : Int32) (σ : St) : Option (Int32 × St) :=
  brc ((σ.1 0 27) ≤ v3) (brc ((σ.1 0 34) < 0) (rM_findBest_82 (0 : Int32) σ) (rM_findBest_82 (1 : Int32) σ)) (bnd1 (rM_goesTrip v1 v3 v2 σ) fun σ_4 => chk (ib (5 : Int32) 320) (brc ((σ_4.1 6 (5 : Int32).toNatClampNeg) < (σ_4.1 0 31)) (rM_findBest_64 k12 v1 v2 v3 σ_4) (brc ((σ_4.1 0 30) ≤ (σ_4.1 0 35)) (rM_findBest_64 k12 v1 v2 v3 σ_4) (nm (setI σ_4 0 35 (σ_4.1 0 30)) fun σ_7 => nm (setI σ_7 0 34 v3) fun σ_8 => rM_findBest_64 k12 v1 v2 v3 σ_8))))
set_option maxRecDepth 100000 in
theorem tM_findBest_12b {X : CX} (hX : gd X cX12_findBest 4 RX12 (some .boolean)) (hw : (xw X).1 = mLy) (hg : nA X) (hR : xR X = rmOf 4 93 0 0) {r : Int32} {τ : St} (hr : xr X = (some (.int r), τ)) {k12 : Int32 → Int32 → Int32 → St → Option (Int32 × St)} (hk12 : (∀ (v1 : Int32) (v2 : Int32) (v3 : Int32) (σ : St), k12 v1 v2 v3 σ = some (r, τ) → Jd X 4 12 [(0, .ref (wad (xw X) 0)), (1, .int v1), (2, .int v2), (3, .int v3)] [] σ)) (v1 : Int32) (v2 : Int32) (v3 : Int32) (σ : St) (h : rM_findBest_12 k12 v1 v2 v3 σ = some (r, τ)) : Jd X 4 12 [(0, .ref (wad (xw X) 0)), (1, .int v1), (2, .int v2), (3, .int v3)] [] σ := by
  unfold rM_findBest_12 at h
  refine J_iload_n (q := 3) hX dX12_findBest_12 rfl rfl ?_
  refine J_aload_n (q := 0) hX dX12_findBest_13 rfl rfl ?_
  refine K_geti hX (mc_0 hw) cls_X12 (k := 27) (by decide) uw_6_74 rfl dX12_findBest_14 ?_
  refine K_icmp_ge (tgt := 70) hX dX12_findBest_17 rfl h (fun h => ?_) (fun h => ?_)
  · refine J_aload_n (q := 0) hX dX12_findBest_70 rfl rfl ?_
    refine K_geti hX (mc_0 hw) cls_X12 (k := 34) (by decide) uw_6_81 rfl dX12_findBest_71 ?_
    refine K_if_lt (tgt := 81) hX dX12_findBest_74 rfl h (fun h => ?_) (fun h => ?_)
    · refine J_iconst (v := (0 : Int32)) hX dX12_findBest_81 (by decide) ?_
      refine J_sub [] rfl ?_
      exact tM_findBest_82 hX hw hg hR hr (0 : Int32) σ h
    · refine J_iconst (v := (1 : Int32)) hX dX12_findBest_77 (by decide) ?_
      refine J_goto (tgt := 82) hX dX12_findBest_78 rfl ?_
      refine J_sub [] rfl ?_
      exact tM_findBest_82 hX hw hg hR hr (1 : Int32) σ h
  · refine J_aload_n (q := 0) hX dX12_findBest_20 rfl rfl ?_
    refine J_iload_n (q := 1) hX dX12_findBest_21 rfl rfl ?_
    refine J_iload_n (q := 3) hX dX12_findBest_22 rfl rfl ?_
    refine J_iload_n (q := 2) hX dX12_findBest_23 rfl rfl ?_
    obtain ⟨σ_4, hc_5, h⟩ := bnd1_some h
    refine K_callV [.int v1, .int v3, .int v2] hX hg hR (ctM_goesTrip hw hc_5) lk_X12_383_X12_goesTrip md_X12_goesTrip (mc_0 hw) cls_X12 ⟨by decide, by decide⟩ rfl rfl (Nat.le_of_ble_eq_true rfl) dX12_findBest_24 ?_
    refine J_aload_n (q := 0) hX dX12_findBest_27 rfl rfl ?_
    refine K_geti hX (mc_0 hw) cls_X12 (k := 31) (by decide) uw_6_78 rfl dX12_findBest_28 ?_
    refine J_aload_n (q := 0) hX dX12_findBest_31 rfl rfl ?_
    refine K_getc 6 hX (mc_0 hw) cls_X12 (k := 10) (by decide) uw_6_57 rfl dX12_findBest_32 ?_
    refine J_iconst (v := (5 : Int32)) hX dX12_findBest_35 (by decide) ?_
    refine K_iald hX (mc_6 hw) dX12_findBest_36 h (fun h => ?_)
    refine K_icmp_gt (tgt := 64) hX dX12_findBest_37 rfl h (fun h => ?_) (fun h => ?_)
    · refine J_sub [0, 1, 2, 3] rfl ?_
      exact tM_findBest_64 hX hw hg hR hr hk12 v1 v2 v3 σ_4 h
    · refine J_aload_n (q := 0) hX dX12_findBest_40 rfl rfl ?_
      refine K_geti hX (mc_0 hw) cls_X12 (k := 30) (by decide) uw_6_77 rfl dX12_findBest_41 ?_
      refine J_aload_n (q := 0) hX dX12_findBest_44 rfl rfl ?_
      refine K_geti hX (mc_0 hw) cls_X12 (k := 35) (by decide) uw_6_82 rfl dX12_findBest_45 ?_
      refine K_icmp_le (tgt := 64) hX dX12_findBest_48 rfl h (fun h => ?_) (fun h => ?_)
      · refine J_sub [0, 1, 2, 3] rfl ?_
        exact tM_findBest_64 hX hw hg hR hr hk12 v1 v2 v3 σ_4 h
      · refine J_aload_n (q := 0) hX dX12_findBest_51 rfl rfl ?_
        refine J_aload_n (q := 0) hX dX12_findBest_52 rfl rfl ?_
        refine K_geti hX (mc_0 hw) cls_X12 (k := 30) (by decide) uw_6_77 rfl dX12_findBest_53 ?_
        refine K_puti hX (mc_0 hw) cls_X12 (k := 35) (by decide) uw_6_82 rfl rfl rfl dX12_findBest_56 h (fun σ_7 h => ?_)
        refine J_aload_n (q := 0) hX dX12_findBest_59 rfl rfl ?_
        refine J_iload_n (q := 3) hX dX12_findBest_60 rfl rfl ?_
        refine K_puti hX (mc_0 hw) cls_X12 (k := 34) (by decide) uw_6_81 rfl rfl rfl dX12_findBest_61 h (fun σ_8 h => ?_)
        refine J_sub [0, 1, 2, 3] rfl ?_
        exact tM_findBest_64 hX hw hg hR hr hk12 v1 v2 v3 σ_8 h
def rM_findBest_12L : ((Int32 × Int32 × Int32 × St) → Option (Int32 × St)) → (Int32 × Int32 × Int32 × St) → Option (Int32 × St) := fun k a => rM_findBest_12 (fun v1 v2 v3 σ => k (v1, v2, v3, σ)) a.1 a.2.1 a.2.2.1 a.2.2.2
theorem tM_findBest_12 {X : CX} (hX : gd X cX12_findBest 4 RX12 (some .boolean)) (hw : (xw X).1 = mLy) (hg : nA X) (hR : xR X = rmOf 4 93 0 0) {r : Int32} {τ : St} (hr : xr X = (some (.int r), τ)) (n : Nat) (v1 : Int32) (v2 : Int32) (v3 : Int32) (σ : St) (h : lp (rM_findBest_12L) n (v1, v2, v3, σ) = some (r, τ)) : Jd X 4 12 [(0, .ref (wad (xw X) 0)), (1, .int v1), (2, .int v2), (3, .int v3)] [] σ :=
  lp_ind (F := rM_findBest_12L) (P := fun a => Jd X 4 12 [(0, .ref (wad (xw X) 0)), (1, .int a.1), (2, .int a.2.1), (3, .int a.2.2.1)] [] a.2.2.2) (fun k a hk h => tM_findBest_12b hX hw hg hR hr (fun v1 v2 v3 σ h => hk (v1, v2, v3, σ) h) a.1 a.2.1 a.2.2.1 a.2.2.2 h) n (v1, v2, v3, σ) h

def rM_findBest (v1 : Int32) (v2 : Int32) (σ : St) : Option (Int32 × St) :=
  nm (setI σ 0 34 (-1 : Int32)) fun σ_1 => nm (setI σ_1 0 35 (-1 : Int32)) fun σ_2 => nm (0 : Int32) fun v3_3 => lp (rM_findBest_12L) fu (v1, v2, v3_3, σ_2)
set_option maxRecDepth 100000 in
theorem tM_findBest {X : CX} (hX : gd X cX12_findBest 4 RX12 (some .boolean)) (hw : (xw X).1 = mLy) (hg : nA X) (hR : xR X = rmOf 4 93 0 0) {r : Int32} {τ : St} (hr : xr X = (some (.int r), τ)) (v1 : Int32) (v2 : Int32) (σ : St) (h : rM_findBest v1 v2 σ = some (r, τ)) : Jd X 4 0 [(0, .ref (wad (xw X) 0)), (1, .int v1), (2, .int v2)] [] σ := by
  unfold rM_findBest at h
  refine J_aload_n (q := 0) hX dX12_findBest_0 rfl rfl ?_
  refine J_iconst (v := (-1 : Int32)) hX dX12_findBest_1 (by decide) ?_
  refine K_puti hX (mc_0 hw) cls_X12 (k := 34) (by decide) uw_6_81 rfl rfl rfl dX12_findBest_2 h (fun σ_1 h => ?_)
  refine J_aload_n (q := 0) hX dX12_findBest_5 rfl rfl ?_
  refine J_iconst (v := (-1 : Int32)) hX dX12_findBest_6 (by decide) ?_
  refine K_puti hX (mc_0 hw) cls_X12 (k := 35) (by decide) uw_6_82 rfl rfl rfl dX12_findBest_7 h (fun σ_2 h => ?_)
  refine J_iconst (v := (0 : Int32)) hX dX12_findBest_10 (by decide) ?_
  refine K_istore_n (fun v3_3 => [(3, .int v3_3), (0, .ref (wad (xw X) 0)), (1, .int v1), (2, .int v2)]) hX dX12_findBest_11 rfl (by decide) (fun _ => rfl) h (fun v3_3 h => ?_)
  refine J_sub [1, 2, 3, 0] rfl ?_
  exact tM_findBest_12 hX hw hg hR hr fu v1 v2 v3_3 σ_2 h
theorem ctM_findBest {w : WT} (hw : w.1 = mLy) {v1 : Int32} {v2 : Int32} {σ : St} {r : Int32} {τ : St} (h : rM_findBest v1 v2 σ = some (r, τ)) : Ct yX12_findBest cX12_findBest 4 (some .boolean) 4 93 w [.ref (wad w 0), .int v1, .int v2] σ (some (.int r)) τ 0 0 :=
  Ct_intro (fun _ => (0, 0)) (by decide) rfl ⟨rfl, Nat.le_refl _⟩ (Nat.le_of_ble_eq_true rfl) (fun X hX hR hwX hg hr => by subst hwX; exact tM_findBest hX hw hg hR hr v1 v2 σ h)

def rM_best_32 (σ : St) : Option (Int32 × St) :=
  some ((-1 : Int32), σ)
set_option maxRecDepth 100000 in
theorem tM_best_32 {X : CX} (hX : gd X cX12_best 4 RX12 (some .int)) (hw : (xw X).1 = mLy) (hg : nA X) (hR : xR X = rmOf 5 116 0 0) {r : Int32} {τ : St} (hr : xr X = (some (.int r), τ)) (σ : St) (h : rM_best_32 σ = some (r, τ)) : Jd X 4 32 [] [] σ := by
  unfold rM_best_32 at h
  refine J_iconst (v := (-1 : Int32)) hX dX12_best_32 (by decide) ?_
  exact K_iret hX hr dX12_best_33 h

def rM_best_49 (s0 : Int32) (σ : St) : Option (Int32 × St) :=
  some (s0, σ)
set_option maxRecDepth 100000 in
theorem tM_best_49 {X : CX} (hX : gd X cX12_best 4 RX12 (some .int)) (hw : (xw X).1 = mLy) (hg : nA X) (hR : xR X = rmOf 5 116 0 0) {r : Int32} {τ : St} (hr : xr X = (some (.int r), τ)) (s0 : Int32) (σ : St) (h : rM_best_49 s0 σ = some (r, τ)) : Jd X 4 49 [] [.int s0] σ := by
  unfold rM_best_49 at h
  exact K_iret hX hr dX12_best_49 h

def rM_best (v1 : Int32) (v2 : Int32) (v3 : Int32) (σ : St) : Option (Int32 × St) :=
  nm (setI σ 0 0 (0 : Int32)) fun σ_1 => bnd2 (rM_canCarry v1 v2 σ_1) fun r_4 σ_2 => brc (r_4 = 0) (rM_best_32 σ_2) (bnd2 (rM_within v3 (0 : Int32) (1 : Int32) σ_2) fun r_7 σ_5 => brc (r_7 = 0) (rM_best_32 σ_5) (bnd2 (rM_findBest v1 v2 σ_5) fun r_10 σ_8 => brc (¬ r_10 = 0) (brc (¬ v3 = 0) (rM_best_49 (σ_8.1 0 35) σ_8) (rM_best_49 (σ_8.1 0 34) σ_8)) (rM_best_32 σ_8)))
set_option maxRecDepth 100000 in
theorem tM_best {X : CX} (hX : gd X cX12_best 4 RX12 (some .int)) (hw : (xw X).1 = mLy) (hg : nA X) (hR : xR X = rmOf 5 116 0 0) {r : Int32} {τ : St} (hr : xr X = (some (.int r), τ)) (v1 : Int32) (v2 : Int32) (v3 : Int32) (σ : St) (h : rM_best v1 v2 v3 σ = some (r, τ)) : Jd X 4 0 [(0, .ref (wad (xw X) 0)), (1, .int v1), (2, .int v2), (3, .int v3)] [] σ := by
  unfold rM_best at h
  refine J_aload_n (q := 0) hX dX12_best_0 rfl rfl ?_
  refine J_iconst (v := (0 : Int32)) hX dX12_best_1 (by decide) ?_
  refine K_puti hX (mc_0 hw) cls_X12 (k := 0) (by decide) uw_6_47 rfl rfl rfl dX12_best_2 h (fun σ_1 h => ?_)
  refine J_aload_n (q := 0) hX dX12_best_5 rfl rfl ?_
  refine J_iload_n (q := 1) hX dX12_best_6 rfl rfl ?_
  refine J_iload_n (q := 2) hX dX12_best_7 rfl rfl ?_
  obtain ⟨r_4, σ_2, hc_3, h⟩ := bnd2_some h
  refine K_callV [.int v1, .int v2] hX hg hR (ctM_canCarry hw hc_3) lk_X12_379_X12_canCarry md_X12_canCarry (mc_0 hw) cls_X12 ⟨by decide, by decide⟩ rfl rfl (Nat.le_of_ble_eq_true rfl) dX12_best_8 ?_
  refine K_if_eq (tgt := 32) hX dX12_best_11 rfl h (fun h => ?_) (fun h => ?_)
  · refine J_sub [] rfl ?_
    exact tM_best_32 hX hw hg hR hr σ_2 h
  · refine J_iload_n (q := 3) hX dX12_best_14 rfl rfl ?_
    refine J_iconst (v := (0 : Int32)) hX dX12_best_15 (by decide) ?_
    refine J_iconst (v := (1 : Int32)) hX dX12_best_16 (by decide) ?_
    obtain ⟨r_7, σ_5, hc_6, h⟩ := bnd2_some h
    refine K_callS [.int v3, .int (0 : Int32), .int (1 : Int32)] hX hg hR (ctM_within hw hc_6) lk_X12_372_X12_within md_X12_within ⟨by decide, by decide⟩ rfl rfl (Nat.le_of_ble_eq_true rfl) dX12_best_17 ?_
    refine K_if_eq (tgt := 32) hX dX12_best_20 rfl h (fun h => ?_) (fun h => ?_)
    · refine J_sub [] rfl ?_
      exact tM_best_32 hX hw hg hR hr σ_5 h
    · refine J_aload_n (q := 0) hX dX12_best_23 rfl rfl ?_
      refine J_iload_n (q := 1) hX dX12_best_24 rfl rfl ?_
      refine J_iload_n (q := 2) hX dX12_best_25 rfl rfl ?_
      obtain ⟨r_10, σ_8, hc_9, h⟩ := bnd2_some h
      refine K_callV [.int v1, .int v2] hX hg hR (ctM_findBest hw hc_9) lk_X12_412_X12_findBest md_X12_findBest (mc_0 hw) cls_X12 ⟨by decide, by decide⟩ rfl rfl (Nat.le_of_ble_eq_true rfl) dX12_best_26 ?_
      refine K_if_ne (tgt := 34) hX dX12_best_29 rfl h (fun h => ?_) (fun h => ?_)
      · refine J_iload_n (q := 3) hX dX12_best_34 rfl rfl ?_
        refine K_if_ne (tgt := 45) hX dX12_best_35 rfl h (fun h => ?_) (fun h => ?_)
        · refine J_aload_n (q := 0) hX dX12_best_45 rfl rfl ?_
          refine K_geti hX (mc_0 hw) cls_X12 (k := 35) (by decide) uw_6_82 rfl dX12_best_46 ?_
          refine J_sub [] rfl ?_
          exact tM_best_49 hX hw hg hR hr (σ_8.1 0 35) σ_8 h
        · refine J_aload_n (q := 0) hX dX12_best_38 rfl rfl ?_
          refine K_geti hX (mc_0 hw) cls_X12 (k := 34) (by decide) uw_6_81 rfl dX12_best_39 ?_
          refine J_goto (tgt := 49) hX dX12_best_42 rfl ?_
          refine J_sub [] rfl ?_
          exact tM_best_49 hX hw hg hR hr (σ_8.1 0 34) σ_8 h
      · refine J_sub [] rfl ?_
        exact tM_best_32 hX hw hg hR hr σ_8 h
theorem ctM_best {w : WT} (hw : w.1 = mLy) {v1 : Int32} {v2 : Int32} {v3 : Int32} {σ : St} {r : Int32} {τ : St} (h : rM_best v1 v2 v3 σ = some (r, τ)) : Ct yX12_best cX12_best 4 (some .int) 5 116 w [.ref (wad w 0), .int v1, .int v2, .int v3] σ (some (.int r)) τ 0 0 :=
  Ct_intro (fun _ => (0, 0)) (by decide) rfl ⟨rfl, Nat.le_refl _⟩ (Nat.le_of_ble_eq_true rfl) (fun X hX hR hwX hg hr => by subst hwX; exact tM_best hX hw hg hR hr v1 v2 v3 σ h)

def rM_findPlan_312 (k245 : Int32 → Int32 → St → Option (St)) (k255 : Int32 → Int32 → Int32 → St → Option (St)) (v1 : Int32) (v2 : Int32) (v3 : Int32) (σ : St) : Option (St) :=
  nm (v3 + Int32.ofInt 1) fun v3_16 => k255 v1 v2 v3_16 σ
set_option maxRecDepth 100000 in
theorem tM_findPlan_312 {X : CX} (hX : gd X cX12_findPlan 6 RX12 none) (hw : (xw X).1 = mLy) (hg : nA X) (hR : xR X = rmOf 5 116 0 0) {τ : St} (hr : xr X = (none, τ)) {k245 : Int32 → Int32 → St → Option (St)} (hk245 : (∀ (v1 : Int32) (v2 : Int32) (σ : St), k245 v1 v2 σ = some τ → Jd X 6 245 [(0, .ref (wad (xw X) 0)), (1, .int v1), (2, .int v2)] [] σ)) {k255 : Int32 → Int32 → Int32 → St → Option (St)} (hk255 : (∀ (v1 : Int32) (v2 : Int32) (v3 : Int32) (σ : St), k255 v1 v2 v3 σ = some τ → Jd X 6 255 [(0, .ref (wad (xw X) 0)), (1, .int v1), (2, .int v2), (3, .int v3)] [] σ)) (v1 : Int32) (v2 : Int32) (v3 : Int32) (σ : St) (h : rM_findPlan_312 k245 k255 v1 v2 v3 σ = some τ) : Jd X 6 312 [(0, .ref (wad (xw X) 0)), (1, .int v1), (2, .int v2), (3, .int v3)] [] σ := by
  unfold rM_findPlan_312 at h
  refine K_iinc (q := 3) (fun v3_16 => [(3, .int v3_16), (0, .ref (wad (xw X) 0)), (1, .int v1), (2, .int v2)]) hX dX12_findPlan_312 rfl (by decide) (fun _ => rfl) h (fun v3_16 h => ?_)
  refine J_goto (tgt := 255) hX dX12_findPlan_315 rfl ?_
  refine J_sub [1, 2, 3, 0] rfl ?_
  exact hk255 v1 v2 v3_16 σ h

def rM_findPlan_255 (k245 : Int32 → Int32 → St → Option (St)) (k255 : Int32 → Int32 → Int32 → St → Option (St)) (v1 : Int32) (v2 : Int32) (v3 : Int32) (σ : St) : Option (St) :=
  chk (ib (((121 : Int32) * v2) + v3) 726) (brc ((σ.1 20 (((121 : Int32) * v2) + v3).toNatClampNeg) < 0) (rM_findPlan_312 k245 k255 v1 v2 v3 σ) (chk (ib (((121 : Int32) * v2) + v3) 726) (chk (ib ((((201 : Int32) * (v2 + (1 : Int32))) + v1) - v3) 1407) (chk (ib (((201 : Int32) * v2) + v1) 1407) (brc (((σ.1 20 (((121 : Int32) * v2) + v3).toNatClampNeg) + (σ.1 21 ((((201 : Int32) * (v2 + (1 : Int32))) + v1) - v3).toNatClampNeg)) = (σ.1 21 (((201 : Int32) * v2) + v1).toNatClampNeg)) (chk (ib v2 6) (nm (setI σ 22 v2.toNatClampNeg v3) fun σ_17 => nm (v1 - v3) fun v1_18 => nm (v2 + Int32.ofInt 1) fun v2_19 => k245 v1_18 v2_19 σ_17)) (rM_findPlan_312 k245 k255 v1 v2 v3 σ))))))
set_option maxRecDepth 100000 in
theorem tM_findPlan_255b {X : CX} (hX : gd X cX12_findPlan 6 RX12 none) (hw : (xw X).1 = mLy) (hg : nA X) (hR : xR X = rmOf 5 116 0 0) {τ : St} (hr : xr X = (none, τ)) {k245 : Int32 → Int32 → St → Option (St)} (hk245 : (∀ (v1 : Int32) (v2 : Int32) (σ : St), k245 v1 v2 σ = some τ → Jd X 6 245 [(0, .ref (wad (xw X) 0)), (1, .int v1), (2, .int v2)] [] σ)) {k255 : Int32 → Int32 → Int32 → St → Option (St)} (hk255 : (∀ (v1 : Int32) (v2 : Int32) (v3 : Int32) (σ : St), k255 v1 v2 v3 σ = some τ → Jd X 6 255 [(0, .ref (wad (xw X) 0)), (1, .int v1), (2, .int v2), (3, .int v3)] [] σ)) (v1 : Int32) (v2 : Int32) (v3 : Int32) (σ : St) (h : rM_findPlan_255 k245 k255 v1 v2 v3 σ = some τ) : Jd X 6 255 [(0, .ref (wad (xw X) 0)), (1, .int v1), (2, .int v2), (3, .int v3)] [] σ := by
  unfold rM_findPlan_255 at h
  refine J_aload_n (q := 0) hX dX12_findPlan_255 rfl rfl ?_
  refine K_getc 20 hX (mc_0 hw) cls_X12 (k := 36) (by decide) uw_6_83 rfl dX12_findPlan_256 ?_
  refine J_bipush (v := (121 : Int32)) hX dX12_findPlan_259 (by decide) ?_
  refine J_iload_n (q := 2) hX dX12_findPlan_261 rfl rfl ?_
  refine J_imul hX dX12_findPlan_262 ?_
  refine J_iload_n (q := 3) hX dX12_findPlan_263 rfl rfl ?_
  refine J_iadd hX dX12_findPlan_264 ?_
  refine K_iald hX (mc_20 hw) dX12_findPlan_265 h (fun h => ?_)
  refine K_if_lt (tgt := 312) hX dX12_findPlan_266 rfl h (fun h => ?_) (fun h => ?_)
  · refine J_sub [0, 1, 2, 3] rfl ?_
    exact tM_findPlan_312 hX hw hg hR hr hk245 hk255 v1 v2 v3 σ h
  · refine J_aload_n (q := 0) hX dX12_findPlan_269 rfl rfl ?_
    refine K_getc 20 hX (mc_0 hw) cls_X12 (k := 36) (by decide) uw_6_83 rfl dX12_findPlan_270 ?_
    refine J_bipush (v := (121 : Int32)) hX dX12_findPlan_273 (by decide) ?_
    refine J_iload_n (q := 2) hX dX12_findPlan_275 rfl rfl ?_
    refine J_imul hX dX12_findPlan_276 ?_
    refine J_iload_n (q := 3) hX dX12_findPlan_277 rfl rfl ?_
    refine J_iadd hX dX12_findPlan_278 ?_
    refine K_iald hX (mc_20 hw) dX12_findPlan_279 h (fun h => ?_)
    refine J_aload_n (q := 0) hX dX12_findPlan_280 rfl rfl ?_
    refine K_getc 21 hX (mc_0 hw) cls_X12 (k := 37) (by decide) uw_6_84 rfl dX12_findPlan_281 ?_
    refine J_sipush (v := (201 : Int32)) hX dX12_findPlan_284 (by decide) ?_
    refine J_iload_n (q := 2) hX dX12_findPlan_287 rfl rfl ?_
    refine J_iconst (v := (1 : Int32)) hX dX12_findPlan_288 (by decide) ?_
    refine J_iadd hX dX12_findPlan_289 ?_
    refine J_imul hX dX12_findPlan_290 ?_
    refine J_iload_n (q := 1) hX dX12_findPlan_291 rfl rfl ?_
    refine J_iadd hX dX12_findPlan_292 ?_
    refine J_iload_n (q := 3) hX dX12_findPlan_293 rfl rfl ?_
    refine J_isub hX dX12_findPlan_294 ?_
    refine K_iald hX (mc_21 hw) dX12_findPlan_295 h (fun h => ?_)
    refine J_iadd hX dX12_findPlan_296 ?_
    refine J_aload_n (q := 0) hX dX12_findPlan_297 rfl rfl ?_
    refine K_getc 21 hX (mc_0 hw) cls_X12 (k := 37) (by decide) uw_6_84 rfl dX12_findPlan_298 ?_
    refine J_sipush (v := (201 : Int32)) hX dX12_findPlan_301 (by decide) ?_
    refine J_iload_n (q := 2) hX dX12_findPlan_304 rfl rfl ?_
    refine J_imul hX dX12_findPlan_305 ?_
    refine J_iload_n (q := 1) hX dX12_findPlan_306 rfl rfl ?_
    refine J_iadd hX dX12_findPlan_307 ?_
    refine K_iald hX (mc_21 hw) dX12_findPlan_308 h (fun h => ?_)
    refine K_icmp_eq (tgt := 318) hX dX12_findPlan_309 rfl h (fun h => ?_) (fun h => ?_)
    · refine J_aload_n (q := 0) hX dX12_findPlan_318 rfl rfl ?_
      refine K_getc 22 hX (mc_0 hw) cls_X12 (k := 38) (by decide) uw_6_85 rfl dX12_findPlan_319 ?_
      refine J_iload_n (q := 2) hX dX12_findPlan_322 rfl rfl ?_
      refine J_iload_n (q := 3) hX dX12_findPlan_323 rfl rfl ?_
      refine K_iast hX (mc_22 hw) dX12_findPlan_324 h (fun σ_17 h => ?_)
      refine J_iload_n (q := 1) hX dX12_findPlan_325 rfl rfl ?_
      refine J_iload_n (q := 3) hX dX12_findPlan_326 rfl rfl ?_
      refine J_isub hX dX12_findPlan_327 ?_
      refine K_istore_n (fun v1_18 => [(1, .int v1_18), (0, .ref (wad (xw X) 0)), (2, .int v2), (3, .int v3)]) hX dX12_findPlan_328 rfl (by decide) (fun _ => rfl) h (fun v1_18 h => ?_)
      refine K_iinc (q := 2) (fun v2_19 => [(2, .int v2_19), (1, .int v1_18), (0, .ref (wad (xw X) 0)), (3, .int v3)]) hX dX12_findPlan_329 rfl (by decide) (fun _ => rfl) h (fun v2_19 h => ?_)
      refine J_goto (tgt := 245) hX dX12_findPlan_332 rfl ?_
      refine J_sub [2, 1, 0] rfl ?_
      exact hk245 v1_18 v2_19 σ_17 h
    · refine J_sub [0, 1, 2, 3] rfl ?_
      exact tM_findPlan_312 hX hw hg hR hr hk245 hk255 v1 v2 v3 σ h
def rM_findPlan_255L (k245 : Int32 → Int32 → St → Option (St)) : ((Int32 × Int32 × Int32 × St) → Option (St)) → (Int32 × Int32 × Int32 × St) → Option (St) := fun k a => rM_findPlan_255 k245 (fun v1 v2 v3 σ => k (v1, v2, v3, σ)) a.1 a.2.1 a.2.2.1 a.2.2.2
theorem tM_findPlan_255 {X : CX} (hX : gd X cX12_findPlan 6 RX12 none) (hw : (xw X).1 = mLy) (hg : nA X) (hR : xR X = rmOf 5 116 0 0) {τ : St} (hr : xr X = (none, τ)) {k245 : Int32 → Int32 → St → Option (St)} (hk245 : (∀ (v1 : Int32) (v2 : Int32) (σ : St), k245 v1 v2 σ = some τ → Jd X 6 245 [(0, .ref (wad (xw X) 0)), (1, .int v1), (2, .int v2)] [] σ)) (n : Nat) (v1 : Int32) (v2 : Int32) (v3 : Int32) (σ : St) (h : lp (rM_findPlan_255L k245) n (v1, v2, v3, σ) = some τ) : Jd X 6 255 [(0, .ref (wad (xw X) 0)), (1, .int v1), (2, .int v2), (3, .int v3)] [] σ :=
  lp_ind (F := rM_findPlan_255L k245) (P := fun a => Jd X 6 255 [(0, .ref (wad (xw X) 0)), (1, .int a.1), (2, .int a.2.1), (3, .int a.2.2.1)] [] a.2.2.2) (fun k a hk h => tM_findPlan_255b hX hw hg hR hr hk245 (fun v1 v2 v3 σ h => hk (v1, v2, v3, σ) h) a.1 a.2.1 a.2.2.1 a.2.2.2 h) n (v1, v2, v3, σ) h

def rM_findPlan_245 (k245 : Int32 → Int32 → St → Option (St)) (v1 : Int32) (v2 : Int32) (σ : St) : Option (St) :=
  bnd2 (rM_carriers σ) fun r_14 σ_12 => brc (r_14 ≤ v2) (some σ_12) (nm (0 : Int32) fun v3_15 => lp (rM_findPlan_255L k245) fu (v1, v2, v3_15, σ_12))
set_option maxRecDepth 100000 in
theorem tM_findPlan_245b {X : CX} (hX : gd X cX12_findPlan 6 RX12 none) (hw : (xw X).1 = mLy) (hg : nA X) (hR : xR X = rmOf 5 116 0 0) {τ : St} (hr : xr X = (none, τ)) {k245 : Int32 → Int32 → St → Option (St)} (hk245 : (∀ (v1 : Int32) (v2 : Int32) (σ : St), k245 v1 v2 σ = some τ → Jd X 6 245 [(0, .ref (wad (xw X) 0)), (1, .int v1), (2, .int v2)] [] σ)) (v1 : Int32) (v2 : Int32) (σ : St) (h : rM_findPlan_245 k245 v1 v2 σ = some τ) : Jd X 6 245 [(0, .ref (wad (xw X) 0)), (1, .int v1), (2, .int v2)] [] σ := by
  unfold rM_findPlan_245 at h
  refine J_iload_n (q := 2) hX dX12_findPlan_245 rfl rfl ?_
  refine J_aload_n (q := 0) hX dX12_findPlan_246 rfl rfl ?_
  obtain ⟨r_14, σ_12, hc_13, h⟩ := bnd2_some h
  refine K_callV [] hX hg hR (ctM_carriers hw hc_13) lk_X12_312_X12_carriers md_X12_carriers (mc_0 hw) cls_X12 ⟨by decide, by decide⟩ rfl rfl (Nat.le_of_ble_eq_true rfl) dX12_findPlan_247 ?_
  refine K_icmp_ge (tgt := 335) hX dX12_findPlan_250 rfl h (fun h => ?_) (fun h => ?_)
  · exact K_vret hX hr dX12_findPlan_335 h
  · refine J_iconst (v := (0 : Int32)) hX dX12_findPlan_253 (by decide) ?_
    refine K_istore_n (fun v3_15 => [(3, .int v3_15), (0, .ref (wad (xw X) 0)), (1, .int v1), (2, .int v2)]) hX dX12_findPlan_254 rfl (by decide) (fun _ => rfl) h (fun v3_15 h => ?_)
    refine J_sub [1, 2, 3, 0] rfl ?_
    exact tM_findPlan_255 hX hw hg hR hr hk245 fu v1 v2 v3_15 σ_12 h
def rM_findPlan_245L : ((Int32 × Int32 × St) → Option (St)) → (Int32 × Int32 × St) → Option (St) := fun k a => rM_findPlan_245 (fun v1 v2 σ => k (v1, v2, σ)) a.1 a.2.1 a.2.2
theorem tM_findPlan_245 {X : CX} (hX : gd X cX12_findPlan 6 RX12 none) (hw : (xw X).1 = mLy) (hg : nA X) (hR : xR X = rmOf 5 116 0 0) {τ : St} (hr : xr X = (none, τ)) (n : Nat) (v1 : Int32) (v2 : Int32) (σ : St) (h : lp (rM_findPlan_245L) n (v1, v2, σ) = some τ) : Jd X 6 245 [(0, .ref (wad (xw X) 0)), (1, .int v1), (2, .int v2)] [] σ :=
  lp_ind (F := rM_findPlan_245L) (P := fun a => Jd X 6 245 [(0, .ref (wad (xw X) 0)), (1, .int a.1), (2, .int a.2.1)] [] a.2.2) (fun k a hk h => tM_findPlan_245b hX hw hg hR hr (fun v1 v2 σ h => hk (v1, v2, σ) h) a.1 a.2.1 a.2.2 h) n (v1, v2, σ) h

def rM_findPlan_211 (k107 : Int32 → St → Option (St)) (k113 : Int32 → Int32 → St → Option (St)) (v1 : Int32) (v2 : Int32) (v3 : Int32) (σ : St) : Option (St) :=
  chk (ib (((201 : Int32) * v1) + v2) 1407) (nm (setI σ 21 (((201 : Int32) * v1) + v2).toNatClampNeg v3) fun σ_27 => nm (v2 + Int32.ofInt 1) fun v2_28 => k113 v1 v2_28 σ_27)
set_option maxRecDepth 100000 in
theorem tM_findPlan_211 {X : CX} (hX : gd X cX12_findPlan 6 RX12 none) (hw : (xw X).1 = mLy) (hg : nA X) (hR : xR X = rmOf 5 116 0 0) {τ : St} (hr : xr X = (none, τ)) {k107 : Int32 → St → Option (St)} (hk107 : (∀ (v1 : Int32) (σ : St), k107 v1 σ = some τ → Jd X 6 107 [(0, .ref (wad (xw X) 0)), (1, .int v1)] [] σ)) {k113 : Int32 → Int32 → St → Option (St)} (hk113 : (∀ (v1 : Int32) (v2 : Int32) (σ : St), k113 v1 v2 σ = some τ → Jd X 6 113 [(0, .ref (wad (xw X) 0)), (1, .int v1), (2, .int v2)] [] σ)) (v1 : Int32) (v2 : Int32) (v3 : Int32) (σ : St) (h : rM_findPlan_211 k107 k113 v1 v2 v3 σ = some τ) : Jd X 6 211 [(0, .ref (wad (xw X) 0)), (1, .int v1), (2, .int v2), (3, .int v3)] [] σ := by
  unfold rM_findPlan_211 at h
  refine J_aload_n (q := 0) hX dX12_findPlan_211 rfl rfl ?_
  refine K_getc 21 hX (mc_0 hw) cls_X12 (k := 37) (by decide) uw_6_84 rfl dX12_findPlan_212 ?_
  refine J_sipush (v := (201 : Int32)) hX dX12_findPlan_215 (by decide) ?_
  refine J_iload_n (q := 1) hX dX12_findPlan_218 rfl rfl ?_
  refine J_imul hX dX12_findPlan_219 ?_
  refine J_iload_n (q := 2) hX dX12_findPlan_220 rfl rfl ?_
  refine J_iadd hX dX12_findPlan_221 ?_
  refine J_iload_n (q := 3) hX dX12_findPlan_222 rfl rfl ?_
  refine K_iast hX (mc_21 hw) dX12_findPlan_223 h (fun σ_27 h => ?_)
  refine K_iinc (q := 2) (fun v2_28 => [(2, .int v2_28), (0, .ref (wad (xw X) 0)), (1, .int v1), (3, .int v3)]) hX dX12_findPlan_224 rfl (by decide) (fun _ => rfl) h (fun v2_28 h => ?_)
  refine J_goto (tgt := 113) hX dX12_findPlan_227 rfl ?_
  refine J_sub [1, 2, 0] rfl ?_
  exact hk113 v1 v2_28 σ_27 h

def rM_findPlan_204 (k107 : Int32 → St → Option (St)) (k113 : Int32 → Int32 → St → Option (St)) (k125 : Int32 → Int32 → Int32 → Int32 → St → Option (St)) (v1 : Int32) (v2 : Int32) (v4 : Int32) (s0 : Int32) (σ : St) : Option (St) :=
  nm s0 fun v3_30 => nm (v4 + Int32.ofInt 1) fun v4_31 => k125 v1 v2 v3_30 v4_31 σ
set_option maxRecDepth 100000 in
theorem tM_findPlan_204 {X : CX} (hX : gd X cX12_findPlan 6 RX12 none) (hw : (xw X).1 = mLy) (hg : nA X) (hR : xR X = rmOf 5 116 0 0) {τ : St} (hr : xr X = (none, τ)) {k107 : Int32 → St → Option (St)} (hk107 : (∀ (v1 : Int32) (σ : St), k107 v1 σ = some τ → Jd X 6 107 [(0, .ref (wad (xw X) 0)), (1, .int v1)] [] σ)) {k113 : Int32 → Int32 → St → Option (St)} (hk113 : (∀ (v1 : Int32) (v2 : Int32) (σ : St), k113 v1 v2 σ = some τ → Jd X 6 113 [(0, .ref (wad (xw X) 0)), (1, .int v1), (2, .int v2)] [] σ)) {k125 : Int32 → Int32 → Int32 → Int32 → St → Option (St)} (hk125 : (∀ (v1 : Int32) (v2 : Int32) (v3 : Int32) (v4 : Int32) (σ : St), k125 v1 v2 v3 v4 σ = some τ → Jd X 6 125 [(0, .ref (wad (xw X) 0)), (1, .int v1), (2, .int v2), (3, .int v3), (4, .int v4)] [] σ)) (v1 : Int32) (v2 : Int32) (v4 : Int32) (s0 : Int32) (σ : St) (h : rM_findPlan_204 k107 k113 k125 v1 v2 v4 s0 σ = some τ) : Jd X 6 204 [(0, .ref (wad (xw X) 0)), (1, .int v1), (2, .int v2), (4, .int v4)] [.int s0] σ := by
  unfold rM_findPlan_204 at h
  refine K_istore_n (fun v3_30 => [(3, .int v3_30), (0, .ref (wad (xw X) 0)), (1, .int v1), (2, .int v2), (4, .int v4)]) hX dX12_findPlan_204 rfl (by decide) (fun _ => rfl) h (fun v3_30 h => ?_)
  refine K_iinc (q := 4) (fun v4_31 => [(4, .int v4_31), (3, .int v3_30), (0, .ref (wad (xw X) 0)), (1, .int v1), (2, .int v2)]) hX dX12_findPlan_205 rfl (by decide) (fun _ => rfl) h (fun v4_31 h => ?_)
  refine J_goto (tgt := 125) hX dX12_findPlan_208 rfl ?_
  refine J_sub [2, 3, 4, 1, 0] rfl ?_
  exact hk125 v1 v2 v3_30 v4_31 σ h

def rM_findPlan_190 (k107 : Int32 → St → Option (St)) (k113 : Int32 → Int32 → St → Option (St)) (k125 : Int32 → Int32 → Int32 → Int32 → St → Option (St)) (v1 : Int32) (v2 : Int32) (v3 : Int32) (v4 : Int32) (s0 : Int32) (σ : St) : Option (St) :=
  nm s0 fun v5_29 => brc (v5_29 ≤ v3) (rM_findPlan_204 k107 k113 k125 v1 v2 v4 v3 σ) (rM_findPlan_204 k107 k113 k125 v1 v2 v4 v5_29 σ)
set_option maxRecDepth 100000 in
theorem tM_findPlan_190 {X : CX} (hX : gd X cX12_findPlan 6 RX12 none) (hw : (xw X).1 = mLy) (hg : nA X) (hR : xR X = rmOf 5 116 0 0) {τ : St} (hr : xr X = (none, τ)) {k107 : Int32 → St → Option (St)} (hk107 : (∀ (v1 : Int32) (σ : St), k107 v1 σ = some τ → Jd X 6 107 [(0, .ref (wad (xw X) 0)), (1, .int v1)] [] σ)) {k113 : Int32 → Int32 → St → Option (St)} (hk113 : (∀ (v1 : Int32) (v2 : Int32) (σ : St), k113 v1 v2 σ = some τ → Jd X 6 113 [(0, .ref (wad (xw X) 0)), (1, .int v1), (2, .int v2)] [] σ)) {k125 : Int32 → Int32 → Int32 → Int32 → St → Option (St)} (hk125 : (∀ (v1 : Int32) (v2 : Int32) (v3 : Int32) (v4 : Int32) (σ : St), k125 v1 v2 v3 v4 σ = some τ → Jd X 6 125 [(0, .ref (wad (xw X) 0)), (1, .int v1), (2, .int v2), (3, .int v3), (4, .int v4)] [] σ)) (v1 : Int32) (v2 : Int32) (v3 : Int32) (v4 : Int32) (s0 : Int32) (σ : St) (h : rM_findPlan_190 k107 k113 k125 v1 v2 v3 v4 s0 σ = some τ) : Jd X 6 190 [(0, .ref (wad (xw X) 0)), (1, .int v1), (2, .int v2), (3, .int v3), (4, .int v4)] [.int s0] σ := by
  unfold rM_findPlan_190 at h
  refine K_istore (fun v5_29 => [(5, .int v5_29), (0, .ref (wad (xw X) 0)), (1, .int v1), (2, .int v2), (3, .int v3), (4, .int v4)]) hX dX12_findPlan_190 (by decide) (fun _ => rfl) h (fun v5_29 h => ?_)
  refine J_iload (q := 0) hX dX12_findPlan_192 rfl ?_
  refine J_iload_n (q := 4) hX dX12_findPlan_194 rfl rfl ?_
  refine K_icmp_le (tgt := 203) hX dX12_findPlan_195 rfl h (fun h => ?_) (fun h => ?_)
  · refine J_iload_n (q := 4) hX dX12_findPlan_203 rfl rfl ?_
    refine J_sub [1, 2, 3, 5] rfl ?_
    exact tM_findPlan_204 hX hw hg hR hr hk107 hk113 hk125 v1 v2 v4 v3 σ h
  · refine J_iload (q := 0) hX dX12_findPlan_198 rfl ?_
    refine J_goto (tgt := 204) hX dX12_findPlan_200 rfl ?_
    refine J_sub [1, 2, 3, 5] rfl ?_
    exact tM_findPlan_204 hX hw hg hR hr hk107 hk113 hk125 v1 v2 v4 v5_29 σ h

def rM_findPlan_125 (k107 : Int32 → St → Option (St)) (k113 : Int32 → Int32 → St → Option (St)) (k125 : Int32 → Int32 → Int32 → Int32 → St → Option (St)) (v1 : Int32) (v2 : Int32) (v3 : Int32) (v4 : Int32) (σ : St) : Option (St) :=
  bnd2 (rM_holds v1 σ) fun r_26 σ_24 => brc (r_26 < v4) (rM_findPlan_211 k107 k113 v1 v2 v3 σ_24) (brc (v2 < v4) (rM_findPlan_211 k107 k113 v1 v2 v3 σ_24) (chk (ib (((121 : Int32) * v1) + v4) 726) (brc (0 ≤ (σ_24.1 20 (((121 : Int32) * v1) + v4).toNatClampNeg)) (chk (ib (((121 : Int32) * v1) + v4) 726) (chk (ib ((((201 : Int32) * (v1 + (1 : Int32))) + v2) - v4) 1407) (rM_findPlan_190 k107 k113 k125 v1 v2 v3 v4 ((σ_24.1 20 (((121 : Int32) * v1) + v4).toNatClampNeg) + (σ_24.1 21 ((((201 : Int32) * (v1 + (1 : Int32))) + v2) - v4).toNatClampNeg)) σ_24))) (rM_findPlan_190 k107 k113 k125 v1 v2 v3 v4 (-1 : Int32) σ_24))))
set_option maxRecDepth 100000 in
theorem tM_findPlan_125b {X : CX} (hX : gd X cX12_findPlan 6 RX12 none) (hw : (xw X).1 = mLy) (hg : nA X) (hR : xR X = rmOf 5 116 0 0) {τ : St} (hr : xr X = (none, τ)) {k107 : Int32 → St → Option (St)} (hk107 : (∀ (v1 : Int32) (σ : St), k107 v1 σ = some τ → Jd X 6 107 [(0, .ref (wad (xw X) 0)), (1, .int v1)] [] σ)) {k113 : Int32 → Int32 → St → Option (St)} (hk113 : (∀ (v1 : Int32) (v2 : Int32) (σ : St), k113 v1 v2 σ = some τ → Jd X 6 113 [(0, .ref (wad (xw X) 0)), (1, .int v1), (2, .int v2)] [] σ)) {k125 : Int32 → Int32 → Int32 → Int32 → St → Option (St)} (hk125 : (∀ (v1 : Int32) (v2 : Int32) (v3 : Int32) (v4 : Int32) (σ : St), k125 v1 v2 v3 v4 σ = some τ → Jd X 6 125 [(0, .ref (wad (xw X) 0)), (1, .int v1), (2, .int v2), (3, .int v3), (4, .int v4)] [] σ)) (v1 : Int32) (v2 : Int32) (v3 : Int32) (v4 : Int32) (σ : St) (h : rM_findPlan_125 k107 k113 k125 v1 v2 v3 v4 σ = some τ) : Jd X 6 125 [(0, .ref (wad (xw X) 0)), (1, .int v1), (2, .int v2), (3, .int v3), (4, .int v4)] [] σ := by
  unfold rM_findPlan_125 at h
  refine J_iload (q := 4) hX dX12_findPlan_125 rfl ?_
  refine J_aload_n (q := 0) hX dX12_findPlan_127 rfl rfl ?_
  refine J_iload_n (q := 1) hX dX12_findPlan_128 rfl rfl ?_
  obtain ⟨r_26, σ_24, hc_25, h⟩ := bnd2_some h
  refine K_callV [.int v1] hX hg hR (ctM_holds hw hc_25) lk_X12_366_X12_holds md_X12_holds (mc_0 hw) cls_X12 ⟨by decide, by decide⟩ rfl rfl (Nat.le_of_ble_eq_true rfl) dX12_findPlan_129 ?_
  refine K_icmp_gt (tgt := 211) hX dX12_findPlan_132 rfl h (fun h => ?_) (fun h => ?_)
  · refine J_sub [0, 1, 2, 3] rfl ?_
    exact tM_findPlan_211 hX hw hg hR hr hk107 hk113 v1 v2 v3 σ_24 h
  · refine J_iload (q := 4) hX dX12_findPlan_135 rfl ?_
    refine J_iload_n (q := 2) hX dX12_findPlan_137 rfl rfl ?_
    refine K_icmp_gt (tgt := 211) hX dX12_findPlan_138 rfl h (fun h => ?_) (fun h => ?_)
    · refine J_sub [0, 1, 2, 3] rfl ?_
      exact tM_findPlan_211 hX hw hg hR hr hk107 hk113 v1 v2 v3 σ_24 h
    · refine J_aload_n (q := 0) hX dX12_findPlan_141 rfl rfl ?_
      refine K_getc 20 hX (mc_0 hw) cls_X12 (k := 36) (by decide) uw_6_83 rfl dX12_findPlan_142 ?_
      refine J_bipush (v := (121 : Int32)) hX dX12_findPlan_145 (by decide) ?_
      refine J_iload_n (q := 1) hX dX12_findPlan_147 rfl rfl ?_
      refine J_imul hX dX12_findPlan_148 ?_
      refine J_iload (q := 4) hX dX12_findPlan_149 rfl ?_
      refine J_iadd hX dX12_findPlan_151 ?_
      refine K_iald hX (mc_20 hw) dX12_findPlan_152 h (fun h => ?_)
      refine K_if_ge (tgt := 160) hX dX12_findPlan_153 rfl h (fun h => ?_) (fun h => ?_)
      · refine J_aload_n (q := 0) hX dX12_findPlan_160 rfl rfl ?_
        refine K_getc 20 hX (mc_0 hw) cls_X12 (k := 36) (by decide) uw_6_83 rfl dX12_findPlan_161 ?_
        refine J_bipush (v := (121 : Int32)) hX dX12_findPlan_164 (by decide) ?_
        refine J_iload_n (q := 1) hX dX12_findPlan_166 rfl rfl ?_
        refine J_imul hX dX12_findPlan_167 ?_
        refine J_iload (q := 4) hX dX12_findPlan_168 rfl ?_
        refine J_iadd hX dX12_findPlan_170 ?_
        refine K_iald hX (mc_20 hw) dX12_findPlan_171 h (fun h => ?_)
        refine J_aload_n (q := 0) hX dX12_findPlan_172 rfl rfl ?_
        refine K_getc 21 hX (mc_0 hw) cls_X12 (k := 37) (by decide) uw_6_84 rfl dX12_findPlan_173 ?_
        refine J_sipush (v := (201 : Int32)) hX dX12_findPlan_176 (by decide) ?_
        refine J_iload_n (q := 1) hX dX12_findPlan_179 rfl rfl ?_
        refine J_iconst (v := (1 : Int32)) hX dX12_findPlan_180 (by decide) ?_
        refine J_iadd hX dX12_findPlan_181 ?_
        refine J_imul hX dX12_findPlan_182 ?_
        refine J_iload_n (q := 2) hX dX12_findPlan_183 rfl rfl ?_
        refine J_iadd hX dX12_findPlan_184 ?_
        refine J_iload (q := 4) hX dX12_findPlan_185 rfl ?_
        refine J_isub hX dX12_findPlan_187 ?_
        refine K_iald hX (mc_21 hw) dX12_findPlan_188 h (fun h => ?_)
        refine J_iadd hX dX12_findPlan_189 ?_
        refine J_sub [0, 1, 2, 3, 4] rfl ?_
        exact tM_findPlan_190 hX hw hg hR hr hk107 hk113 hk125 v1 v2 v3 v4 ((σ_24.1 20 (((121 : Int32) * v1) + v4).toNatClampNeg) + (σ_24.1 21 ((((201 : Int32) * (v1 + (1 : Int32))) + v2) - v4).toNatClampNeg)) σ_24 h
      · refine J_iconst (v := (-1 : Int32)) hX dX12_findPlan_156 (by decide) ?_
        refine J_goto (tgt := 190) hX dX12_findPlan_157 rfl ?_
        refine J_sub [0, 1, 2, 3, 4] rfl ?_
        exact tM_findPlan_190 hX hw hg hR hr hk107 hk113 hk125 v1 v2 v3 v4 (-1 : Int32) σ_24 h
def rM_findPlan_125L (k107 : Int32 → St → Option (St)) (k113 : Int32 → Int32 → St → Option (St)) : ((Int32 × Int32 × Int32 × Int32 × St) → Option (St)) → (Int32 × Int32 × Int32 × Int32 × St) → Option (St) := fun k a => rM_findPlan_125 k107 k113 (fun v1 v2 v3 v4 σ => k (v1, v2, v3, v4, σ)) a.1 a.2.1 a.2.2.1 a.2.2.2.1 a.2.2.2.2
theorem tM_findPlan_125 {X : CX} (hX : gd X cX12_findPlan 6 RX12 none) (hw : (xw X).1 = mLy) (hg : nA X) (hR : xR X = rmOf 5 116 0 0) {τ : St} (hr : xr X = (none, τ)) {k107 : Int32 → St → Option (St)} (hk107 : (∀ (v1 : Int32) (σ : St), k107 v1 σ = some τ → Jd X 6 107 [(0, .ref (wad (xw X) 0)), (1, .int v1)] [] σ)) {k113 : Int32 → Int32 → St → Option (St)} (hk113 : (∀ (v1 : Int32) (v2 : Int32) (σ : St), k113 v1 v2 σ = some τ → Jd X 6 113 [(0, .ref (wad (xw X) 0)), (1, .int v1), (2, .int v2)] [] σ)) (n : Nat) (v1 : Int32) (v2 : Int32) (v3 : Int32) (v4 : Int32) (σ : St) (h : lp (rM_findPlan_125L k107 k113) n (v1, v2, v3, v4, σ) = some τ) : Jd X 6 125 [(0, .ref (wad (xw X) 0)), (1, .int v1), (2, .int v2), (3, .int v3), (4, .int v4)] [] σ :=
  lp_ind (F := rM_findPlan_125L k107 k113) (P := fun a => Jd X 6 125 [(0, .ref (wad (xw X) 0)), (1, .int a.1), (2, .int a.2.1), (3, .int a.2.2.1), (4, .int a.2.2.2.1)] [] a.2.2.2.2) (fun k a hk h => tM_findPlan_125b hX hw hg hR hr hk107 hk113 (fun v1 v2 v3 v4 σ h => hk (v1, v2, v3, v4, σ) h) a.1 a.2.1 a.2.2.1 a.2.2.2.1 a.2.2.2.2 h) n (v1, v2, v3, v4, σ) h

def rM_findPlan_113 (k107 : Int32 → St → Option (St)) (k113 : Int32 → Int32 → St → Option (St)) (v1 : Int32) (v2 : Int32) (σ : St) : Option (St) :=
  brc ((201 : Int32) ≤ v2) (nm (v1 + Int32.ofInt (-1)) fun v1_21 => k107 v1_21 σ) (nm (0 : Int32) fun v3_22 => nm (0 : Int32) fun v4_23 => lp (rM_findPlan_125L k107 k113) fu (v1, v2, v3_22, v4_23, σ))
set_option maxRecDepth 100000 in
theorem tM_findPlan_113b {X : CX} (hX : gd X cX12_findPlan 6 RX12 none) (hw : (xw X).1 = mLy) (hg : nA X) (hR : xR X = rmOf 5 116 0 0) {τ : St} (hr : xr X = (none, τ)) {k107 : Int32 → St → Option (St)} (hk107 : (∀ (v1 : Int32) (σ : St), k107 v1 σ = some τ → Jd X 6 107 [(0, .ref (wad (xw X) 0)), (1, .int v1)] [] σ)) {k113 : Int32 → Int32 → St → Option (St)} (hk113 : (∀ (v1 : Int32) (v2 : Int32) (σ : St), k113 v1 v2 σ = some τ → Jd X 6 113 [(0, .ref (wad (xw X) 0)), (1, .int v1), (2, .int v2)] [] σ)) (v1 : Int32) (v2 : Int32) (σ : St) (h : rM_findPlan_113 k107 k113 v1 v2 σ = some τ) : Jd X 6 113 [(0, .ref (wad (xw X) 0)), (1, .int v1), (2, .int v2)] [] σ := by
  unfold rM_findPlan_113 at h
  refine J_iload_n (q := 2) hX dX12_findPlan_113 rfl rfl ?_
  refine J_sipush (v := (201 : Int32)) hX dX12_findPlan_114 (by decide) ?_
  refine K_icmp_ge (tgt := 230) hX dX12_findPlan_117 rfl h (fun h => ?_) (fun h => ?_)
  · refine K_iinc (q := 1) (fun v1_21 => [(1, .int v1_21), (0, .ref (wad (xw X) 0)), (2, .int v2)]) hX dX12_findPlan_230 rfl (by decide) (fun _ => rfl) h (fun v1_21 h => ?_)
    refine J_goto (tgt := 107) hX dX12_findPlan_233 rfl ?_
    refine J_sub [1, 0] rfl ?_
    exact hk107 v1_21 σ h
  · refine J_iconst (v := (0 : Int32)) hX dX12_findPlan_120 (by decide) ?_
    refine K_istore_n (fun v3_22 => [(3, .int v3_22), (0, .ref (wad (xw X) 0)), (1, .int v1), (2, .int v2)]) hX dX12_findPlan_121 rfl (by decide) (fun _ => rfl) h (fun v3_22 h => ?_)
    refine J_iconst (v := (0 : Int32)) hX dX12_findPlan_122 (by decide) ?_
    refine K_istore (fun v4_23 => [(4, .int v4_23), (3, .int v3_22), (0, .ref (wad (xw X) 0)), (1, .int v1), (2, .int v2)]) hX dX12_findPlan_123 (by decide) (fun _ => rfl) h (fun v4_23 h => ?_)
    refine J_sub [2, 3, 4, 1, 0] rfl ?_
    exact tM_findPlan_125 hX hw hg hR hr hk107 hk113 fu v1 v2 v3_22 v4_23 σ h
def rM_findPlan_113L (k107 : Int32 → St → Option (St)) : ((Int32 × Int32 × St) → Option (St)) → (Int32 × Int32 × St) → Option (St) := fun k a => rM_findPlan_113 k107 (fun v1 v2 σ => k (v1, v2, σ)) a.1 a.2.1 a.2.2
theorem tM_findPlan_113 {X : CX} (hX : gd X cX12_findPlan 6 RX12 none) (hw : (xw X).1 = mLy) (hg : nA X) (hR : xR X = rmOf 5 116 0 0) {τ : St} (hr : xr X = (none, τ)) {k107 : Int32 → St → Option (St)} (hk107 : (∀ (v1 : Int32) (σ : St), k107 v1 σ = some τ → Jd X 6 107 [(0, .ref (wad (xw X) 0)), (1, .int v1)] [] σ)) (n : Nat) (v1 : Int32) (v2 : Int32) (σ : St) (h : lp (rM_findPlan_113L k107) n (v1, v2, σ) = some τ) : Jd X 6 113 [(0, .ref (wad (xw X) 0)), (1, .int v1), (2, .int v2)] [] σ :=
  lp_ind (F := rM_findPlan_113L k107) (P := fun a => Jd X 6 113 [(0, .ref (wad (xw X) 0)), (1, .int a.1), (2, .int a.2.1)] [] a.2.2) (fun k a hk h => tM_findPlan_113b hX hw hg hR hr hk107 (fun v1 v2 σ h => hk (v1, v2, σ) h) a.1 a.2.1 a.2.2 h) n (v1, v2, σ) h

def rM_findPlan_107 (k107 : Int32 → St → Option (St)) (v1 : Int32) (σ : St) : Option (St) :=
  brc (v1 < 0) (chk (ib (4 : Int32) 320) (nm (σ.1 6 (4 : Int32).toNatClampNeg) fun v1_10 => nm (0 : Int32) fun v2_11 => lp (rM_findPlan_245L) fu (v1_10, v2_11, σ))) (nm (0 : Int32) fun v2_20 => lp (rM_findPlan_113L k107) fu (v1, v2_20, σ))
set_option maxRecDepth 100000 in
theorem tM_findPlan_107b {X : CX} (hX : gd X cX12_findPlan 6 RX12 none) (hw : (xw X).1 = mLy) (hg : nA X) (hR : xR X = rmOf 5 116 0 0) {τ : St} (hr : xr X = (none, τ)) {k107 : Int32 → St → Option (St)} (hk107 : (∀ (v1 : Int32) (σ : St), k107 v1 σ = some τ → Jd X 6 107 [(0, .ref (wad (xw X) 0)), (1, .int v1)] [] σ)) (v1 : Int32) (σ : St) (h : rM_findPlan_107 k107 v1 σ = some τ) : Jd X 6 107 [(0, .ref (wad (xw X) 0)), (1, .int v1)] [] σ := by
  unfold rM_findPlan_107 at h
  refine J_iload_n (q := 1) hX dX12_findPlan_107 rfl rfl ?_
  refine K_if_lt (tgt := 236) hX dX12_findPlan_108 rfl h (fun h => ?_) (fun h => ?_)
  · refine J_aload_n (q := 0) hX dX12_findPlan_236 rfl rfl ?_
    refine K_getc 6 hX (mc_0 hw) cls_X12 (k := 10) (by decide) uw_6_57 rfl dX12_findPlan_237 ?_
    refine J_iconst (v := (4 : Int32)) hX dX12_findPlan_240 (by decide) ?_
    refine K_iald hX (mc_6 hw) dX12_findPlan_241 h (fun h => ?_)
    refine K_istore_n (fun v1_10 => [(1, .int v1_10), (0, .ref (wad (xw X) 0))]) hX dX12_findPlan_242 rfl (by decide) (fun _ => rfl) h (fun v1_10 h => ?_)
    refine J_iconst (v := (0 : Int32)) hX dX12_findPlan_243 (by decide) ?_
    refine K_istore_n (fun v2_11 => [(2, .int v2_11), (1, .int v1_10), (0, .ref (wad (xw X) 0))]) hX dX12_findPlan_244 rfl (by decide) (fun _ => rfl) h (fun v2_11 h => ?_)
    refine J_sub [2, 1, 0] rfl ?_
    exact tM_findPlan_245 hX hw hg hR hr fu v1_10 v2_11 σ h
  · refine J_iconst (v := (0 : Int32)) hX dX12_findPlan_111 (by decide) ?_
    refine K_istore_n (fun v2_20 => [(2, .int v2_20), (0, .ref (wad (xw X) 0)), (1, .int v1)]) hX dX12_findPlan_112 rfl (by decide) (fun _ => rfl) h (fun v2_20 h => ?_)
    refine J_sub [1, 2, 0] rfl ?_
    exact tM_findPlan_113 hX hw hg hR hr hk107 fu v1 v2_20 σ h
def rM_findPlan_107L : ((Int32 × St) → Option (St)) → (Int32 × St) → Option (St) := fun k a => rM_findPlan_107 (fun v1 σ => k (v1, σ)) a.1 a.2
theorem tM_findPlan_107 {X : CX} (hX : gd X cX12_findPlan 6 RX12 none) (hw : (xw X).1 = mLy) (hg : nA X) (hR : xR X = rmOf 5 116 0 0) {τ : St} (hr : xr X = (none, τ)) (n : Nat) (v1 : Int32) (σ : St) (h : lp (rM_findPlan_107L) n (v1, σ) = some τ) : Jd X 6 107 [(0, .ref (wad (xw X) 0)), (1, .int v1)] [] σ :=
  lp_ind (F := rM_findPlan_107L) (P := fun a => Jd X 6 107 [(0, .ref (wad (xw X) 0)), (1, .int a.1)] [] a.2) (fun k a hk h => tM_findPlan_107b hX hw hg hR hr (fun v1 σ h => hk (v1, σ) h) a.1 a.2 h) n (v1, σ) h

def rM_findPlan_71 (k71 : Int32 → St → Option (St)) (v1 : Int32) (σ : St) : Option (St) :=
  brc ((201 : Int32) ≤ v1) (bnd2 (rM_carriers σ) fun r_8 σ_6 => nm (r_8 - (1 : Int32)) fun v1_9 => lp (rM_findPlan_107L) fu (v1_9, σ_6)) (bnd2 (rM_carriers σ) fun r_34 σ_32 => chk (ib (((201 : Int32) * r_34) + v1) 1407) (nm (setI σ_32 21 (((201 : Int32) * r_34) + v1).toNatClampNeg (0 : Int32)) fun σ_35 => nm (v1 + Int32.ofInt 1) fun v1_36 => k71 v1_36 σ_35))
set_option maxRecDepth 100000 in
theorem tM_findPlan_71b {X : CX} (hX : gd X cX12_findPlan 6 RX12 none) (hw : (xw X).1 = mLy) (hg : nA X) (hR : xR X = rmOf 5 116 0 0) {τ : St} (hr : xr X = (none, τ)) {k71 : Int32 → St → Option (St)} (hk71 : (∀ (v1 : Int32) (σ : St), k71 v1 σ = some τ → Jd X 6 71 [(0, .ref (wad (xw X) 0)), (1, .int v1)] [] σ)) (v1 : Int32) (σ : St) (h : rM_findPlan_71 k71 v1 σ = some τ) : Jd X 6 71 [(0, .ref (wad (xw X) 0)), (1, .int v1)] [] σ := by
  unfold rM_findPlan_71 at h
  refine J_iload_n (q := 1) hX dX12_findPlan_71 rfl rfl ?_
  refine J_sipush (v := (201 : Int32)) hX dX12_findPlan_72 (by decide) ?_
  refine K_icmp_ge (tgt := 100) hX dX12_findPlan_75 rfl h (fun h => ?_) (fun h => ?_)
  · refine J_aload_n (q := 0) hX dX12_findPlan_100 rfl rfl ?_
    obtain ⟨r_8, σ_6, hc_7, h⟩ := bnd2_some h
    refine K_callV [] hX hg hR (ctM_carriers hw hc_7) lk_X12_312_X12_carriers md_X12_carriers (mc_0 hw) cls_X12 ⟨by decide, by decide⟩ rfl rfl (Nat.le_of_ble_eq_true rfl) dX12_findPlan_101 ?_
    refine J_iconst (v := (1 : Int32)) hX dX12_findPlan_104 (by decide) ?_
    refine J_isub hX dX12_findPlan_105 ?_
    refine K_istore_n (fun v1_9 => [(1, .int v1_9), (0, .ref (wad (xw X) 0))]) hX dX12_findPlan_106 rfl (by decide) (fun _ => rfl) h (fun v1_9 h => ?_)
    refine J_sub [1, 0] rfl ?_
    exact tM_findPlan_107 hX hw hg hR hr fu v1_9 σ_6 h
  · refine J_aload_n (q := 0) hX dX12_findPlan_78 rfl rfl ?_
    refine K_getc 21 hX (mc_0 hw) cls_X12 (k := 37) (by decide) uw_6_84 rfl dX12_findPlan_79 ?_
    refine J_sipush (v := (201 : Int32)) hX dX12_findPlan_82 (by decide) ?_
    refine J_aload_n (q := 0) hX dX12_findPlan_85 rfl rfl ?_
    obtain ⟨r_34, σ_32, hc_33, h⟩ := bnd2_some h
    refine K_callV [] hX hg hR (ctM_carriers hw hc_33) lk_X12_312_X12_carriers md_X12_carriers (mc_0 hw) cls_X12 ⟨by decide, by decide⟩ rfl rfl (Nat.le_of_ble_eq_true rfl) dX12_findPlan_86 ?_
    refine J_imul hX dX12_findPlan_89 ?_
    refine J_iload_n (q := 1) hX dX12_findPlan_90 rfl rfl ?_
    refine J_iadd hX dX12_findPlan_91 ?_
    refine J_iconst (v := (0 : Int32)) hX dX12_findPlan_92 (by decide) ?_
    refine K_iast hX (mc_21 hw) dX12_findPlan_93 h (fun σ_35 h => ?_)
    refine K_iinc (q := 1) (fun v1_36 => [(1, .int v1_36), (0, .ref (wad (xw X) 0))]) hX dX12_findPlan_94 rfl (by decide) (fun _ => rfl) h (fun v1_36 h => ?_)
    refine J_goto (tgt := 71) hX dX12_findPlan_97 rfl ?_
    refine J_sub [1, 0] rfl ?_
    exact hk71 v1_36 σ_35 h
def rM_findPlan_71L : ((Int32 × St) → Option (St)) → (Int32 × St) → Option (St) := fun k a => rM_findPlan_71 (fun v1 σ => k (v1, σ)) a.1 a.2
theorem tM_findPlan_71 {X : CX} (hX : gd X cX12_findPlan 6 RX12 none) (hw : (xw X).1 = mLy) (hg : nA X) (hR : xR X = rmOf 5 116 0 0) {τ : St} (hr : xr X = (none, τ)) (n : Nat) (v1 : Int32) (σ : St) (h : lp (rM_findPlan_71L) n (v1, σ) = some τ) : Jd X 6 71 [(0, .ref (wad (xw X) 0)), (1, .int v1)] [] σ :=
  lp_ind (F := rM_findPlan_71L) (P := fun a => Jd X 6 71 [(0, .ref (wad (xw X) 0)), (1, .int a.1)] [] a.2) (fun k a hk h => tM_findPlan_71b hX hw hg hR hr (fun v1 σ h => hk (v1, σ) h) a.1 a.2 h) n (v1, σ) h

def rM_findPlan_56 (k2 : Int32 → St → Option (St)) (k12 : Int32 → Int32 → St → Option (St)) (v1 : Int32) (v2 : Int32) (s0 : Int32) (s1 : Int32) (σ : St) : Option (St) :=
  chk (ib s1 726) (nm (setI σ 20 s1.toNatClampNeg s0) fun σ_45 => nm (v2 + Int32.ofInt 1) fun v2_46 => k12 v1 v2_46 σ_45)
set_option maxRecDepth 100000 in
theorem tM_findPlan_56 {X : CX} (hX : gd X cX12_findPlan 6 RX12 none) (hw : (xw X).1 = mLy) (hg : nA X) (hR : xR X = rmOf 5 116 0 0) {τ : St} (hr : xr X = (none, τ)) {k2 : Int32 → St → Option (St)} (hk2 : (∀ (v1 : Int32) (σ : St), k2 v1 σ = some τ → Jd X 6 2 [(0, .ref (wad (xw X) 0)), (1, .int v1)] [] σ)) {k12 : Int32 → Int32 → St → Option (St)} (hk12 : (∀ (v1 : Int32) (v2 : Int32) (σ : St), k12 v1 v2 σ = some τ → Jd X 6 12 [(0, .ref (wad (xw X) 0)), (1, .int v1), (2, .int v2)] [] σ)) (v1 : Int32) (v2 : Int32) (s0 : Int32) (s1 : Int32) (σ : St) (h : rM_findPlan_56 k2 k12 v1 v2 s0 s1 σ = some τ) : Jd X 6 56 [(0, .ref (wad (xw X) 0)), (1, .int v1), (2, .int v2)] [.int s0, .int s1, .ref (wad (xw X) 20)] σ := by
  unfold rM_findPlan_56 at h
  refine K_iast hX (mc_20 hw) dX12_findPlan_56 h (fun σ_45 h => ?_)
  refine K_iinc (q := 2) (fun v2_46 => [(2, .int v2_46), (0, .ref (wad (xw X) 0)), (1, .int v1)]) hX dX12_findPlan_57 rfl (by decide) (fun _ => rfl) h (fun v2_46 h => ?_)
  refine J_goto (tgt := 12) hX dX12_findPlan_60 rfl ?_
  refine J_sub [1, 2, 0] rfl ?_
  exact hk12 v1 v2_46 σ_45 h

def rM_findPlan_12 (k2 : Int32 → St → Option (St)) (k12 : Int32 → Int32 → St → Option (St)) (v1 : Int32) (v2 : Int32) (σ : St) : Option (St) :=
  bnd2 (rM_holds v1 σ) fun r_40 σ_38 => brc (r_40 < v2) (nm (v1 + Int32.ofInt 1) fun v1_41 => k2 v1_41 σ_38) (brc (¬ v2 = 0) (bnd2 (rM_findBest v1 v2 σ_38) fun r_44 σ_42 => brc (r_44 = 0) (rM_findPlan_56 k2 k12 v1 v2 (-1 : Int32) (((121 : Int32) * v1) + v2) σ_42) (rM_findPlan_56 k2 k12 v1 v2 (σ_42.1 0 35) (((121 : Int32) * v1) + v2) σ_42)) (rM_findPlan_56 k2 k12 v1 v2 (0 : Int32) (((121 : Int32) * v1) + v2) σ_38))
set_option maxRecDepth 100000 in
theorem tM_findPlan_12b {X : CX} (hX : gd X cX12_findPlan 6 RX12 none) (hw : (xw X).1 = mLy) (hg : nA X) (hR : xR X = rmOf 5 116 0 0) {τ : St} (hr : xr X = (none, τ)) {k2 : Int32 → St → Option (St)} (hk2 : (∀ (v1 : Int32) (σ : St), k2 v1 σ = some τ → Jd X 6 2 [(0, .ref (wad (xw X) 0)), (1, .int v1)] [] σ)) {k12 : Int32 → Int32 → St → Option (St)} (hk12 : (∀ (v1 : Int32) (v2 : Int32) (σ : St), k12 v1 v2 σ = some τ → Jd X 6 12 [(0, .ref (wad (xw X) 0)), (1, .int v1), (2, .int v2)] [] σ)) (v1 : Int32) (v2 : Int32) (σ : St) (h : rM_findPlan_12 k2 k12 v1 v2 σ = some τ) : Jd X 6 12 [(0, .ref (wad (xw X) 0)), (1, .int v1), (2, .int v2)] [] σ := by
  unfold rM_findPlan_12 at h
  refine J_iload_n (q := 2) hX dX12_findPlan_12 rfl rfl ?_
  refine J_aload_n (q := 0) hX dX12_findPlan_13 rfl rfl ?_
  refine J_iload_n (q := 1) hX dX12_findPlan_14 rfl rfl ?_
  obtain ⟨r_40, σ_38, hc_39, h⟩ := bnd2_some h
  refine K_callV [.int v1] hX hg hR (ctM_holds hw hc_39) lk_X12_366_X12_holds md_X12_holds (mc_0 hw) cls_X12 ⟨by decide, by decide⟩ rfl rfl (Nat.le_of_ble_eq_true rfl) dX12_findPlan_15 ?_
  refine K_icmp_gt (tgt := 63) hX dX12_findPlan_18 rfl h (fun h => ?_) (fun h => ?_)
  · refine K_iinc (q := 1) (fun v1_41 => [(1, .int v1_41), (0, .ref (wad (xw X) 0)), (2, .int v2)]) hX dX12_findPlan_63 rfl (by decide) (fun _ => rfl) h (fun v1_41 h => ?_)
    refine J_goto (tgt := 2) hX dX12_findPlan_66 rfl ?_
    refine J_sub [1, 0] rfl ?_
    exact hk2 v1_41 σ_38 h
  · refine J_aload_n (q := 0) hX dX12_findPlan_21 rfl rfl ?_
    refine K_getc 20 hX (mc_0 hw) cls_X12 (k := 36) (by decide) uw_6_83 rfl dX12_findPlan_22 ?_
    refine J_bipush (v := (121 : Int32)) hX dX12_findPlan_25 (by decide) ?_
    refine J_iload_n (q := 1) hX dX12_findPlan_27 rfl rfl ?_
    refine J_imul hX dX12_findPlan_28 ?_
    refine J_iload_n (q := 2) hX dX12_findPlan_29 rfl rfl ?_
    refine J_iadd hX dX12_findPlan_30 ?_
    refine J_iload_n (q := 2) hX dX12_findPlan_31 rfl rfl ?_
    refine K_if_ne (tgt := 39) hX dX12_findPlan_32 rfl h (fun h => ?_) (fun h => ?_)
    · refine J_aload_n (q := 0) hX dX12_findPlan_39 rfl rfl ?_
      refine J_iload_n (q := 1) hX dX12_findPlan_40 rfl rfl ?_
      refine J_iload_n (q := 2) hX dX12_findPlan_41 rfl rfl ?_
      obtain ⟨r_44, σ_42, hc_43, h⟩ := bnd2_some h
      refine K_callV [.int v1, .int v2] hX hg hR (ctM_findBest hw hc_43) lk_X12_412_X12_findBest md_X12_findBest (mc_0 hw) cls_X12 ⟨by decide, by decide⟩ rfl rfl (Nat.le_of_ble_eq_true rfl) dX12_findPlan_42 ?_
      refine K_if_eq (tgt := 55) hX dX12_findPlan_45 rfl h (fun h => ?_) (fun h => ?_)
      · refine J_iconst (v := (-1 : Int32)) hX dX12_findPlan_55 (by decide) ?_
        refine J_sub [0, 1, 2] rfl ?_
        exact tM_findPlan_56 hX hw hg hR hr hk2 hk12 v1 v2 (-1 : Int32) (((121 : Int32) * v1) + v2) σ_42 h
      · refine J_aload_n (q := 0) hX dX12_findPlan_48 rfl rfl ?_
        refine K_geti hX (mc_0 hw) cls_X12 (k := 35) (by decide) uw_6_82 rfl dX12_findPlan_49 ?_
        refine J_goto (tgt := 56) hX dX12_findPlan_52 rfl ?_
        refine J_sub [0, 1, 2] rfl ?_
        exact tM_findPlan_56 hX hw hg hR hr hk2 hk12 v1 v2 (σ_42.1 0 35) (((121 : Int32) * v1) + v2) σ_42 h
    · refine J_iconst (v := (0 : Int32)) hX dX12_findPlan_35 (by decide) ?_
      refine J_goto (tgt := 56) hX dX12_findPlan_36 rfl ?_
      refine J_sub [0, 1, 2] rfl ?_
      exact tM_findPlan_56 hX hw hg hR hr hk2 hk12 v1 v2 (0 : Int32) (((121 : Int32) * v1) + v2) σ_38 h
def rM_findPlan_12L (k2 : Int32 → St → Option (St)) : ((Int32 × Int32 × St) → Option (St)) → (Int32 × Int32 × St) → Option (St) := fun k a => rM_findPlan_12 k2 (fun v1 v2 σ => k (v1, v2, σ)) a.1 a.2.1 a.2.2
theorem tM_findPlan_12 {X : CX} (hX : gd X cX12_findPlan 6 RX12 none) (hw : (xw X).1 = mLy) (hg : nA X) (hR : xR X = rmOf 5 116 0 0) {τ : St} (hr : xr X = (none, τ)) {k2 : Int32 → St → Option (St)} (hk2 : (∀ (v1 : Int32) (σ : St), k2 v1 σ = some τ → Jd X 6 2 [(0, .ref (wad (xw X) 0)), (1, .int v1)] [] σ)) (n : Nat) (v1 : Int32) (v2 : Int32) (σ : St) (h : lp (rM_findPlan_12L k2) n (v1, v2, σ) = some τ) : Jd X 6 12 [(0, .ref (wad (xw X) 0)), (1, .int v1), (2, .int v2)] [] σ :=
  lp_ind (F := rM_findPlan_12L k2) (P := fun a => Jd X 6 12 [(0, .ref (wad (xw X) 0)), (1, .int a.1), (2, .int a.2.1)] [] a.2.2) (fun k a hk h => tM_findPlan_12b hX hw hg hR hr hk2 (fun v1 v2 σ h => hk (v1, v2, σ) h) a.1 a.2.1 a.2.2 h) n (v1, v2, σ) h

def rM_findPlan_2 (k2 : Int32 → St → Option (St)) (v1 : Int32) (σ : St) : Option (St) :=
  bnd2 (rM_carriers σ) fun r_4 σ_2 => brc (r_4 ≤ v1) (nm (0 : Int32) fun v1_5 => lp (rM_findPlan_71L) fu (v1_5, σ_2)) (nm (0 : Int32) fun v2_37 => lp (rM_findPlan_12L k2) fu (v1, v2_37, σ_2))
set_option maxRecDepth 100000 in
theorem tM_findPlan_2b {X : CX} (hX : gd X cX12_findPlan 6 RX12 none) (hw : (xw X).1 = mLy) (hg : nA X) (hR : xR X = rmOf 5 116 0 0) {τ : St} (hr : xr X = (none, τ)) {k2 : Int32 → St → Option (St)} (hk2 : (∀ (v1 : Int32) (σ : St), k2 v1 σ = some τ → Jd X 6 2 [(0, .ref (wad (xw X) 0)), (1, .int v1)] [] σ)) (v1 : Int32) (σ : St) (h : rM_findPlan_2 k2 v1 σ = some τ) : Jd X 6 2 [(0, .ref (wad (xw X) 0)), (1, .int v1)] [] σ := by
  unfold rM_findPlan_2 at h
  refine J_iload_n (q := 1) hX dX12_findPlan_2 rfl rfl ?_
  refine J_aload_n (q := 0) hX dX12_findPlan_3 rfl rfl ?_
  obtain ⟨r_4, σ_2, hc_3, h⟩ := bnd2_some h
  refine K_callV [] hX hg hR (ctM_carriers hw hc_3) lk_X12_312_X12_carriers md_X12_carriers (mc_0 hw) cls_X12 ⟨by decide, by decide⟩ rfl rfl (Nat.le_of_ble_eq_true rfl) dX12_findPlan_4 ?_
  refine K_icmp_ge (tgt := 69) hX dX12_findPlan_7 rfl h (fun h => ?_) (fun h => ?_)
  · refine J_iconst (v := (0 : Int32)) hX dX12_findPlan_69 (by decide) ?_
    refine K_istore_n (fun v1_5 => [(1, .int v1_5), (0, .ref (wad (xw X) 0))]) hX dX12_findPlan_70 rfl (by decide) (fun _ => rfl) h (fun v1_5 h => ?_)
    refine J_sub [1, 0] rfl ?_
    exact tM_findPlan_71 hX hw hg hR hr fu v1_5 σ_2 h
  · refine J_iconst (v := (0 : Int32)) hX dX12_findPlan_10 (by decide) ?_
    refine K_istore_n (fun v2_37 => [(2, .int v2_37), (0, .ref (wad (xw X) 0)), (1, .int v1)]) hX dX12_findPlan_11 rfl (by decide) (fun _ => rfl) h (fun v2_37 h => ?_)
    refine J_sub [1, 2, 0] rfl ?_
    exact tM_findPlan_12 hX hw hg hR hr hk2 fu v1 v2_37 σ_2 h
def rM_findPlan_2L : ((Int32 × St) → Option (St)) → (Int32 × St) → Option (St) := fun k a => rM_findPlan_2 (fun v1 σ => k (v1, σ)) a.1 a.2
theorem tM_findPlan_2 {X : CX} (hX : gd X cX12_findPlan 6 RX12 none) (hw : (xw X).1 = mLy) (hg : nA X) (hR : xR X = rmOf 5 116 0 0) {τ : St} (hr : xr X = (none, τ)) (n : Nat) (v1 : Int32) (σ : St) (h : lp (rM_findPlan_2L) n (v1, σ) = some τ) : Jd X 6 2 [(0, .ref (wad (xw X) 0)), (1, .int v1)] [] σ :=
  lp_ind (F := rM_findPlan_2L) (P := fun a => Jd X 6 2 [(0, .ref (wad (xw X) 0)), (1, .int a.1)] [] a.2) (fun k a hk h => tM_findPlan_2b hX hw hg hR hr (fun v1 σ h => hk (v1, σ) h) a.1 a.2 h) n (v1, σ) h

def rM_findPlan (σ : St) : Option (St) :=
  nm (0 : Int32) fun v1_1 => lp (rM_findPlan_2L) fu (v1_1, σ)
set_option maxRecDepth 100000 in
theorem tM_findPlan {X : CX} (hX : gd X cX12_findPlan 6 RX12 none) (hw : (xw X).1 = mLy) (hg : nA X) (hR : xR X = rmOf 5 116 0 0) {τ : St} (hr : xr X = (none, τ)) (σ : St) (h : rM_findPlan σ = some τ) : Jd X 6 0 [(0, .ref (wad (xw X) 0))] [] σ := by
  unfold rM_findPlan at h
  refine J_iconst (v := (0 : Int32)) hX dX12_findPlan_0 (by decide) ?_
  refine K_istore_n (fun v1_1 => [(1, .int v1_1), (0, .ref (wad (xw X) 0))]) hX dX12_findPlan_1 rfl (by decide) (fun _ => rfl) h (fun v1_1 h => ?_)
  refine J_sub [1, 0] rfl ?_
  exact tM_findPlan_2 hX hw hg hR hr fu v1_1 σ h
theorem ctM_findPlan {w : WT} (hw : w.1 = mLy) {σ : St} {τ : St} (h : rM_findPlan σ = some τ) : Ct yX12_findPlan cX12_findPlan 6 none 5 116 w [.ref (wad w 0)] σ none τ 0 0 :=
  Ct_intro (fun _ => (0, 0)) (by decide) rfl ⟨rfl, Nat.le_refl _⟩ (Nat.le_of_ble_eq_true rfl) (fun X hX hR hwX hg hr => by subst hwX; exact tM_findPlan hX hw hg hR hr  σ h)

def rM_plan_20 (σ : St) : Option (Int32 × St) :=
  some ((-2 : Int32), σ)
set_option maxRecDepth 100000 in
theorem tM_plan_20 {X : CX} (hX : gd X cX12_plan 3 RX12 (some .int)) (hw : (xw X).1 = mLy) (hg : nA X) (hR : xR X = rmOf 6 141 0 0) {r : Int32} {τ : St} (hr : xr X = (some (.int r), τ)) (σ : St) (h : rM_plan_20 σ = some (r, τ)) : Jd X 3 20 [] [] σ := by
  unfold rM_plan_20 at h
  refine J_bipush (v := (-2 : Int32)) hX dX12_plan_20 (by decide) ?_
  exact K_iret hX hr dX12_plan_22 h

def rM_plan_82 (s0 : Int32) (σ : St) : Option (Int32 × St) :=
  some (s0, σ)
set_option maxRecDepth 100000 in
theorem tM_plan_82 {X : CX} (hX : gd X cX12_plan 3 RX12 (some .int)) (hw : (xw X).1 = mLy) (hg : nA X) (hR : xR X = rmOf 6 141 0 0) {r : Int32} {τ : St} (hr : xr X = (some (.int r), τ)) (s0 : Int32) (σ : St) (h : rM_plan_82 s0 σ = some (r, τ)) : Jd X 3 82 [] [.int s0] σ := by
  unfold rM_plan_82 at h
  exact K_iret hX hr dX12_plan_82 h

def rM_plan (v1 : Int32) (σ : St) : Option (Int32 × St) :=
  nm (setI σ 0 0 (0 : Int32)) fun σ_1 => brc (v1 < (-1 : Int32)) (rM_plan_20 σ_1) (bnd2 (rM_carriers σ_1) fun r_4 σ_2 => brc (v1 < ((2 : Int32) * r_4)) (bnd1 (rM_findPlan σ_2) fun σ_5 => brc (¬ v1 = (-1 : Int32)) (chk (decide (¬ (2 : Int32) = 0)) (chk (ib (v1 / (2 : Int32)) 6) (nm (σ_5.1 22 (v1 / (2 : Int32)).toNatClampNeg) fun v2_7 => chk (decide (¬ (2 : Int32) = 0)) (brc (¬ (v1 - v1 / (2 : Int32) * (2 : Int32)) = 0) (chk (decide (¬ (2 : Int32) = 0)) (bnd2 (rM_findBest (v1 / (2 : Int32)) v2_7 σ_5) fun r_10 σ_8 => brc (¬ v2_7 = 0) (rM_plan_82 (σ_8.1 0 34) σ_8) (rM_plan_82 (-1 : Int32) σ_8))) (some (v2_7, σ_5)))))) (chk (ib (4 : Int32) 320) (chk (ib (σ_5.1 6 (4 : Int32).toNatClampNeg) 1407) (some (σ_5.1 21 (σ_5.1 6 (4 : Int32).toNatClampNeg).toNatClampNeg, σ_5))))) (rM_plan_20 σ_2))
set_option maxRecDepth 100000 in
theorem tM_plan {X : CX} (hX : gd X cX12_plan 3 RX12 (some .int)) (hw : (xw X).1 = mLy) (hg : nA X) (hR : xR X = rmOf 6 141 0 0) {r : Int32} {τ : St} (hr : xr X = (some (.int r), τ)) (v1 : Int32) (σ : St) (h : rM_plan v1 σ = some (r, τ)) : Jd X 3 0 [(0, .ref (wad (xw X) 0)), (1, .int v1)] [] σ := by
  unfold rM_plan at h
  refine J_aload_n (q := 0) hX dX12_plan_0 rfl rfl ?_
  refine J_iconst (v := (0 : Int32)) hX dX12_plan_1 (by decide) ?_
  refine K_puti hX (mc_0 hw) cls_X12 (k := 0) (by decide) uw_6_47 rfl rfl rfl dX12_plan_2 h (fun σ_1 h => ?_)
  refine J_iload_n (q := 1) hX dX12_plan_5 rfl rfl ?_
  refine J_iconst (v := (-1 : Int32)) hX dX12_plan_6 (by decide) ?_
  refine K_icmp_lt (tgt := 20) hX dX12_plan_7 rfl h (fun h => ?_) (fun h => ?_)
  · refine J_sub [] rfl ?_
    exact tM_plan_20 hX hw hg hR hr σ_1 h
  · refine J_iload_n (q := 1) hX dX12_plan_10 rfl rfl ?_
    refine J_iconst (v := (2 : Int32)) hX dX12_plan_11 (by decide) ?_
    refine J_aload_n (q := 0) hX dX12_plan_12 rfl rfl ?_
    obtain ⟨r_4, σ_2, hc_3, h⟩ := bnd2_some h
    refine K_callV [] hX hg hR (ctM_carriers hw hc_3) lk_X12_312_X12_carriers md_X12_carriers (mc_0 hw) cls_X12 ⟨by decide, by decide⟩ rfl rfl (Nat.le_of_ble_eq_true rfl) dX12_plan_13 ?_
    refine J_imul hX dX12_plan_16 ?_
    refine K_icmp_lt (tgt := 23) hX dX12_plan_17 rfl h (fun h => ?_) (fun h => ?_)
    · refine J_aload_n (q := 0) hX dX12_plan_23 rfl rfl ?_
      obtain ⟨σ_5, hc_6, h⟩ := bnd1_some h
      refine K_callV [] hX hg hR (ctM_findPlan hw hc_6) lk_X12_415_X12_findPlan md_X12_findPlan (mc_0 hw) cls_X12 ⟨by decide, by decide⟩ rfl rfl (Nat.le_of_ble_eq_true rfl) dX12_plan_24 ?_
      refine J_iload_n (q := 1) hX dX12_plan_27 rfl rfl ?_
      refine J_iconst (v := (-1 : Int32)) hX dX12_plan_28 (by decide) ?_
      refine K_icmp_ne (tgt := 44) hX dX12_plan_29 rfl h (fun h => ?_) (fun h => ?_)
      · refine J_aload_n (q := 0) hX dX12_plan_44 rfl rfl ?_
        refine K_getc 22 hX (mc_0 hw) cls_X12 (k := 38) (by decide) uw_6_85 rfl dX12_plan_45 ?_
        refine J_iload_n (q := 1) hX dX12_plan_48 rfl rfl ?_
        refine J_iconst (v := (2 : Int32)) hX dX12_plan_49 (by decide) ?_
        refine K_idiv hX dX12_plan_50 h (fun h => ?_)
        refine K_iald hX (mc_22 hw) dX12_plan_51 h (fun h => ?_)
        refine K_istore_n (fun v2_7 => [(2, .int v2_7), (0, .ref (wad (xw X) 0)), (1, .int v1)]) hX dX12_plan_52 rfl (by decide) (fun _ => rfl) h (fun v2_7 h => ?_)
        refine J_iload_n (q := 2) hX dX12_plan_53 rfl rfl ?_
        refine J_iconst (v := (2 : Int32)) hX dX12_plan_54 (by decide) ?_
        refine K_irem hX dX12_plan_55 h (fun h => ?_)
        refine K_if_ne (tgt := 61) hX dX12_plan_56 rfl h (fun h => ?_) (fun h => ?_)
        · refine J_aload_n (q := 1) hX dX12_plan_61 rfl rfl ?_
          refine J_iload_n (q := 2) hX dX12_plan_62 rfl rfl ?_
          refine J_iconst (v := (2 : Int32)) hX dX12_plan_63 (by decide) ?_
          refine K_idiv hX dX12_plan_64 h (fun h => ?_)
          refine J_iload_n (q := 0) hX dX12_plan_65 rfl rfl ?_
          obtain ⟨r_10, σ_8, hc_9, h⟩ := bnd2_some h
          refine K_callV [.int (v1 / (2 : Int32)), .int v2_7] hX hg hR (ctM_findBest hw hc_9) lk_X12_412_X12_findBest md_X12_findBest (mc_0 hw) cls_X12 ⟨by decide, by decide⟩ rfl rfl (Nat.le_of_ble_eq_true rfl) dX12_plan_66 ?_
          refine J_pop hX dX12_plan_69 rfl ?_
          refine J_iload_n (q := 0) hX dX12_plan_70 rfl rfl ?_
          refine K_if_ne (tgt := 78) hX dX12_plan_71 rfl h (fun h => ?_) (fun h => ?_)
          · refine J_aload_n (q := 1) hX dX12_plan_78 rfl rfl ?_
            refine K_geti hX (mc_0 hw) cls_X12 (k := 34) (by decide) uw_6_81 rfl dX12_plan_79 ?_
            refine J_sub [] rfl ?_
            exact tM_plan_82 hX hw hg hR hr (σ_8.1 0 34) σ_8 h
          · refine J_iconst (v := (-1 : Int32)) hX dX12_plan_74 (by decide) ?_
            refine J_goto (tgt := 82) hX dX12_plan_75 rfl ?_
            refine J_sub [] rfl ?_
            exact tM_plan_82 hX hw hg hR hr (-1 : Int32) σ_8 h
        · refine J_iload_n (q := 0) hX dX12_plan_59 rfl rfl ?_
          exact K_iret hX hr dX12_plan_60 h
      · refine J_aload_n (q := 0) hX dX12_plan_32 rfl rfl ?_
        refine K_getc 21 hX (mc_0 hw) cls_X12 (k := 37) (by decide) uw_6_84 rfl dX12_plan_33 ?_
        refine J_aload_n (q := 0) hX dX12_plan_36 rfl rfl ?_
        refine K_getc 6 hX (mc_0 hw) cls_X12 (k := 10) (by decide) uw_6_57 rfl dX12_plan_37 ?_
        refine J_iconst (v := (4 : Int32)) hX dX12_plan_40 (by decide) ?_
        refine K_iald hX (mc_6 hw) dX12_plan_41 h (fun h => ?_)
        refine K_iald hX (mc_21 hw) dX12_plan_42 h (fun h => ?_)
        exact K_iret hX hr dX12_plan_43 h
    · refine J_sub [] rfl ?_
      exact tM_plan_20 hX hw hg hR hr σ_2 h
theorem ctM_plan {w : WT} (hw : w.1 = mLy) {v1 : Int32} {σ : St} {r : Int32} {τ : St} (h : rM_plan v1 σ = some (r, τ)) : Ct yX12_plan cX12_plan 3 (some .int) 6 141 w [.ref (wad w 0), .int v1] σ (some (.int r)) τ 0 0 :=
  Ct_intro (fun _ => (0, 0)) (by decide) rfl ⟨rfl, Nat.le_refl _⟩ (Nat.le_of_ble_eq_true rfl) (fun X hX hR hwX hg hr => by subst hwX; exact tM_plan hX hw hg hR hr v1 σ h)

