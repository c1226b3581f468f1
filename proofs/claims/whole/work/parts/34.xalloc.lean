theorem KA_min {X : CX} {cc : ByteArray} {nL : Nat} {own : String} {ret : Option FieldType} {pc : Nat} {lv : List (Nat × Value)} {rest : List Value} {σ : St} {x y : Int32} {idx F Lo mc ms : Nat} (hX : gd X cc nL own ret) (hR : xR X = rmOf F Lo mc ms) (hg : ((xg X) (Kn σ)).1 ≤ mc ∧ ((xg X) (Kn σ)).2 ≤ ms) (hl : Cond.methodLink own idx Lib.Math.min.name ∈ U0 ∧ Cond.static Lib.Math.min.name ∈ U0 ∧ Cond.initialized "java/lang/Math" ∈ U0 ∧ Cond.code Lib.Math.min.name Lib.Math.min.code 2 (some .int) ∈ U0) (hr : 1 ≤ F ∧ 21 ≤ Lo) (hW : (rest.map fun v => v.category).sum ≤ 8) (hd : decode cc pc = .ok (.invokestatic idx, 3)) (kk : Jd X nL (pc + 3) lv (.int (if y < x then y else x) :: rest) σ) : Jd X nL pc lv (.int y :: .int x :: rest) σ := by
  intro H locs ls hH hS hz hlv
  have hu := hX.2.2.2.2.1
  exact va_mmin hX.1 hX.2.1 (hX.2.2.1.trans hlv.1.symm) hX.2.2.2.1 (hu _ hl.1) (hu _ hl.2.1) (hu _ hl.2.2.1) (hu _ hl.2.2.2) (by rw [hR]; exact hr.1) (by rw [hR]; show _ ≤ Lo; omega) (by rw [hR]; exact hg.1) (by rw [hR]; exact hg.2) hd (kk H locs ls hH hS hz hlv)
/-! a law's row is made of the steps that were read -/
def rX_copyOf (hb : Nat) (n : Int32) (σ : St) : Option (Nat × St) := chk (decide (¬ n < 0 ∧ n.toNatClampNeg < 1000) && Pok σ) (some (Kn σ + 2, appK σ (hb + Kn σ) ((List.range n.toNatClampNeg).map (σ.1 21))))
theorem ctX_copyOf {w : WT} (hw : isX w) {hb : Nat} {n : Int32} {σ : St} {d : Nat} {τ : St} (h : rX_copyOf hb n σ = some (d, τ)) : CtA yJ7_copyOf_59c91 cJ7_copyOf_59c91 3 (some (.array .int)) 1 26 w [.ref (wad w 21), .int n] σ (hb + Kn σ) (some (.ref (lawad w τ d))) τ 1 1000 true := by
  have h1 := (chk_some h).1
  simp only [Bool.and_eq_true, decide_eq_true_eq] at h1
  obtain ⟨⟨hn, hlt⟩, hp⟩ := h1
  cases (chk_some h).2
  rw [lawad_new]
  obtain ⟨N, hN⟩ : ∃ N, n.toNatClampNeg = N := ⟨_, rfl⟩
  rw [hN] at hlt ⊢
  have en : n = nI N := by
    obtain ⟨j, hj, rfl⟩ := nI_of hn
    rw [nI_clamp hj] at hN
    rw [hN]
  have hne : ¬ n = 1000 := by
    intro e
    subst e
    have : (1000 : Int32).toNatClampNeg = 1000 := rfl
    omega
  refine CtA_intro (gA (Kn σ)) (by decide) (by simp [gA]) ⟨⟨by rw [Kn_app]; show Kn σ + 1 - Kn σ ≤ 1; omega, fun _ => by rw [Kn_app]; show Kn σ + 1 - Kn σ = 1; omega⟩, by rw [Kn_app]; show 1000 * (Kn σ + 1 - Kn σ) ≤ 1000; omega⟩ (Nat.le_of_ble_eq_true rfl) (fun X hX hR hwX hg hr hs => ?_)
  subst hwX
  show Jd X 3 0 [(0, .ref (wad (xw X) 21)), (1, .int n)] [] σ
  refine J_iload_n (q := 1) hX dJ7_copyOf_59c91_0 rfl rfl ?_
  refine J_aload_n (q := 0) hX dJ7_copyOf_59c91_1 rfl rfl ?_
  refine K_alen hX (xc_21 hw) rfl dJ7_copyOf_59c91_2 ?_
  refine J_icmp_ne (tgt := 14) hX dJ7_copyOf_59c91_3 rfl (fun _ => ?_) (fun h9 => absurd h9 hne)
  refine J_iload_n (q := 1) hX dJ7_copyOf_59c91_14 rfl rfl ?_
  refine J_newL (N := N) (z := hb + Kn σ) hX hw hp uw_1_187 hn hN (by omega) (by rw [hg, hs]; show hb + Kn σ + (Kn σ - Kn σ) = _; omega) (by rw [hg]; exact ⟨by show Kn σ - Kn σ + 1 = Kn σ + 1 - Kn σ; omega, by show 1000 * (Kn σ - Kn σ) + N ≤ 1000 * (Kn σ + 1 - Kn σ); omega⟩) (by rw [hg, hR]; exact ⟨by show Kn σ - Kn σ + 1 ≤ 1; omega, by show 1000 * (Kn σ - Kn σ) + N ≤ 1000; omega⟩) dJ7_copyOf_59c91_15 ?_
  refine J_astore_n (lv' := [(2, .ref (hb + Kn σ)), (0, .ref (wad (xw X) 21)), (1, .int n)]) hX dJ7_copyOf_59c91_17 rfl (by decide) rfl rfl ?_
  refine J_aload_n (q := 1) hX dJ7_copyOf_59c91_18 rfl rfl ?_
  refine J_iconst (v := 0) hX dJ7_copyOf_59c91_19 (by decide) ?_
  refine J_aload_n (q := 0) hX dJ7_copyOf_59c91_20 rfl rfl ?_
  refine J_iconst (v := 0) hX dJ7_copyOf_59c91_21 (by decide) ?_
  refine J_aload_n (q := 1) hX dJ7_copyOf_59c91_22 rfl rfl ?_
  refine K_alen hX (xc_21 hw) rfl dJ7_copyOf_59c91_23 ?_
  refine J_iload_n (q := 2) hX dJ7_copyOf_59c91_24 rfl rfl ?_
  refine KA_min hX hR (by rw [hg, Kn_app]; exact ⟨by show Kn σ + 1 - Kn σ ≤ 1; omega, by show 1000 * (Kn σ + 1 - Kn σ) ≤ 1000; omega⟩) lmath_min_J7_304 ⟨by decide, by decide⟩ (Nat.le_of_ble_eq_true rfl) dJ7_copyOf_59c91_25 ?_
  have emin : (if n < nI 1000 then n else nI 1000) = nI N := by
    rw [if_pos (by rw [en]; exact nI_lt hlt (by decide))]
    exact en
  rw [emin]
  refine J_copyL (N := N) hX hw hp (xc_21 hw) (by omega) (by omega) lcpy_J7_150 (by rw [hR]; exact ⟨by decide, by decide⟩) (Nat.le_of_ble_eq_true rfl) dJ7_copyOf_59c91_28 ?_
  refine J_aload_n (q := 0) hX dJ7_copyOf_59c91_31 rfl rfl ?_
  exact K_aret hX hr dJ7_copyOf_59c91_32 rfl rfl
def rX_made (hb : Nat) (σ : St) : Option (Nat × St) := rX_copyOf hb (σ.1 20 3) σ
theorem ctX_made {w : WT} (hw : isX w) {hb : Nat} {σ : St} {d : Nat} {τ : St} (h : rX_made hb σ = some (d, τ)) : CtA yX2_made cX2_made 1 (some (.array .int)) 2 48 w [.ref (wad w 20)] σ (hb + Kn σ) (some (.ref (lawad w τ d))) τ (Kn τ - Kn σ) (1000 * (Kn τ - Kn σ)) true := by
  have hk : Kn τ = Kn σ + 1 := by
    have h2 := (chk_some h).2
    cases h2
    exact Kn_app _ _ _
  have e1 : Kn τ - Kn σ = 1 := by omega
  rw [e1]
  refine CtA_intro (gA (Kn σ)) (by decide) (by simp [gA]) ⟨⟨by show Kn τ - Kn σ ≤ 1; omega, fun _ => e1⟩, by show 1000 * (Kn τ - Kn σ) ≤ _; omega⟩ (Nat.le_of_ble_eq_true rfl) (fun X hX hR hwX hg hr hs => ?_)
  subst hwX
  show Jd X 1 0 [(0, .ref (wad (xw X) 20))] [] σ
  refine J_aload_n (q := 0) hX dX2_made_0 rfl rfl ?_
  refine K_getc 21 hX (xc_20 hw) cls_X2 (k := 1) (by decide) uw_1_195 rfl dX2_made_1 ?_
  refine J_aload_n (q := 0) hX dX2_made_4 rfl rfl ?_
  refine K_geti hX (xc_20 hw) cls_X2 (k := 3) (by decide) uw_1_197 rfl dX2_made_5 ?_
  refine J_callSA (As := [.ref (wad (xw X) 21), .int (σ.1 20 3)]) (rest := []) hX (ctX_copyOf hw h) (by rw [hg, hs]; show hb + Kn σ + (Kn σ - Kn σ) = _; omega) lk_X2_26_copyOf md_J7_copyOf_59c91 (by rw [hR]; exact ⟨by decide, by decide⟩) (by rw [hg]; exact ⟨by show Kn σ - Kn σ + 1 = Kn τ - Kn σ; omega, by show 1000 * (Kn σ - Kn σ) + 1000 ≤ 1000 * (Kn τ - Kn σ); omega⟩) (by rw [hg, hR]; exact ⟨by show Kn σ - Kn σ + 1 ≤ 1; omega, by show 1000 * (Kn σ - Kn σ) + 1000 ≤ 1000 * 1; omega⟩) rfl rfl (Nat.le_of_ble_eq_true rfl) dX2_made_8 ?_
  exact K_aret hX hr dX2_made_11 rfl rfl
def rX_rreadLaw_79 (hb k0 mc ms : Nat) (σ : St) : Option (Int32 × St) :=
  chk (decide ((1 : Int32) = 0 ∨ (1 : Int32) = 1)) (some ((1 : Int32), σ))
set_option maxRecDepth 100000 in
theorem tX_rreadLaw_79 {hb k0 mc ms : Nat} {X : CX} (hX : gd X cX5_readLaw 3 RX5 (some .boolean)) (hw : isX (xw X)) (hg : xg X = gA k0) (hR : xR X = rmOf 8 175 mc ms) {r : Int32} {τ : St} (hr : xr X = (some (.int r), τ)) (hs : (xs X).heap.size = hb + k0) (σ : St) (h : rX_rreadLaw_79 hb k0 mc ms σ = some (r, τ)) : Jd X 3 79 [] [] σ := by
  unfold rX_rreadLaw_79 at h
  refine J_iconst (v := (1 : Int32)) hX dX5_readLaw_79 (by decide) ?_
  exact K_zret hX hr dX5_readLaw_80 h

def rX_rreadLaw_10 (hb k0 mc ms : Nat) (v1 : Int32) (s0 : Int32) (σ : St) : Option (Int32 × St) :=
  bnd2 (rX_isFirst s0 σ) fun r_3 σ_1 => chk (decide (Kn σ_1 = Kn σ ∧ Kn σ - k0 ≤ mc ∧ 1000 * (Kn σ - k0) ≤ ms)) (brc (¬ r_3 = 0) (bnd1 (rX_tstep σ_1) fun σ_4 => chk (decide (Kn σ_4 = Kn σ_1 ∧ Kn σ_1 - k0 ≤ mc ∧ 1000 * (Kn σ_1 - k0) ≤ ms)) (bnd2 (rX_lreadLaw v1 σ_4) fun r_8 σ_6 => chk (decide (Kn σ_6 = Kn σ_4 ∧ Kn σ_4 - k0 ≤ mc ∧ 1000 * (Kn σ_4 - k0) ≤ ms)) (nm r_8 fun v2_9 => brc (v2_9 = 0) (brc (v1 = 0) (bnd2 (rX_made hb σ_6) fun r_12 σ_10 => chk (decide (k0 ≤ Kn σ_6 ∧ Kn σ_6 ≤ Kn σ_10 ∧ Kn σ_10 - k0 ≤ mc ∧ 1000 * (Kn σ_10 - k0) ≤ ms)) (nm (setP σ_10 10 13 r_12) fun σ_13 => rX_rreadLaw_79 hb k0 mc ms σ_13)) (bnd2 (rX_made hb σ_6) fun r_16 σ_14 => chk (decide (k0 ≤ Kn σ_6 ∧ Kn σ_6 ≤ Kn σ_14 ∧ Kn σ_14 - k0 ≤ mc ∧ 1000 * (Kn σ_14 - k0) ≤ ms)) (nm (setP σ_14 10 12 r_16) fun σ_17 => rX_rreadLaw_79 hb k0 mc ms σ_17))) (bnd2 (rX_wrong v2_9 σ_6) fun r_20 σ_18 => chk (decide (Kn σ_18 = Kn σ_6 ∧ Kn σ_6 - k0 ≤ mc ∧ 1000 * (Kn σ_6 - k0) ≤ ms)) (chk (decide (r_20 = 0 ∨ r_20 = 1)) (some (r_20, σ_18))))))) (chk (decide ((0 : Int32) = 0 ∨ (0 : Int32) = 1)) (some ((0 : Int32), σ_1))))
set_option maxRecDepth 100000 in
theorem tX_rreadLaw_10 {hb k0 mc ms : Nat} {X : CX} (hX : gd X cX5_readLaw 3 RX5 (some .boolean)) (hw : isX (xw X)) (hg : xg X = gA k0) (hR : xR X = rmOf 8 175 mc ms) {r : Int32} {τ : St} (hr : xr X = (some (.int r), τ)) (hs : (xs X).heap.size = hb + k0) (v1 : Int32) (s0 : Int32) (σ : St) (h : rX_rreadLaw_10 hb k0 mc ms v1 s0 σ = some (r, τ)) : Jd X 3 10 [(0, .ref (wad (xw X) 7)), (1, .int v1)] [.int s0, .ref (wad (xw X) 7)] σ := by
  unfold rX_rreadLaw_10 at h
  obtain ⟨r_3, σ_1, hc_2, h⟩ := bnd2_some h
  refine KA_callV [.int s0] hX hg hR (ctX_isFirst hw hc_2) lk_X5_213_X5_isFirst md_X5_isFirst (xc_7 hw) cls_X5 ⟨by decide, by decide⟩ rfl rfl (Nat.le_of_ble_eq_true rfl) dX5_readLaw_10 h (fun h => ?_)
  refine K_if_ne (tgt := 18) hX dX5_readLaw_13 rfl h (fun h => ?_) (fun h => ?_)
  · refine J_aload_n (q := 0) hX dX5_readLaw_18 rfl rfl ?_
    refine K_getc 5 hX (xc_7 hw) cls_X5 (k := 0) (by decide) uw_1_216 rfl dX5_readLaw_19 ?_
    obtain ⟨σ_4, hc_5, h⟩ := bnd1_some h
    refine KA_callV [] hX hg hR (ctX_tstep hw hc_5) lk_X5_123_X8_step md_X8_step (xc_5 hw) cls_X8 ⟨by decide, by decide⟩ rfl rfl (Nat.le_of_ble_eq_true rfl) dX5_readLaw_22 h (fun h => ?_)
    refine J_aload_n (q := 0) hX dX5_readLaw_25 rfl rfl ?_
    refine K_getc 20 hX (xc_7 hw) cls_X5 (k := 1) (by decide) uw_1_217 rfl dX5_readLaw_26 ?_
    refine J_iload_n (q := 1) hX dX5_readLaw_29 rfl rfl ?_
    obtain ⟨r_8, σ_6, hc_7, h⟩ := bnd2_some h
    refine KA_callV [.int v1] hX hg hR (ctX_lreadLaw hw hc_7) lk_X5_216_X2_readLaw md_X2_readLaw (xc_20 hw) cls_X2 ⟨by decide, by decide⟩ rfl rfl (Nat.le_of_ble_eq_true rfl) dX5_readLaw_30 h (fun h => ?_)
    refine K_istore_n (fun v2_9 => [(2, .int v2_9), (0, .ref (wad (xw X) 7)), (1, .int v1)]) hX dX5_readLaw_33 rfl (by decide) (fun _ => rfl) h (fun v2_9 h => ?_)
    refine J_iload_n (q := 0) hX dX5_readLaw_34 rfl rfl ?_
    refine K_if_eq (tgt := 44) hX dX5_readLaw_35 rfl h (fun h => ?_) (fun h => ?_)
    · refine J_iload_n (q := 2) hX dX5_readLaw_44 rfl rfl ?_
      refine K_if_eq (tgt := 65) hX dX5_readLaw_45 rfl h (fun h => ?_) (fun h => ?_)
      · refine J_aload_n (q := 1) hX dX5_readLaw_65 rfl rfl ?_
        refine K_getc 10 hX (xc_7 hw) cls_X5 (k := 7) (by decide) uw_1_223 rfl dX5_readLaw_66 ?_
        refine J_aload_n (q := 1) hX dX5_readLaw_69 rfl rfl ?_
        refine K_getc 20 hX (xc_7 hw) cls_X5 (k := 1) (by decide) uw_1_217 rfl dX5_readLaw_70 ?_
        obtain ⟨r_12, σ_10, hc_11, h⟩ := bnd2_some h
        refine KA_callVA [] hX hg hR hs (ctX_made hw hc_11) lk_X5_219_X2_made md_X2_made (xc_20 hw) cls_X2 ⟨by decide, by decide⟩ rfl rfl (Nat.le_of_ble_eq_true rfl) dX5_readLaw_73 h (fun h => ?_)
        refine K_putp hX (xc_10 hw) cls_X3 (k := 13) (by decide) uw_1_138 rfl rfl rfl dX5_readLaw_76 h (fun σ_13 h => ?_)
        refine J_sub [] rfl ?_
        exact tX_rreadLaw_79 hX hw hg hR hr hs σ_13 h
      · refine J_aload_n (q := 1) hX dX5_readLaw_48 rfl rfl ?_
        refine K_getc 10 hX (xc_7 hw) cls_X5 (k := 7) (by decide) uw_1_223 rfl dX5_readLaw_49 ?_
        refine J_aload_n (q := 1) hX dX5_readLaw_52 rfl rfl ?_
        refine K_getc 20 hX (xc_7 hw) cls_X5 (k := 1) (by decide) uw_1_217 rfl dX5_readLaw_53 ?_
        obtain ⟨r_16, σ_14, hc_15, h⟩ := bnd2_some h
        refine KA_callVA [] hX hg hR hs (ctX_made hw hc_15) lk_X5_219_X2_made md_X2_made (xc_20 hw) cls_X2 ⟨by decide, by decide⟩ rfl rfl (Nat.le_of_ble_eq_true rfl) dX5_readLaw_56 h (fun h => ?_)
        refine K_putp hX (xc_10 hw) cls_X3 (k := 12) (by decide) uw_1_135 rfl rfl rfl dX5_readLaw_59 h (fun σ_17 h => ?_)
        refine J_goto (tgt := 79) hX dX5_readLaw_62 rfl ?_
        refine J_sub [] rfl ?_
        exact tX_rreadLaw_79 hX hw hg hR hr hs σ_17 h
    · refine J_aload_n (q := 1) hX dX5_readLaw_38 rfl rfl ?_
      refine J_iload_n (q := 0) hX dX5_readLaw_39 rfl rfl ?_
      obtain ⟨r_20, σ_18, hc_19, h⟩ := bnd2_some h
      refine KA_callV [.int v2_9] hX hg hR (ctX_wrong hw hc_19) lk_X5_110_X5_wrong md_X5_wrong (xc_7 hw) cls_X5 ⟨by decide, by decide⟩ rfl rfl (Nat.le_of_ble_eq_true rfl) dX5_readLaw_40 h (fun h => ?_)
      exact K_zret hX hr dX5_readLaw_43 h
  · refine J_iconst (v := (0 : Int32)) hX dX5_readLaw_16 (by decide) ?_
    exact K_zret hX hr dX5_readLaw_17 h

def rX_rreadLaw (hb k0 mc ms : Nat) (v1 : Int32) (σ : St) : Option (Int32 × St) :=
  brc (v1 = 0) (rX_rreadLaw_10 hb k0 mc ms v1 (2 : Int32) σ) (rX_rreadLaw_10 hb k0 mc ms v1 (1 : Int32) σ)
set_option maxRecDepth 100000 in
theorem tX_rreadLaw {hb k0 mc ms : Nat} {X : CX} (hX : gd X cX5_readLaw 3 RX5 (some .boolean)) (hw : isX (xw X)) (hg : xg X = gA k0) (hR : xR X = rmOf 8 175 mc ms) {r : Int32} {τ : St} (hr : xr X = (some (.int r), τ)) (hs : (xs X).heap.size = hb + k0) (v1 : Int32) (σ : St) (h : rX_rreadLaw hb k0 mc ms v1 σ = some (r, τ)) : Jd X 3 0 [(0, .ref (wad (xw X) 7)), (1, .int v1)] [] σ := by
  unfold rX_rreadLaw at h
  refine J_aload_n (q := 0) hX dX5_readLaw_0 rfl rfl ?_
  refine J_iload_n (q := 1) hX dX5_readLaw_1 rfl rfl ?_
  refine K_if_eq (tgt := 9) hX dX5_readLaw_2 rfl h (fun h => ?_) (fun h => ?_)
  · refine J_iconst (v := (2 : Int32)) hX dX5_readLaw_9 (by decide) ?_
    refine J_sub [0, 1] rfl ?_
    exact tX_rreadLaw_10 hX hw hg hR hr hs v1 (2 : Int32) σ h
  · refine J_iconst (v := (1 : Int32)) hX dX5_readLaw_5 (by decide) ?_
    refine J_goto (tgt := 10) hX dX5_readLaw_6 rfl ?_
    refine J_sub [0, 1] rfl ?_
    exact tX_rreadLaw_10 hX hw hg hR hr hs v1 (1 : Int32) σ h
theorem ctX_rreadLaw {w : WT} (hw : isX w) {hb mc ms : Nat} {v1 : Int32} {σ : St} {r : Int32} {τ : St} (h : rX_rreadLaw hb (Kn σ) mc ms v1 σ = some (r, τ)) (hm : Kn τ - Kn σ = mc) (hm2 : ms = 1000 * mc) : CtA yX5_readLaw cX5_readLaw 3 (some .boolean) 8 175 w [.ref (wad w 7), .int v1] σ (hb + Kn σ) (some (.int r)) τ mc ms true :=
  CtA_intro (gA (Kn σ)) (by decide) (by simp [gA]) ⟨⟨Nat.le_of_eq hm, fun _ => hm⟩, by show 1000 * (Kn τ - Kn σ) ≤ ms; omega⟩ (Nat.le_of_ble_eq_true rfl) (fun X hX hR hwX hg hr hs => by subst hwX; exact tX_rreadLaw hX hw hg hR hr hs v1 σ h)

def rX_readAll_209 (hb k0 mc ms : Nat) (σ : St) : Option (Int32 × St) :=
  some ((0 : Int32), σ)
set_option maxRecDepth 100000 in
theorem tX_readAll_209 {hb k0 mc ms : Nat} {X : CX} (hX : gd X cX5_readAll 4 RX5 (some .int)) (hw : isX (xw X)) (hg : xg X = gA k0) (hR : xR X = rmOf 9 197 mc ms) {r : Int32} {τ : St} (hr : xr X = (some (.int r), τ)) (hs : (xs X).heap.size = hb + k0) (σ : St) (h : rX_readAll_209 hb k0 mc ms σ = some (r, τ)) : Jd X 4 209 [] [] σ := by
  unfold rX_readAll_209 at h
  refine J_iconst (v := (0 : Int32)) hX dX5_readAll_209 (by decide) ?_
  exact K_iret hX hr dX5_readAll_210 h

def rX_readAll_198 (hb k0 mc ms : Nat) (σ : St) : Option (Int32 × St) :=
  some (σ.1 7 4, σ)
set_option maxRecDepth 100000 in
theorem tX_readAll_198 {hb k0 mc ms : Nat} {X : CX} (hX : gd X cX5_readAll 4 RX5 (some .int)) (hw : isX (xw X)) (hg : xg X = gA k0) (hR : xR X = rmOf 9 197 mc ms) {r : Int32} {τ : St} (hr : xr X = (some (.int r), τ)) (hs : (xs X).heap.size = hb + k0) (σ : St) (h : rX_readAll_198 hb k0 mc ms σ = some (r, τ)) : Jd X 4 198 [(0, .ref (wad (xw X) 7))] [] σ := by
  unfold rX_readAll_198 at h
  refine J_aload_n (q := 0) hX dX5_readAll_198 rfl rfl ?_
  refine K_geti hX (xc_7 hw) cls_X5 (k := 4) (by decide) uw_1_220 rfl dX5_readAll_199 ?_
  exact K_iret hX hr dX5_readAll_202 h

def rX_readAll_184 (hb k0 mc ms : Nat) (k26 : Int32 → St → Option (Int32 × St)) (v1 : Int32) (v3 : Int32) (σ : St) : Option (Int32 × St) :=
  brc (v3 = 0) (rX_readAll_198 hb k0 mc ms σ) (bnd2 (rX_take 32 σ) fun r_17 σ_15 => chk (decide (Kn σ_15 = Kn σ ∧ Kn σ - k0 ≤ mc ∧ 1000 * (Kn σ - k0) ≤ ms)) (brc (¬ r_17 = 0) (nm (v1 + Int32.ofInt 1) fun v1_18 => k26 v1_18 σ_15) (rX_readAll_198 hb k0 mc ms σ_15)))
set_option maxRecDepth 100000 in
theorem tX_readAll_184 {hb k0 mc ms : Nat} {X : CX} (hX : gd X cX5_readAll 4 RX5 (some .int)) (hw : isX (xw X)) (hg : xg X = gA k0) (hR : xR X = rmOf 9 197 mc ms) {r : Int32} {τ : St} (hr : xr X = (some (.int r), τ)) (hs : (xs X).heap.size = hb + k0) {k26 : Int32 → St → Option (Int32 × St)} (hk26 : (∀ (v1 : Int32) (σ : St), k26 v1 σ = some (r, τ) → Jd X 4 26 [(0, .ref (wad (xw X) 7)), (1, .int v1)] [] σ)) (v1 : Int32) (v3 : Int32) (σ : St) (h : rX_readAll_184 hb k0 mc ms k26 v1 v3 σ = some (r, τ)) : Jd X 4 184 [(0, .ref (wad (xw X) 7)), (1, .int v1), (3, .int v3)] [] σ := by
  unfold rX_readAll_184 at h
  refine J_iload_n (q := 2) hX dX5_readAll_184 rfl rfl ?_
  refine K_if_eq (tgt := 198) hX dX5_readAll_185 rfl h (fun h => ?_) (fun h => ?_)
  · refine J_sub [0] rfl ?_
    exact tX_readAll_198 hX hw hg hR hr hs σ h
  · refine J_aload_n (q := 0) hX dX5_readAll_188 rfl rfl ?_
    refine K_gWord 32 hX hw (by decide) uw_4_102 dX5_readAll_189 ?_
    obtain ⟨r_17, σ_15, hc_16, h⟩ := bnd2_some h
    refine KA_callV [.ref (wadW (xw X) 32)] hX hg hR (ctX_take hw hc_16) lk_X5_117_X5_take md_X5_take (xc_7 hw) cls_X5 ⟨by decide, by decide⟩ rfl rfl (Nat.le_of_ble_eq_true rfl) dX5_readAll_192 h (fun h => ?_)
    refine K_if_ne (tgt := 203) hX dX5_readAll_195 rfl h (fun h => ?_) (fun h => ?_)
    · refine K_iinc (q := 1) (fun v1_18 => [(1, .int v1_18), (0, .ref (wad (xw X) 7)), (3, .int v3)]) hX dX5_readAll_203 rfl (by decide) (fun _ => rfl) h (fun v1_18 h => ?_)
      refine J_goto (tgt := 26) hX dX5_readAll_206 rfl ?_
      refine J_sub [1, 0] rfl ?_
      exact hk26 v1_18 σ_15 h
    · refine J_sub [0] rfl ?_
      exact tX_readAll_198 hX hw hg hR hr hs σ_15 h

def rX_readAll_141 (hb k0 mc ms : Nat) (k26 : Int32 → St → Option (Int32 × St)) (v1 : Int32) (s0 : Int32) (σ : St) : Option (Int32 × St) :=
  bnd2 (rX_rreadLaw hb (Kn σ) 2 2000 s0 σ) fun r_9 σ_8 => bnd2 (rX_rreadLaw hb (Kn σ) (Kn σ_8 - Kn σ) (1000 * (Kn σ_8 - Kn σ)) s0 σ) fun r_12 σ_10 => chk (decide (Kn σ_10 = Kn σ_8)) (chk (decide (k0 ≤ Kn σ ∧ Kn σ ≤ Kn σ_10 ∧ Kn σ_10 - k0 ≤ mc ∧ 1000 * (Kn σ_10 - k0) ≤ ms)) (nm r_12 fun v3_14 => rX_readAll_184 hb k0 mc ms k26 v1 v3_14 σ_10))
set_option maxRecDepth 100000 in
theorem tX_readAll_141 {hb k0 mc ms : Nat} {X : CX} (hX : gd X cX5_readAll 4 RX5 (some .int)) (hw : isX (xw X)) (hg : xg X = gA k0) (hR : xR X = rmOf 9 197 mc ms) {r : Int32} {τ : St} (hr : xr X = (some (.int r), τ)) (hs : (xs X).heap.size = hb + k0) {k26 : Int32 → St → Option (Int32 × St)} (hk26 : (∀ (v1 : Int32) (σ : St), k26 v1 σ = some (r, τ) → Jd X 4 26 [(0, .ref (wad (xw X) 7)), (1, .int v1)] [] σ)) (v1 : Int32) (s0 : Int32) (σ : St) (h : rX_readAll_141 hb k0 mc ms k26 v1 s0 σ = some (r, τ)) : Jd X 4 141 [(0, .ref (wad (xw X) 7)), (1, .int v1)] [.int s0, .ref (wad (xw X) 7)] σ := by
  unfold rX_readAll_141 at h
  obtain ⟨r_9, σ_8, _, h⟩ := bnd2_some h
  obtain ⟨r_12, σ_10, hc_11, h⟩ := bnd2_some h
  have hp_13 := of_decide_eq_true (chk_some h).1
  replace h := (chk_some h).2
  rw [← hp_13] at hc_11
  refine KA_callVA [.int s0] hX hg hR hs (ctX_rreadLaw hw hc_11 rfl rfl) lk_X5_93_X5_readLaw md_X5_readLaw (xc_7 hw) cls_X5 ⟨by decide, by decide⟩ rfl rfl (Nat.le_of_ble_eq_true rfl) dX5_readAll_141 h (fun h => ?_)
  refine K_istore_n (fun v3_14 => [(3, .int v3_14), (0, .ref (wad (xw X) 7)), (1, .int v1)]) hX dX5_readAll_144 rfl (by decide) (fun _ => rfl) h (fun v3_14 h => ?_)
  refine J_goto (tgt := 184) hX dX5_readAll_145 rfl ?_
  refine J_sub [1, 2, 0] rfl ?_
  exact tX_readAll_184 hX hw hg hR hr hs hk26 v1 v3_14 σ_10 h

def rX_readAll_128 (hb k0 mc ms : Nat) (k26 : Int32 → St → Option (Int32 × St)) (v1 : Int32) (v2 : Nat) (σ : St) : Option (Int32 × St) :=
  chk (decide (v2 < 42 ∧ 11 < 42)) (brc (¬ v2 = 11) (rX_readAll_141 hb k0 mc ms k26 v1 (0 : Int32) σ) (rX_readAll_141 hb k0 mc ms k26 v1 (1 : Int32) σ))
set_option maxRecDepth 100000 in
theorem tX_readAll_128 {hb k0 mc ms : Nat} {X : CX} (hX : gd X cX5_readAll 4 RX5 (some .int)) (hw : isX (xw X)) (hg : xg X = gA k0) (hR : xR X = rmOf 9 197 mc ms) {r : Int32} {τ : St} (hr : xr X = (some (.int r), τ)) (hs : (xs X).heap.size = hb + k0) {k26 : Int32 → St → Option (Int32 × St)} (hk26 : (∀ (v1 : Int32) (σ : St), k26 v1 σ = some (r, τ) → Jd X 4 26 [(0, .ref (wad (xw X) 7)), (1, .int v1)] [] σ)) (v1 : Int32) (v2 : Nat) (σ : St) (h : rX_readAll_128 hb k0 mc ms k26 v1 v2 σ = some (r, τ)) : Jd X 4 128 [(0, .ref (wad (xw X) 7)), (1, .int v1), (2, .ref (wadW (xw X) v2))] [] σ := by
  unfold rX_readAll_128 at h
  refine J_aload_n (q := 0) hX dX5_readAll_128 rfl rfl ?_
  refine J_aload_n (q := 2) hX dX5_readAll_129 rfl rfl ?_
  refine K_gWord 11 hX hw (by decide) uw_4_5 dX5_readAll_130 ?_
  refine K_acmp_ne (tgt := 140) hX hw dX5_readAll_133 rfl h (fun h => ?_) (fun h => ?_)
  · refine J_iconst (v := (0 : Int32)) hX dX5_readAll_140 (by decide) ?_
    refine J_sub [0, 1] rfl ?_
    exact tX_readAll_141 hX hw hg hR hr hs hk26 v1 (0 : Int32) σ h
  · refine J_iconst (v := (1 : Int32)) hX dX5_readAll_136 (by decide) ?_
    refine J_goto (tgt := 141) hX dX5_readAll_137 rfl ?_
    refine J_sub [0, 1] rfl ?_
    exact tX_readAll_141 hX hw hg hR hr hs hk26 v1 (1 : Int32) σ h

def rX_readAll_169 (hb k0 mc ms : Nat) (k26 : Int32 → St → Option (Int32 × St)) (v1 : Int32) (v2 : Nat) (σ : St) : Option (Int32 × St) :=
  bnd2 (rX_readSetting v2 σ) fun r_21 σ_19 => chk (decide (Kn σ_19 = Kn σ ∧ Kn σ - k0 ≤ mc ∧ 1000 * (Kn σ - k0) ≤ ms)) (nm r_21 fun v3_22 => rX_readAll_184 hb k0 mc ms k26 v1 v3_22 σ_19)
set_option maxRecDepth 100000 in
theorem tX_readAll_169 {hb k0 mc ms : Nat} {X : CX} (hX : gd X cX5_readAll 4 RX5 (some .int)) (hw : isX (xw X)) (hg : xg X = gA k0) (hR : xR X = rmOf 9 197 mc ms) {r : Int32} {τ : St} (hr : xr X = (some (.int r), τ)) (hs : (xs X).heap.size = hb + k0) {k26 : Int32 → St → Option (Int32 × St)} (hk26 : (∀ (v1 : Int32) (σ : St), k26 v1 σ = some (r, τ) → Jd X 4 26 [(0, .ref (wad (xw X) 7)), (1, .int v1)] [] σ)) (v1 : Int32) (v2 : Nat) (σ : St) (h : rX_readAll_169 hb k0 mc ms k26 v1 v2 σ = some (r, τ)) : Jd X 4 169 [(0, .ref (wad (xw X) 7)), (1, .int v1), (2, .ref (wadW (xw X) v2))] [] σ := by
  unfold rX_readAll_169 at h
  refine J_aload_n (q := 0) hX dX5_readAll_169 rfl rfl ?_
  refine J_aload_n (q := 2) hX dX5_readAll_170 rfl rfl ?_
  obtain ⟨r_21, σ_19, hc_20, h⟩ := bnd2_some h
  refine KA_callV [.ref (wadW (xw X) v2)] hX hg hR (ctX_readSetting hw hc_20) lk_X5_106_X5_readSetting md_X5_readSetting (xc_7 hw) cls_X5 ⟨by decide, by decide⟩ rfl rfl (Nat.le_of_ble_eq_true rfl) dX5_readAll_171 h (fun h => ?_)
  refine K_istore_n (fun v3_22 => [(3, .int v3_22), (0, .ref (wad (xw X) 7)), (1, .int v1), (2, .ref (wadW (xw X) v2))]) hX dX5_readAll_174 rfl (by decide) (fun _ => rfl) h (fun v3_22 h => ?_)
  refine J_goto (tgt := 184) hX dX5_readAll_175 rfl ?_
  refine J_sub [1, 2, 0] rfl ?_
  exact tX_readAll_184 hX hw hg hR hr hs hk26 v1 v3_22 σ_19 h

def rX_readAll_26 (hb k0 mc ms : Nat) (k26 : Int32 → St → Option (Int32 × St)) (v1 : Int32) (σ : St) : Option (Int32 × St) :=
  brc ((1000 : Int32) ≤ v1) (rX_readAll_209 hb k0 mc ms σ) (chk (decide ((σ.2.2.1 5 3) < 42 ∧ 40 < 42)) (brc ((σ.2.2.1 5 3) = 40) (rX_readAll_209 hb k0 mc ms σ) (chk (decide ((σ.2.2.1 5 3) < 42 ∧ 0 < 42)) (brc (¬ (σ.2.2.1 5 3) = 0) (chk (decide ((σ.2.2.1 5 3) < 42 ∧ 3 < 42)) (brc (¬ (σ.2.2.1 5 3) = 3) (chk (decide ((σ.2.2.1 5 3) < 42 ∧ 6 < 42)) (brc (¬ (σ.2.2.1 5 3) = 6) (chk (decide ((σ.2.2.1 5 3) < 42 ∧ 10 < 42)) (brc (¬ (σ.2.2.1 5 3) = 10) (chk (decide ((σ.2.2.1 5 3) < 42 ∧ 11 < 42)) (brc ((σ.2.2.1 5 3) = 11) (rX_readAll_128 hb k0 mc ms k26 v1 (σ.2.2.1 5 3) σ) (chk (decide ((σ.2.2.1 5 3) < 42 ∧ 12 < 42)) (brc (¬ (σ.2.2.1 5 3) = 12) (chk (decide ((σ.2.2.1 5 3) < 42 ∧ 13 < 42)) (brc ((σ.2.2.1 5 3) = 13) (rX_readAll_169 hb k0 mc ms k26 v1 (σ.2.2.1 5 3) σ) (chk (decide ((σ.2.2.1 5 3) < 42 ∧ 14 < 42)) (brc ((σ.2.2.1 5 3) = 14) (rX_readAll_169 hb k0 mc ms k26 v1 (σ.2.2.1 5 3) σ) (chk (decide ((σ.2.2.1 5 3) < 42 ∧ 15 < 42)) (brc (¬ (σ.2.2.1 5 3) = 15) (bnd2 (rX_wrong (1 : Int32) σ) fun r_25 σ_23 => chk (decide (Kn σ_23 = Kn σ ∧ Kn σ - k0 ≤ mc ∧ 1000 * (Kn σ - k0) ≤ ms)) (nm r_25 fun v3_26 => rX_readAll_184 hb k0 mc ms k26 v1 v3_26 σ_23)) (rX_readAll_169 hb k0 mc ms k26 v1 (σ.2.2.1 5 3) σ))))))) (rX_readAll_128 hb k0 mc ms k26 v1 (σ.2.2.1 5 3) σ))))) (bnd2 (rX_readOwes σ) fun r_29 σ_27 => chk (decide (Kn σ_27 = Kn σ ∧ Kn σ - k0 ≤ mc ∧ 1000 * (Kn σ - k0) ≤ ms)) (nm r_29 fun v3_30 => rX_readAll_184 hb k0 mc ms k26 v1 v3_30 σ_27)))) (bnd2 (rX_readCarrier σ) fun r_33 σ_31 => chk (decide (Kn σ_31 = Kn σ ∧ Kn σ - k0 ≤ mc ∧ 1000 * (Kn σ - k0) ≤ ms)) (nm r_33 fun v3_34 => rX_readAll_184 hb k0 mc ms k26 v1 v3_34 σ_31)))) (bnd2 (rX_readWay σ) fun r_37 σ_35 => chk (decide (Kn σ_35 = Kn σ ∧ Kn σ - k0 ≤ mc ∧ 1000 * (Kn σ - k0) ≤ ms)) (nm r_37 fun v3_38 => rX_readAll_184 hb k0 mc ms k26 v1 v3_38 σ_35)))) (bnd2 (rX_readStation σ) fun r_41 σ_39 => chk (decide (Kn σ_39 = Kn σ ∧ Kn σ - k0 ≤ mc ∧ 1000 * (Kn σ - k0) ≤ ms)) (nm r_41 fun v3_42 => rX_readAll_184 hb k0 mc ms k26 v1 v3_42 σ_39))))))
set_option maxRecDepth 100000 in
theorem tX_readAll_26b {hb k0 mc ms : Nat} {X : CX} (hX : gd X cX5_readAll 4 RX5 (some .int)) (hw : isX (xw X)) (hg : xg X = gA k0) (hR : xR X = rmOf 9 197 mc ms) {r : Int32} {τ : St} (hr : xr X = (some (.int r), τ)) (hs : (xs X).heap.size = hb + k0) {k26 : Int32 → St → Option (Int32 × St)} (hk26 : (∀ (v1 : Int32) (σ : St), k26 v1 σ = some (r, τ) → Jd X 4 26 [(0, .ref (wad (xw X) 7)), (1, .int v1)] [] σ)) (v1 : Int32) (σ : St) (h : rX_readAll_26 hb k0 mc ms k26 v1 σ = some (r, τ)) : Jd X 4 26 [(0, .ref (wad (xw X) 7)), (1, .int v1)] [] σ := by
  unfold rX_readAll_26 at h
  refine J_iload_n (q := 1) hX dX5_readAll_26 rfl rfl ?_
  refine J_sipush (v := (1000 : Int32)) hX dX5_readAll_27 (by decide) ?_
  refine K_icmp_ge (tgt := 209) hX dX5_readAll_30 rfl h (fun h => ?_) (fun h => ?_)
  · refine J_sub [] rfl ?_
    exact tX_readAll_209 hX hw hg hR hr hs σ h
  · refine J_aload_n (q := 0) hX dX5_readAll_33 rfl rfl ?_
    refine K_getc 5 hX (xc_7 hw) cls_X5 (k := 0) (by decide) uw_1_216 rfl dX5_readAll_34 ?_
    refine K_getw hX (xc_5 hw) cls_X8 (k := 3) (by decide) uw_1_47 rfl dX5_readAll_37 ?_
    refine K_gWord 40 hX hw (by decide) uw_3_164 dX5_readAll_40 ?_
    refine K_acmp_eq (tgt := 209) hX hw dX5_readAll_43 rfl h (fun h => ?_) (fun h => ?_)
    · refine J_sub [] rfl ?_
      exact tX_readAll_209 hX hw hg hR hr hs σ h
    · refine J_aload_n (q := 0) hX dX5_readAll_46 rfl rfl ?_
      refine K_getc 5 hX (xc_7 hw) cls_X5 (k := 0) (by decide) uw_1_216 rfl dX5_readAll_47 ?_
      refine K_getw hX (xc_5 hw) cls_X8 (k := 3) (by decide) uw_1_47 rfl dX5_readAll_50 ?_
      refine J_astore_n (lv' := [(2, .ref (wadW (xw X) (σ.2.2.1 5 3))), (0, .ref (wad (xw X) 7)), (1, .int v1)]) hX dX5_readAll_53 rfl (by decide) rfl rfl ?_
      refine J_aload_n (q := 0) hX dX5_readAll_54 rfl rfl ?_
      refine K_gWord 0 hX hw (by decide) uw_3_165 dX5_readAll_55 ?_
      refine K_acmp_ne (tgt := 69) hX hw dX5_readAll_58 rfl h (fun h => ?_) (fun h => ?_)
      · refine J_aload_n (q := 0) hX dX5_readAll_69 rfl rfl ?_
        refine K_gWord 3 hX hw (by decide) uw_3_201 dX5_readAll_70 ?_
        refine K_acmp_ne (tgt := 84) hX hw dX5_readAll_73 rfl h (fun h => ?_) (fun h => ?_)
        · refine J_aload_n (q := 0) hX dX5_readAll_84 rfl rfl ?_
          refine K_gWord 6 hX hw (by decide) uw_3_227 dX5_readAll_85 ?_
          refine K_acmp_ne (tgt := 99) hX hw dX5_readAll_88 rfl h (fun h => ?_) (fun h => ?_)
          · refine J_aload_n (q := 0) hX dX5_readAll_99 rfl rfl ?_
            refine K_gWord 10 hX hw (by decide) uw_3_239 dX5_readAll_100 ?_
            refine K_acmp_ne (tgt := 114) hX hw dX5_readAll_103 rfl h (fun h => ?_) (fun h => ?_)
            · refine J_aload_n (q := 0) hX dX5_readAll_114 rfl rfl ?_
              refine K_gWord 11 hX hw (by decide) uw_4_5 dX5_readAll_115 ?_
              refine K_acmp_eq (tgt := 128) hX hw dX5_readAll_118 rfl h (fun h => ?_) (fun h => ?_)
              · refine J_sub [1, 2, 0] rfl ?_
                exact tX_readAll_128 hX hw hg hR hr hs hk26 v1 (σ.2.2.1 5 3) σ h
              · refine J_aload_n (q := 0) hX dX5_readAll_121 rfl rfl ?_
                refine K_gWord 12 hX hw (by decide) uw_4_7 dX5_readAll_122 ?_
                refine K_acmp_ne (tgt := 148) hX hw dX5_readAll_125 rfl h (fun h => ?_) (fun h => ?_)
                · refine J_aload_n (q := 0) hX dX5_readAll_148 rfl rfl ?_
                  refine K_gWord 13 hX hw (by decide) uw_4_92 dX5_readAll_149 ?_
                  refine K_acmp_eq (tgt := 169) hX hw dX5_readAll_152 rfl h (fun h => ?_) (fun h => ?_)
                  · refine J_sub [1, 2, 0] rfl ?_
                    exact tX_readAll_169 hX hw hg hR hr hs hk26 v1 (σ.2.2.1 5 3) σ h
                  · refine J_aload_n (q := 0) hX dX5_readAll_155 rfl rfl ?_
                    refine K_gWord 14 hX hw (by decide) uw_4_94 dX5_readAll_156 ?_
                    refine K_acmp_eq (tgt := 169) hX hw dX5_readAll_159 rfl h (fun h => ?_) (fun h => ?_)
                    · refine J_sub [1, 2, 0] rfl ?_
                      exact tX_readAll_169 hX hw hg hR hr hs hk26 v1 (σ.2.2.1 5 3) σ h
                    · refine J_aload_n (q := 0) hX dX5_readAll_162 rfl rfl ?_
                      refine K_gWord 15 hX hw (by decide) uw_4_96 dX5_readAll_163 ?_
                      refine K_acmp_ne (tgt := 178) hX hw dX5_readAll_166 rfl h (fun h => ?_) (fun h => ?_)
                      · refine J_aload_n (q := 1) hX dX5_readAll_178 rfl rfl ?_
                        refine J_iconst (v := (1 : Int32)) hX dX5_readAll_179 (by decide) ?_
                        obtain ⟨r_25, σ_23, hc_24, h⟩ := bnd2_some h
                        refine KA_callV [.int (1 : Int32)] hX hg hR (ctX_wrong hw hc_24) lk_X5_110_X5_wrong md_X5_wrong (xc_7 hw) cls_X5 ⟨by decide, by decide⟩ rfl rfl (Nat.le_of_ble_eq_true rfl) dX5_readAll_180 h (fun h => ?_)
                        refine K_istore_n (fun v3_26 => [(3, .int v3_26), (2, .ref (wadW (xw X) (σ.2.2.1 5 3))), (0, .ref (wad (xw X) 7)), (1, .int v1)]) hX dX5_readAll_183 rfl (by decide) (fun _ => rfl) h (fun v3_26 h => ?_)
                        refine J_sub [2, 3, 0] rfl ?_
                        exact tX_readAll_184 hX hw hg hR hr hs hk26 v1 v3_26 σ_23 h
                      · refine J_sub [1, 2, 0] rfl ?_
                        exact tX_readAll_169 hX hw hg hR hr hs hk26 v1 (σ.2.2.1 5 3) σ h
                · refine J_sub [1, 2, 0] rfl ?_
                  exact tX_readAll_128 hX hw hg hR hr hs hk26 v1 (σ.2.2.1 5 3) σ h
            · refine J_aload_n (q := 1) hX dX5_readAll_106 rfl rfl ?_
              obtain ⟨r_29, σ_27, hc_28, h⟩ := bnd2_some h
              refine KA_callV [] hX hg hR (ctX_readOwes hw hc_28) lk_X5_84_X5_readOwes md_X5_readOwes (xc_7 hw) cls_X5 ⟨by decide, by decide⟩ rfl rfl (Nat.le_of_ble_eq_true rfl) dX5_readAll_107 h (fun h => ?_)
              refine K_istore_n (fun v3_30 => [(3, .int v3_30), (2, .ref (wadW (xw X) (σ.2.2.1 5 3))), (0, .ref (wad (xw X) 7)), (1, .int v1)]) hX dX5_readAll_110 rfl (by decide) (fun _ => rfl) h (fun v3_30 h => ?_)
              refine J_goto (tgt := 184) hX dX5_readAll_111 rfl ?_
              refine J_sub [2, 3, 0] rfl ?_
              exact tX_readAll_184 hX hw hg hR hr hs hk26 v1 v3_30 σ_27 h
          · refine J_aload_n (q := 1) hX dX5_readAll_91 rfl rfl ?_
            obtain ⟨r_33, σ_31, hc_32, h⟩ := bnd2_some h
            refine KA_callV [] hX hg hR (ctX_readCarrier hw hc_32) lk_X5_78_X5_readCarrier md_X5_readCarrier (xc_7 hw) cls_X5 ⟨by decide, by decide⟩ rfl rfl (Nat.le_of_ble_eq_true rfl) dX5_readAll_92 h (fun h => ?_)
            refine K_istore_n (fun v3_34 => [(3, .int v3_34), (2, .ref (wadW (xw X) (σ.2.2.1 5 3))), (0, .ref (wad (xw X) 7)), (1, .int v1)]) hX dX5_readAll_95 rfl (by decide) (fun _ => rfl) h (fun v3_34 h => ?_)
            refine J_goto (tgt := 184) hX dX5_readAll_96 rfl ?_
            refine J_sub [2, 3, 0] rfl ?_
            exact tX_readAll_184 hX hw hg hR hr hs hk26 v1 v3_34 σ_31 h
        · refine J_aload_n (q := 1) hX dX5_readAll_76 rfl rfl ?_
          obtain ⟨r_37, σ_35, hc_36, h⟩ := bnd2_some h
          refine KA_callV [] hX hg hR (ctX_readWay hw hc_36) lk_X5_72_X5_readWay md_X5_readWay (xc_7 hw) cls_X5 ⟨by decide, by decide⟩ rfl rfl (Nat.le_of_ble_eq_true rfl) dX5_readAll_77 h (fun h => ?_)
          refine K_istore_n (fun v3_38 => [(3, .int v3_38), (2, .ref (wadW (xw X) (σ.2.2.1 5 3))), (0, .ref (wad (xw X) 7)), (1, .int v1)]) hX dX5_readAll_80 rfl (by decide) (fun _ => rfl) h (fun v3_38 h => ?_)
          refine J_goto (tgt := 184) hX dX5_readAll_81 rfl ?_
          refine J_sub [2, 3, 0] rfl ?_
          exact tX_readAll_184 hX hw hg hR hr hs hk26 v1 v3_38 σ_35 h
      · refine J_aload_n (q := 1) hX dX5_readAll_61 rfl rfl ?_
        obtain ⟨r_41, σ_39, hc_40, h⟩ := bnd2_some h
        refine KA_callV [] hX hg hR (ctX_readStation hw hc_40) lk_X5_65_X5_readStation md_X5_readStation (xc_7 hw) cls_X5 ⟨by decide, by decide⟩ rfl rfl (Nat.le_of_ble_eq_true rfl) dX5_readAll_62 h (fun h => ?_)
        refine K_istore_n (fun v3_42 => [(3, .int v3_42), (2, .ref (wadW (xw X) (σ.2.2.1 5 3))), (0, .ref (wad (xw X) 7)), (1, .int v1)]) hX dX5_readAll_65 rfl (by decide) (fun _ => rfl) h (fun v3_42 h => ?_)
        refine J_goto (tgt := 184) hX dX5_readAll_66 rfl ?_
        refine J_sub [2, 3, 0] rfl ?_
        exact tX_readAll_184 hX hw hg hR hr hs hk26 v1 v3_42 σ_39 h
def rX_readAll_26L (hb k0 mc ms : Nat) : ((Int32 × St) → Option (Int32 × St)) → (Int32 × St) → Option (Int32 × St) := fun k a => rX_readAll_26 hb k0 mc ms (fun v1 σ => k (v1, σ)) a.1 a.2
theorem tX_readAll_26 {hb k0 mc ms : Nat} {X : CX} (hX : gd X cX5_readAll 4 RX5 (some .int)) (hw : isX (xw X)) (hg : xg X = gA k0) (hR : xR X = rmOf 9 197 mc ms) {r : Int32} {τ : St} (hr : xr X = (some (.int r), τ)) (hs : (xs X).heap.size = hb + k0) (n : Nat) (v1 : Int32) (σ : St) (h : lp (rX_readAll_26L hb k0 mc ms) n (v1, σ) = some (r, τ)) : Jd X 4 26 [(0, .ref (wad (xw X) 7)), (1, .int v1)] [] σ :=
  lp_ind (F := rX_readAll_26L hb k0 mc ms) (P := fun a => Jd X 4 26 [(0, .ref (wad (xw X) 7)), (1, .int a.1)] [] a.2) (fun k a hk h => tX_readAll_26b hX hw hg hR hr hs (fun v1 σ h => hk (v1, σ) h) a.1 a.2 h) n (v1, σ) h

def rX_readAll (hb k0 mc ms : Nat) (σ : St) : Option (Int32 × St) :=
  bnd1 (rX_clear σ) fun σ_1 => chk (decide (Kn σ_1 = Kn σ ∧ Kn σ - k0 ≤ mc ∧ 1000 * (Kn σ - k0) ≤ ms)) (nm (setI σ_1 7 4 (0 : Int32)) fun σ_3 => nm (setI σ_3 7 5 (0 : Int32)) fun σ_4 => bnd1 (rX_ttoStart σ_4) fun σ_5 => chk (decide (Kn σ_5 = Kn σ_4 ∧ Kn σ_4 - k0 ≤ mc ∧ 1000 * (Kn σ_4 - k0) ≤ ms)) (nm (0 : Int32) fun v1_7 => lp (rX_readAll_26L hb k0 mc ms) fu (v1_7, σ_5)))
set_option maxRecDepth 100000 in
theorem tX_readAll {hb k0 mc ms : Nat} {X : CX} (hX : gd X cX5_readAll 4 RX5 (some .int)) (hw : isX (xw X)) (hg : xg X = gA k0) (hR : xR X = rmOf 9 197 mc ms) {r : Int32} {τ : St} (hr : xr X = (some (.int r), τ)) (hs : (xs X).heap.size = hb + k0) (σ : St) (h : rX_readAll hb k0 mc ms σ = some (r, τ)) : Jd X 4 0 [(0, .ref (wad (xw X) 7))] [] σ := by
  unfold rX_readAll at h
  refine J_aload_n (q := 0) hX dX5_readAll_0 rfl rfl ?_
  refine K_getc 10 hX (xc_7 hw) cls_X5 (k := 7) (by decide) uw_1_223 rfl dX5_readAll_1 ?_
  obtain ⟨σ_1, hc_2, h⟩ := bnd1_some h
  refine KA_callV [] hX hg hR (ctX_clear hw hc_2) lk_X5_38_X3_clear md_X3_clear (xc_10 hw) cls_X3 ⟨by decide, by decide⟩ rfl rfl (Nat.le_of_ble_eq_true rfl) dX5_readAll_4 h (fun h => ?_)
  refine J_aload_n (q := 0) hX dX5_readAll_7 rfl rfl ?_
  refine J_iconst (v := (0 : Int32)) hX dX5_readAll_8 (by decide) ?_
  refine K_puti hX (xc_7 hw) cls_X5 (k := 4) (by decide) uw_1_220 rfl rfl rfl dX5_readAll_9 h (fun σ_3 h => ?_)
  refine J_aload_n (q := 0) hX dX5_readAll_12 rfl rfl ?_
  refine J_iconst (v := (0 : Int32)) hX dX5_readAll_13 (by decide) ?_
  refine K_puti hX (xc_7 hw) cls_X5 (k := 5) (by decide) uw_1_221 rfl rfl rfl dX5_readAll_14 h (fun σ_4 h => ?_)
  refine J_aload_n (q := 0) hX dX5_readAll_17 rfl rfl ?_
  refine K_getc 5 hX (xc_7 hw) cls_X5 (k := 0) (by decide) uw_1_216 rfl dX5_readAll_18 ?_
  obtain ⟨σ_5, hc_6, h⟩ := bnd1_some h
  refine KA_callV [] hX hg hR (ctX_ttoStart hw hc_6) lk_X5_48_X8_toStart md_X8_toStart (xc_5 hw) cls_X8 ⟨by decide, by decide⟩ rfl rfl (Nat.le_of_ble_eq_true rfl) dX5_readAll_21 h (fun h => ?_)
  refine J_iconst (v := (0 : Int32)) hX dX5_readAll_24 (by decide) ?_
  refine K_istore_n (fun v1_7 => [(1, .int v1_7), (0, .ref (wad (xw X) 7))]) hX dX5_readAll_25 rfl (by decide) (fun _ => rfl) h (fun v1_7 h => ?_)
  refine J_sub [1, 0] rfl ?_
  exact tX_readAll_26 hX hw hg hR hr hs fu v1_7 σ_5 h
theorem ctX_readAll {w : WT} (hw : isX w) {hb mc ms : Nat} {σ : St} {r : Int32} {τ : St} (h : rX_readAll hb (Kn σ) mc ms σ = some (r, τ)) (hm : Kn τ - Kn σ = mc) (hm2 : ms = 1000 * mc) : CtA yX5_readAll cX5_readAll 4 (some .int) 9 197 w [.ref (wad w 7)] σ (hb + Kn σ) (some (.int r)) τ mc ms true :=
  CtA_intro (gA (Kn σ)) (by decide) (by simp [gA]) ⟨⟨Nat.le_of_eq hm, fun _ => hm⟩, by show 1000 * (Kn τ - Kn σ) ≤ ms; omega⟩ (Nat.le_of_ble_eq_true rfl) (fun X hX hR hwX hg hr hs => by subst hwX; exact tX_readAll hX hw hg hR hr hs  σ h)

def rX_mountain_65 (hb k0 mc ms : Nat) (k65 : Int32 → St → Option (Int32 × St)) (v2 : Int32) (σ : St) : Option (Int32 × St) :=
  brc ((4 : Int32) ≤ v2) (bnd1 (rX_forgetAnswers σ) fun σ_17 => chk (decide (Kn σ_17 = Kn σ ∧ Kn σ - k0 ≤ mc ∧ 1000 * (Kn σ - k0) ≤ ms)) (some ((0 : Int32), σ_17))) (chk (ib v2 4) (nm (setI σ 4 v2.toNatClampNeg (vp_nar .boolean (0 : Int32))) fun σ_19 => nm (v2 + Int32.ofInt 1) fun v2_20 => k65 v2_20 σ_19))
set_option maxRecDepth 100000 in
theorem tX_mountain_65b {hb k0 mc ms : Nat} {X : CX} (hX : gd X cX11_mountain 3 RX11 (some .int)) (hw : isX (xw X)) (hg : xg X = gA k0) (hR : xR X = rmOf 20 469 mc ms) {r : Int32} {τ : St} (hr : xr X = (some (.int r), τ)) (hs : (xs X).heap.size = hb + k0) {k65 : Int32 → St → Option (Int32 × St)} (hk65 : (∀ (v2 : Int32) (σ : St), k65 v2 σ = some (r, τ) → Jd X 3 65 [(0, .ref (wad (xw X) 0)), (2, .int v2)] [] σ)) (v2 : Int32) (σ : St) (h : rX_mountain_65 hb k0 mc ms k65 v2 σ = some (r, τ)) : Jd X 3 65 [(0, .ref (wad (xw X) 0)), (2, .int v2)] [] σ := by
  unfold rX_mountain_65 at h
  refine J_iload_n (q := 1) hX dX11_mountain_65 rfl rfl ?_
  refine J_iconst (v := (4 : Int32)) hX dX11_mountain_66 (by decide) ?_
  refine K_icmp_ge (tgt := 83) hX dX11_mountain_67 rfl h (fun h => ?_) (fun h => ?_)
  · refine J_aload_n (q := 0) hX dX11_mountain_83 rfl rfl ?_
    obtain ⟨σ_17, hc_18, h⟩ := bnd1_some h
    refine KA_callV [] hX hg hR (ctX_forgetAnswers hw hc_18) lk_X11_121_X11_forgetAnswers md_X11_forgetAnswers (xc_0 hw) cls_X11 ⟨by decide, by decide⟩ rfl rfl (Nat.le_of_ble_eq_true rfl) dX11_mountain_84 h (fun h => ?_)
    refine J_iconst (v := (0 : Int32)) hX dX11_mountain_87 (by decide) ?_
    exact K_iret hX hr dX11_mountain_88 h
  · refine J_aload_n (q := 0) hX dX11_mountain_70 rfl rfl ?_
    refine K_getc 4 hX (xc_0 hw) cls_X11 (k := 13) (by decide) uw_3_29 rfl dX11_mountain_71 ?_
    refine J_iload_n (q := 1) hX dX11_mountain_74 rfl rfl ?_
    refine J_iconst (v := (0 : Int32)) hX dX11_mountain_75 (by decide) ?_
    refine K_zast hX (xc_4 hw) dX11_mountain_76 h (fun σ_19 h => ?_)
    refine K_iinc (q := 1) (fun v2_20 => [(2, .int v2_20), (0, .ref (wad (xw X) 0))]) hX dX11_mountain_77 rfl (by decide) (fun _ => rfl) h (fun v2_20 h => ?_)
    refine J_goto (tgt := 65) hX dX11_mountain_80 rfl ?_
    refine J_sub [1, 0] rfl ?_
    exact hk65 v2_20 σ_19 h
def rX_mountain_65L (hb k0 mc ms : Nat) : ((Int32 × St) → Option (Int32 × St)) → (Int32 × St) → Option (Int32 × St) := fun k a => rX_mountain_65 hb k0 mc ms (fun v2 σ => k (v2, σ)) a.1 a.2
theorem tX_mountain_65 {hb k0 mc ms : Nat} {X : CX} (hX : gd X cX11_mountain 3 RX11 (some .int)) (hw : isX (xw X)) (hg : xg X = gA k0) (hR : xR X = rmOf 20 469 mc ms) {r : Int32} {τ : St} (hr : xr X = (some (.int r), τ)) (hs : (xs X).heap.size = hb + k0) (n : Nat) (v2 : Int32) (σ : St) (h : lp (rX_mountain_65L hb k0 mc ms) n (v2, σ) = some (r, τ)) : Jd X 3 65 [(0, .ref (wad (xw X) 0)), (2, .int v2)] [] σ :=
  lp_ind (F := rX_mountain_65L hb k0 mc ms) (P := fun a => Jd X 3 65 [(0, .ref (wad (xw X) 0)), (2, .int a.1)] [] a.2) (fun k a hk h => tX_mountain_65b hX hw hg hR hr hs (fun v2 σ h => hk (v2, σ) h) a.1 a.2 h) n (v2, σ) h

def rX_mountain (hb k0 mc ms : Nat) (σ : St) : Option (Int32 × St) :=
  bnd2 (rX_readAll hb (Kn σ) 2 2000 σ) fun r_2 σ_1 => bnd2 (rX_readAll hb (Kn σ) (Kn σ_1 - Kn σ) (1000 * (Kn σ_1 - Kn σ)) σ) fun r_5 σ_3 => chk (decide (Kn σ_3 = Kn σ_1)) (chk (decide (k0 ≤ Kn σ ∧ Kn σ ≤ Kn σ_3 ∧ Kn σ_3 - k0 ≤ mc ∧ 1000 * (Kn σ_3 - k0) ≤ ms)) (nm r_5 fun v1_7 => nm (setI σ_3 5 2 (0 : Int32)) fun σ_8 => brc (v1_7 = 0) (bnd1 (rX_mcopy σ_8) fun σ_9 => chk (decide (Kn σ_9 = Kn σ_8 ∧ Kn σ_8 - k0 ≤ mc ∧ 1000 * (Kn σ_8 - k0) ≤ ms)) (bnd1 (rX_rfind σ_9) fun σ_11 => chk (decide (Kn σ_11 = Kn σ_9 ∧ Kn σ_9 - k0 ≤ mc ∧ 1000 * (Kn σ_9 - k0) ≤ ms)) (bnd1 (rX_begin σ_11) fun σ_13 => chk (decide (Kn σ_13 = Kn σ_11 ∧ Kn σ_11 - k0 ≤ mc ∧ 1000 * (Kn σ_11 - k0) ≤ ms)) (nm (setI σ_13 0 11 (0 : Int32)) fun σ_15 => nm (0 : Int32) fun v2_16 => lp (rX_mountain_65L hb k0 mc ms) fu (v2_16, σ_15))))) (some (v1_7, σ_8))))
set_option maxRecDepth 100000 in
theorem tX_mountain {hb k0 mc ms : Nat} {X : CX} (hX : gd X cX11_mountain 3 RX11 (some .int)) (hw : isX (xw X)) (hg : xg X = gA k0) (hR : xR X = rmOf 20 469 mc ms) {r : Int32} {τ : St} (hr : xr X = (some (.int r), τ)) (hs : (xs X).heap.size = hb + k0) (σ : St) (h : rX_mountain hb k0 mc ms σ = some (r, τ)) : Jd X 3 0 [(0, .ref (wad (xw X) 0))] [] σ := by
  unfold rX_mountain at h
  refine J_aload_n (q := 0) hX dX11_mountain_0 rfl rfl ?_
  refine K_getc 7 hX (xc_0 hw) cls_X11 (k := 1) (by decide) uw_3_17 rfl dX11_mountain_1 ?_
  obtain ⟨r_2, σ_1, _, h⟩ := bnd2_some h
  obtain ⟨r_5, σ_3, hc_4, h⟩ := bnd2_some h
  have hp_6 := of_decide_eq_true (chk_some h).1
  replace h := (chk_some h).2
  rw [← hp_6] at hc_4
  refine KA_callVA [] hX hg hR hs (ctX_readAll hw hc_4 rfl rfl) lk_X11_105_X5_readAll md_X5_readAll (xc_7 hw) cls_X5 ⟨by decide, by decide⟩ rfl rfl (Nat.le_of_ble_eq_true rfl) dX11_mountain_4 h (fun h => ?_)
  refine K_istore_n (fun v1_7 => [(1, .int v1_7), (0, .ref (wad (xw X) 0))]) hX dX11_mountain_7 rfl (by decide) (fun _ => rfl) h (fun v1_7 h => ?_)
  refine J_aload_n (q := 1) hX dX11_mountain_8 rfl rfl ?_
  refine K_getc 5 hX (xc_0 hw) cls_X11 (k := 0) (by decide) uw_3_16 rfl dX11_mountain_9 ?_
  refine J_iconst (v := (0 : Int32)) hX dX11_mountain_12 (by decide) ?_
  refine K_puti hX (xc_5 hw) cls_X8 (k := 2) (by decide) uw_1_44 rfl rfl rfl dX11_mountain_13 h (fun σ_8 h => ?_)
  refine J_iload_n (q := 0) hX dX11_mountain_16 rfl rfl ?_
  refine K_if_eq (tgt := 22) hX dX11_mountain_17 rfl h (fun h => ?_) (fun h => ?_)
  · refine J_aload_n (q := 1) hX dX11_mountain_22 rfl rfl ?_
    refine K_getc 23 hX (xc_0 hw) cls_X11 (k := 2) (by decide) uw_3_18 rfl dX11_mountain_23 ?_
    refine J_aload_n (q := 1) hX dX11_mountain_26 rfl rfl ?_
    refine K_getc 7 hX (xc_0 hw) cls_X11 (k := 1) (by decide) uw_3_17 rfl dX11_mountain_27 ?_
    refine K_getc 10 hX (xc_7 hw) cls_X5 (k := 7) (by decide) uw_1_224 rfl dX11_mountain_30 ?_
    obtain ⟨σ_9, hc_10, h⟩ := bnd1_some h
    refine KA_callV [.ref (wad (xw X) 10)] hX hg hR (ctX_mcopy hw hc_10) lk_X11_112_X3_copyFrom md_X3_copyFrom (xc_23 hw) cls_X3 ⟨by decide, by decide⟩ rfl rfl (Nat.le_of_ble_eq_true rfl) dX11_mountain_33 h (fun h => ?_)
    refine J_aload_n (q := 1) hX dX11_mountain_36 rfl rfl ?_
    refine K_getc 42 hX (xc_0 hw) cls_X11 (k := 4) (by decide) uw_3_20 rfl dX11_mountain_37 ?_
    refine J_aload_n (q := 1) hX dX11_mountain_40 rfl rfl ?_
    refine K_getc 23 hX (xc_0 hw) cls_X11 (k := 2) (by decide) uw_3_18 rfl dX11_mountain_41 ?_
    obtain ⟨σ_11, hc_12, h⟩ := bnd1_some h
    refine KA_callV [.ref (wad (xw X) 23)] hX hg hR (ctX_rfind hw hc_12) lk_X11_115_X6_find md_X6_find (xc_42 hw) cls_X6 ⟨by decide, by decide⟩ rfl rfl (Nat.le_of_ble_eq_true rfl) dX11_mountain_44 h (fun h => ?_)
    refine J_aload_n (q := 1) hX dX11_mountain_47 rfl rfl ?_
    refine K_getc 33 hX (xc_0 hw) cls_X11 (k := 3) (by decide) uw_3_19 rfl dX11_mountain_48 ?_
    refine J_aload_n (q := 1) hX dX11_mountain_51 rfl rfl ?_
    refine K_getc 23 hX (xc_0 hw) cls_X11 (k := 2) (by decide) uw_3_18 rfl dX11_mountain_52 ?_
    obtain ⟨σ_13, hc_14, h⟩ := bnd1_some h
    refine KA_callV [.ref (wad (xw X) 23)] hX hg hR (ctX_begin hw hc_14) lk_X11_93_X0_begin md_X0_begin (xc_33 hw) cls_X0 ⟨by decide, by decide⟩ rfl rfl (Nat.le_of_ble_eq_true rfl) dX11_mountain_55 h (fun h => ?_)
    refine J_aload_n (q := 1) hX dX11_mountain_58 rfl rfl ?_
    refine J_iconst (v := (0 : Int32)) hX dX11_mountain_59 (by decide) ?_
    refine K_puti hX (xc_0 hw) cls_X11 (k := 11) (by decide) uw_3_27 rfl rfl rfl dX11_mountain_60 h (fun σ_15 h => ?_)
    refine J_iconst (v := (0 : Int32)) hX dX11_mountain_63 (by decide) ?_
    refine K_istore_n (fun v2_16 => [(2, .int v2_16), (1, .int v1_7), (0, .ref (wad (xw X) 0))]) hX dX11_mountain_64 rfl (by decide) (fun _ => rfl) h (fun v2_16 h => ?_)
    refine J_sub [2, 0] rfl ?_
    exact tX_mountain_65 hX hw hg hR hr hs fu v2_16 σ_15 h
  · refine J_iload_n (q := 0) hX dX11_mountain_20 rfl rfl ?_
    exact K_iret hX hr dX11_mountain_21 h
theorem ctX_mountain {w : WT} (hw : isX w) {hb mc ms : Nat} {σ : St} {r : Int32} {τ : St} (h : rX_mountain hb (Kn σ) mc ms σ = some (r, τ)) (hm : Kn τ - Kn σ = mc) (hm2 : ms = 1000 * mc) : CtA yX11_mountain cX11_mountain 3 (some .int) 20 469 w [.ref (wad w 0)] σ (hb + Kn σ) (some (.int r)) τ mc ms true :=
  CtA_intro (gA (Kn σ)) (by decide) (by simp [gA]) ⟨⟨Nat.le_of_eq hm, fun _ => hm⟩, by show 1000 * (Kn τ - Kn σ) ≤ ms; omega⟩ (Nat.le_of_ble_eq_true rfl) (fun X hX hR hwX hg hr hs => by subst hwX; exact tX_mountain hX hw hg hR hr hs  σ h)

