/-! plan -/
theorem GX_p {T R D Mk U : Vw} {n : Nat} {tp : Nat → Nat} {LD LP : List Nat} {σ τ : St} (h : pX σ τ) (ha : XAp T (dn D) R LD τ) (hx : GX T R D Mk U n tp LD LP σ) : GX T R D Mk U n tp LD LP τ := by
  obtain ⟨a1, a2, a3, a4, a5, a6, a7, a8, a9⟩ := hx
  have g : ∀ i, i ∉ [46, 47, 48, 49, 50, 51, 52, 53] → τ.1 i = σ.1 i := fun i hi => h.1 i (by simp at hi ⊢; omega) (by simp at hi; omega)
  refine ⟨XMt_fr (fun i h1 h2 => g i (by simp; omega)) a1, XD_fr (fun i h1 h2 => g i (by simp; omega)) (by rw [h.2.2]) a2, XR_fr (by rw [g 42 (by decide)]) (g 43 (by decide)) (g 44 (by decide)) a3, XK_fr (fun i h1 => g i (by simp; omega)) (fun i _ _ => by rw [h.2.2]) a4, XU_fr (by rw [g 0 (by decide)]) (g 1 (by decide)) (g 2 (by decide)) a5, XP_fr (by rw [g 5 (by decide)]) (g 6 (by decide)) a6, XL_fr (by rw [h.2.2]) a7, ⟨Or.inr ha, ?_⟩, XN_fr (by rw [h.2.2]) a9⟩
  rw [g 54 (by decide), g 56 (by decide)]
  exact a8.2
theorem GM_q {T R D Mk U : Vw} {n : Nat} {tp : Nat → Nat} {LD LP : List Nat} {σ τ : St} (hw : GW T R D Mk U n tp LD LP) (h : qM σ τ) (hx : GM T R D Mk U n tp LD LP σ) : GM T R D Mk U n tp LD LP τ :=
  GM_s hw (frO_mono (fun i h => by revert h; simp [scM]; omega) (fun i h => by revert h; simp [scF]; omega) h) hx
theorem WX_dn {T D R : Vw} {LD LP : List Nat} {σ : St} (h : WX T D R LD LP σ) : WX T (dn D) R LD LP σ := by
  obtain ⟨a, b, c, d, e⟩ := h
  refine ⟨a, fun q hq => ?_, c, d, e⟩
  rw [b q hq]
  unfold dn
  rw [if_pos ⟨rfl, hq⟩]
theorem WM_dn {T D R : Vw} {LD LP : List Nat} {σ : St} (h : WM T D R LD LP σ) : WM T (dn D) R LD LP σ := by
  obtain ⟨a, b, c, d, e⟩ := h
  refine ⟨a, fun q hq => ?_, c, d, e⟩
  rw [b q hq]
  unfold dn
  rw [if_pos ⟨rfl, hq⟩]
theorem wfW_dn {T D R : Vw} {LD LP : List Nat} (h : wfW T D R LD LP) : wfW T (dn D) R LD LP := h
theorem po_plan : PO_plan Inv := by
  intro σx σm h v
  obtain ⟨T, R, D, Mk, U, n, tp, LD, LP, hw, hx, hm⟩ := h
  have hm' := GM_0 hw 0 hm
  have h6 := hw.1.2.1
  have h200 := hw.1.2.2.2.1
  by_cases hv : v < -1
  · refine ⟨-2, σx, setI σm 0 0 0, ?_, ?_, T, R, D, Mk, U, n, tp, LD, LP, hw, hx, hm'⟩
    · unfold rX_plan rX_plan_18; rw [brc_t hv]
    · unfold rM_plan rM_plan_20; rw [nmE, brc_t hv]
  · by_cases hv2 : v < I (2 * T 0 2)
    · have hW := GW_W hw
      obtain ⟨τ, e1, ha, f1⟩ := eX_pmakeSure (wfW_dn hW) (WX_dn (GX_W hx)) hx.2.2.2.2.2.2.2.1.1
      obtain ⟨υ, e2, hl, ht, f2⟩ := eM_findPlan (wfW_dn hW) (WM_dn (GM_W hm'))
      have hxτ := GX_p f1 ha hx
      have hmυ := GM_q hw f2 hm'
      have eX : rX_plan v σx = brc (¬ v = -1) (chk (decide (¬ (2 : Int32) = 0)) (brc (¬ (v - v / (2 : Int32) * (2 : Int32)) = 0) (chk (decide (¬ (2 : Int32) = 0)) (chk (ib (v / (2 : Int32)) 6) (rX_plan_72 (τ.1 53 (v / (2 : Int32)).toNatClampNeg) τ))) (chk (decide (¬ (2 : Int32) = 0)) (chk (ib (v / (2 : Int32)) 6) (rX_plan_72 (τ.1 52 (v / (2 : Int32)).toNatClampNeg) τ))))) (some (τ.1 49 7, τ)) := by
        unfold rX_plan
        rw [brc_f hv, hx.1.2.2.1, show (2 : Int32) * I (T 0 2) = I (2 * T 0 2) by rw [litN, I_mul], brc_t hv2, e1, bnd1_e]
      have eM : rM_plan v σm = brc (¬ v = (-1 : Int32)) (chk (decide (¬ (2 : Int32) = 0)) (chk (ib (v / (2 : Int32)) 6) (nm (υ.1 22 (v / (2 : Int32)).toNatClampNeg) fun v2_7 => chk (decide (¬ (2 : Int32) = 0)) (brc (¬ (v - v / (2 : Int32) * (2 : Int32)) = 0) (chk (decide (¬ (2 : Int32) = 0)) (bnd2 (rM_findBest (v / (2 : Int32)) v2_7 υ) fun r_10 σ_8 => brc (¬ v2_7 = 0) (rM_plan_82 (σ_8.1 0 34) σ_8) (rM_plan_82 (-1 : Int32) σ_8))) (some (v2_7, υ)))))) (chk (ib (4 : Int32) 320) (chk (ib (υ.1 6 (4 : Int32).toNatClampNeg) 1407) (some (υ.1 21 (υ.1 6 (4 : Int32).toNatClampNeg).toNatClampNeg, υ)))) := by
        unfold rM_plan
        rw [nmE, brc_f hv, eM_carriers, bnd2_e, hm'.1.2.2.1, show (2 : Int32) * I (T 0 2) = I (2 * T 0 2) by rw [litN, I_mul], brc_t hv2, e2, bnd1_e]
      by_cases h1 : v = -1
      · rw [brc_f (fun h => h h1)] at eX eM
        rw [show ib (4 : Int32) 320 = true from rfl, chk_e, show (4 : Int32).toNatClampNeg = 4 from rfl, hmυ.1.2.2.2.2.1, chk_t (ib_I (by omega) (by omega)), I_cl (by omega), ht] at eM
        rw [ha.2.1] at eX
        exact ⟨_, _, _, eX, eM, T, R, D, Mk, U, n, tp, LD, LP, hw, hxτ, hmυ⟩
      · have h0 : 0 ≤ v := by
          rw [Int32.lt_iff_toInt_lt, show (-1 : Int32).toInt = -1 from rfl] at hv
          have : v.toInt ≠ -1 := fun h => h1 (Int32.toInt_inj.mp h)
          rw [Int32.le_iff_toInt_le, show (0 : Int32).toInt = 0 from rfl]
          omega
        obtain ⟨w, rfl, hw2⟩ := I_of h0
        rw [I_lt hw2 (by omega)] at hv2
        have hc : w / 2 < T 0 2 := by omega
        have ed : I w / (2 : Int32) = I (w / 2) := by rw [litN, I_div hw2 (by omega)]
        have er : I w - I (w / 2) * (2 : Int32) = I (w % 2) := by
          rw [litN, I_mul, I_sub (by omega)]
          congr 1
          omega
        obtain ⟨l1, l2⟩ := ha.2.2 (w / 2) hc
        have lm := hl (w / 2) hc
        rw [brc_t h1, ed, er, chk_t (by decide), chk_t (by decide), chk_t (ib_I (by omega) (by omega)), I_cl (by omega), l1, l2] at eX
        rw [brc_t h1, ed, er, chk_t (by decide), chk_t (ib_I (by omega) (by omega)), I_cl (by omega), nmE, lm, chk_t (by decide)] at eM
        by_cases hz : w % 2 = 0
        · rw [brc_f (show ¬ ¬ I (w % 2) = 0 by rw [hz]; exact fun h => h rfl)] at eX eM
          rw [chk_t (by decide), chk_t (ib_I (by omega) (by omega))] at eX
          exact ⟨_, _, _, eX, eM, T, R, D, Mk, U, n, tp, LD, LP, hw, hxτ, hmυ⟩
        · have hne : ¬ I (w % 2) = 0 := by rw [I0, I_inj (by omega) (by omega)]; exact hz
          rw [brc_t hne] at eX eM
          have hpl : plLoad T (dn D) R LD (w / 2) ≤ 120 := by
            have := (plL_spec (m := mo T (dn D) R LD) (h := hol T) (nC := T 0 2) (c := w / 2) (s := plS (mo T (dn D) R LD) (hol T) (T 0 2) (T 0 4) (w / 2)) (fun _ => rfl) hc).2.1
            have := hol_le hw.1 hc
            unfold plLoad
            omega
          obtain ⟨⟨r, ω⟩, e3, g1, g2, g3, f3⟩ := eM_findBest (c := w / 2) (ld := plLoad T (dn D) R LD (w / 2)) (wfW_dn hW) hc (by omega) (WM_q f2 (WM_dn (GM_W hm')))
          simp only at g1 g2 g3 f3
          rw [chk_t (by decide), e3, bnd2_e, g2] at eM
          have hmω := GM_b hw f3 hmυ
          by_cases hl0 : plLoad T (dn D) R LD (w / 2) = 0
          · rw [brc_f (show ¬ ¬ I (plLoad T (dn D) R LD (w / 2)) = 0 by rw [hl0]; exact fun h => h rfl)] at eM
            have ew : plWay T (dn D) R LD (w / 2) = 0 := if_pos hl0
            rw [ew] at eX
            exact ⟨_, _, _, eX, eM, T, R, D, Mk, U, n, tp, LD, LP, hw, hxτ, hmω⟩
          · rw [brc_t (show ¬ I (plLoad T (dn D) R LD (w / 2)) = 0 by rw [I0, I_inj (by omega) (by omega)]; exact hl0)] at eM
            have ew : plWay T (dn D) R LD (w / 2) = (bs T (dn D) R LD (w / 2) (plLoad T (dn D) R LD (w / 2)) (R 0 0)).1 := if_neg hl0
            rw [ew] at eX
            exact ⟨_, _, _, eX, eM, T, R, D, Mk, U, n, tp, LD, LP, hw, hxτ, hmω⟩
    · refine ⟨-2, σx, setI σm 0 0 0, ?_, ?_, T, R, D, Mk, U, n, tp, LD, LP, hw, hx, hm'⟩
      · unfold rX_plan rX_plan_18
        rw [brc_f hv, hx.1.2.2.1, show (2 : Int32) * I (T 0 2) = I (2 * T 0 2) by rw [litN, I_mul], brc_f hv2]
      · unfold rM_plan rM_plan_20
        rw [nmE, brc_f hv, eM_carriers, bnd2_e, hm'.1.2.2.1, show (2 : Int32) * I (T 0 2) = I (2 * T 0 2) by rw [litN, I_mul], brc_f hv2]
