/-! rest and seed -/
theorem dn_eq {D D' : Vw} (h1 : ∀ q, q < 36 → D' 0 q = D 0 q) (h2 : D' 4 5 = D 4 5) : dn D' = dn D := by
  funext a b
  unfold dn
  by_cases e : a = 0 ∧ b < 36
  · rw [if_pos e, if_pos e, h1 b e.2]
  · rw [if_neg e, if_neg e, h2]
theorem GM_d {T R D D' Mk U : Vw} {n : Nat} {tp : Nat → Nat} {LD LP : List Nat} {σ τ : St} (hw : GW T R D Mk U n tp LD LP) (hm : GM T R D Mk U n tp LD LP σ) (h : ∀ i, i ∉ scM → i ≠ 0 → i ≠ 16 → τ.1 i = σ.1 i) (h0 : ∀ j, j ∉ scF → τ.1 0 j = σ.1 0 j) (h16 : ∀ q, 240 ≤ q → q < 6000 → τ.1 16 q = σ.1 16 q) (hj : τ.2.1 5 = σ.2.1 5) (hd : MD 0 (T 0 0) D' τ) : GM T R D' Mk U n tp LD LP τ := by
  obtain ⟨a1, a2, a3, a4, a5, a6, a7, a8⟩ := hm
  exact ⟨MT_fr (h 6 (by decide) (by decide) (by decide)) a1, hd, MR_fr (h0 27 (by decide)) (h 18 (by decide) (by decide) (by decide)) a3, MK_fr hw.1.1 hw.2.2.2.1 (h 17 (by decide) (by decide) (by decide)) (fun q h1 h2 => h16 q h1 (by omega)) a4, MU_fr (h0 25 (by decide)) hw.2.2.2.2.1.1 (fun q h1 h2 => h16 q (by omega) h2) a5, MP_fr (h0 2 (by decide)) (h 1 (by decide) (by decide) (by decide)) a6, MLw_fr (h 6 (by decide) (by decide) (by decide)) (h 8 (by decide) (by decide) (by decide)) (h 9 (by decide) (by decide) (by decide)) a7, MC_fr (h 12 (by decide) (by decide) (by decide)) (h 13 (by decide) (by decide) (by decide)) hj a8⟩
theorem GX_d {T R D D' Mk U : Vw} {n : Nat} {tp : Nat → Nat} {LD LP : List Nat} {σ τ : St} (hx : GX T R D Mk U n tp LD LP σ) (h : ∀ i, i ∉ scX → i ≠ 49 → ¬ (33 ≤ i ∧ i ≤ 41) → τ.1 i = σ.1 i) (h49 : ∀ j, j ≠ 9 → j ≠ 10 → τ.1 49 j = σ.1 49 j) (hj : ∀ i, i ≠ 97 → i ≠ 33 → τ.2.1 i = σ.2.1 i) (hp : τ.2.2 = σ.2.2) (hd : XD 33 (T 0 0) D' τ) (hdn : dn D' = dn D) : GX T R D' Mk U n tp LD LP τ := by
  obtain ⟨a1, a2, a3, a4, a5, a6, a7, a8, a9⟩ := hx
  refine ⟨XMt_fr (fun i h1 h2 => h i (by simp [scX]; omega) (by omega) (by omega)) a1, hd, XR_fr (by rw [h 42 (by decide) (by decide) (by decide)]) (h 43 (by decide) (by decide) (by decide)) (h 44 (by decide) (by decide) (by decide)) a3, XK_fr (fun i h1 => h i (by simp [scX]; omega) (by omega) (by omega)) (fun i h1 h2 => hj i (by omega) (by omega)) a4, XU_fr (by rw [h 0 (by decide) (by decide) (by decide)]) (h 1 (by decide) (by decide) (by decide)) (h 2 (by decide) (by decide) (by decide)) a5, XP_fr (by rw [h 5 (by decide) (by decide) (by decide)]) (h 6 (by decide) (by decide) (by decide)) a6, XL_fr hp a7, ?_, XN_fr hp a9⟩
  rw [hdn]
  exact XA_fr (h49 7 (by decide) (by decide)) (h49 8 (by decide) (by decide)) (h 52 (by decide) (by decide) (by decide)) (h 53 (by decide) (by decide) (by decide)) (h 54 (by decide) (by decide) (by decide)) (h 56 (by decide) (by decide) (by decide)) a8
theorem eX_dawn {T : Vw} {σ : St} (hw : wfT T) (hT : XMt T σ) : ∃ τ, rX_dawn σ = some τ ∧ τ.1 33 0 = I 0 ∧ τ.1 33 1 = I 0 ∧ τ.1 33 2 = I (T 0 4) ∧ τ.1 33 4 = I 0 ∧ (∀ c, c < 6 → τ.1 35 c = I 0) ∧ (∀ s, s < T 0 0 → τ.1 34 s = I (T 2 s)) ∧ frO [34, 35] 33 [0, 1, 2, 4] σ τ := by
  unfold rX_dawn
  rw [nmE, nmE, nmE, nmE, eX_fill_gone, bnd1_e, chk_t (by decide), nmE]
  generalize hσ4 : setI (setI (setI (setI σ 33 0 0) 33 1 0) 33 2 _) 33 4 0 = σ4
  have f4 : frO [34, 35] 33 [0, 1, 2, 4] σ σ4 := by
    rw [← hσ4]
    exact frO_f (frO_f (frO_f (frO_f frO_refl _ (by decide)) _ (by decide)) _ (by decide)) _ (by decide)
  refine ⟨_, rfl, ?_, ?_, ?_, ?_, ?_, ?_, ?_⟩
  · rw [setR_ne _ _ (by decide), setR_ne _ _ (by decide), ← hσ4, gI_ne2 _ _ _ (by decide), gI_ne2 _ _ _ (by decide), gI_ne2 _ _ _ (by decide), gI_same]; rfl
  · rw [setR_ne _ _ (by decide), setR_ne _ _ (by decide), ← hσ4, gI_ne2 _ _ _ (by decide), gI_ne2 _ _ _ (by decide), gI_same]; rfl
  · rw [setR_ne _ _ (by decide), setR_ne _ _ (by decide), ← hσ4, gI_ne2 _ _ _ (by decide), gI_same, gI_ne1 _ _ _ (by decide), gI_ne1 _ _ _ (by decide), hT.2.2.2.2.1]
  · rw [setR_ne _ _ (by decide), setR_ne _ _ (by decide), ← hσ4, gI_same]; rfl
  · intro c hc
    rw [setR_ne _ _ (by decide), setR_same]
    exact if_pos hc
  · intro s hs
    have h7 := hw.1
    rw [setR_same, show (0 : Int32).toNatClampNeg = 0 from rfl, show (nI 7).toNatClampNeg = 7 from rfl, cpy_at (by omega) (by omega), setR_ne _ _ (by decide), f4.1 25 (by decide) (by decide), show 0 + (s - 0) = s by omega]
    exact (hT.2.2.2.2.2.2.1 s hs).2
  · exact frO_R (frO_R f4 _ (by decide) (by decide)) _ (by decide) (by decide)
theorem eM_rests {T : Vw} {σ : St} (hw : wfT T) (hT : MT T σ) : ∃ τ, rM_rests σ = some τ ∧ τ.1 16 38 = I 0 ∧ τ.1 16 39 = I (T 0 4) ∧ τ.1 16 40 = I 0 ∧ τ.1 16 41 = I 0 ∧ τ.1 16 42 = I 0 ∧ (∀ s, s < T 0 0 → τ.1 16 (43 + s) = I (T 2 s)) ∧ (∀ q, ¬ (38 ≤ q ∧ q < 50) → τ.1 16 q = σ.1 16 q) ∧ (∀ i, i ≠ 16 → τ.1 i = σ.1 i) ∧ τ.2 = σ.2 := by
  have h7 := hw.1
  unfold rM_rests
  rw [show ib (38 : Int32) 6000 = true from rfl, chk_e, nmE, show ib (4 : Int32) 320 = true from rfl, chk_e, show ib (39 : Int32) 6000 = true from rfl, chk_e, nmE, show ib (40 : Int32) 6000 = true from rfl, chk_e, nmE, show ib (41 : Int32) 6000 = true from rfl, chk_e, nmE, show ib (42 : Int32) 6000 = true from rfl, chk_e, nmE, nmE]
  rw [show (38 : Int32).toNatClampNeg = 38 from rfl, show (39 : Int32).toNatClampNeg = 39 from rfl, show (40 : Int32).toNatClampNeg = 40 from rfl, show (41 : Int32).toNatClampNeg = 41 from rfl, show (42 : Int32).toNatClampNeg = 42 from rfl, show (4 : Int32).toNatClampNeg = 4 from rfl, gI_ne1 _ _ _ (show (6 : Nat) ≠ 16 by decide), hT.2.2.2.2.1]
  generalize hσ5 : setI (setI (setI (setI (setI σ 16 38 0) 16 39 _) 16 40 0) 16 41 0) 16 42 0 = σ5
  have g6 : σ5.1 6 = σ.1 6 := by rw [← hσ5]; simp (disch := decide) only [gI_ne1]
  have g38 : σ5.1 16 38 = I 0 := by rw [← hσ5, gI_ne2 _ _ _ (by decide), gI_ne2 _ _ _ (by decide), gI_ne2 _ _ _ (by decide), gI_ne2 _ _ _ (by decide), gI_same]; rfl
  have g39 : σ5.1 16 39 = I (T 0 4) := by rw [← hσ5, gI_ne2 _ _ _ (by decide), gI_ne2 _ _ _ (by decide), gI_ne2 _ _ _ (by decide), gI_same]
  have g40 : σ5.1 16 40 = I 0 := by rw [← hσ5, gI_ne2 _ _ _ (by decide), gI_ne2 _ _ _ (by decide), gI_same]; rfl
  have g41 : σ5.1 16 41 = I 0 := by rw [← hσ5, gI_ne2 _ _ _ (by decide), gI_same]; rfl
  have g42 : σ5.1 16 42 = I 0 := by rw [← hσ5, gI_same]; rfl
  have gq : ∀ q, ¬ (38 ≤ q ∧ q < 50) → σ5.1 16 q = σ.1 16 q := fun q hq => by
    rw [← hσ5, gI_ne2 _ _ _ (by omega), gI_ne2 _ _ _ (by omega), gI_ne2 _ _ _ (by omega), gI_ne2 _ _ _ (by omega), gI_ne2 _ _ _ (by omega)]
  have gi : ∀ i, i ≠ 16 → σ5.1 i = σ.1 i := fun i hi => by
    rw [← hσ5, gI_ne1 _ _ _ hi, gI_ne1 _ _ _ hi, gI_ne1 _ _ _ hi, gI_ne1 _ _ _ hi, gI_ne1 _ _ _ hi]
  have g2 : σ5.2 = σ.2 := by rw [← hσ5]; rfl
  have h : wp (lp rM_rests_47L fu (0, σ5)) (fun τ => (∀ s, s < 7 → τ.1 16 (43 + s) = σ.1 6 (8 + 2 * s + 1)) ∧ (∀ q, ¬ (43 ≤ q ∧ q < 50) → τ.1 16 q = σ5.1 16 q) ∧ (∀ i, i ≠ 16 → τ.1 i = σ.1 i) ∧ τ.2 = σ.2) := by
    refine wp_for (fun n a => ∃ (i : Nat) (τ : St), i + n = 7 ∧ a = (I i, τ) ∧ (∀ s, s < i → τ.1 16 (43 + s) = σ.1 6 (8 + 2 * s + 1)) ∧ (∀ q, ¬ (43 ≤ q ∧ q < 50) → τ.1 16 q = σ5.1 16 q) ∧ (∀ i, i ≠ 16 → τ.1 i = σ.1 i) ∧ τ.2 = σ.2) ?_ ?_ 7 fu _ ⟨0, σ5, by omega, rfl, fun s hs => absurd hs (Nat.not_lt_zero _), fun _ _ => rfl, gi, g2⟩ (by unfold fu; omega)
    · rintro n a k ⟨i, τ, hi, rfl, t1, t2, t3, t4⟩ hk
      show wp (rM_rests_47 (fun v1 σ => k (v1, σ)) (I i) τ) _
      unfold rM_rests_47
      rw [brc_f (show ¬ (7 : Int32) ≤ I i by rw [litN, I_le (by omega) (by omega)]; omega)]
      simp only [litN, I_mul, I_add]
      rw [chk_t (ib_I (by omega) (by omega)), chk_t (ib_I (by omega) (by omega)), nmE, nmE, oi1, I_add, I_cl (by omega), I_cl (by omega), t3 6 (by decide)]
      refine hk _ ⟨i + 1, _, by omega, rfl, ?_, ?_, ?_, t4⟩
      · intro s hs
        by_cases e : s = i
        · rw [e, gI_same]
        · rw [gI_ne2 _ _ _ (by omega)]; exact t1 s (by omega)
      · intro q hq
        rw [gI_ne2 _ _ _ (by omega)]; exact t2 q hq
      · intro j hj
        rw [gI_ne1 _ _ _ hj]; exact t3 j hj
    · rintro a k ⟨i, τ, hi, rfl, t1, t2, t3, t4⟩
      show wp (rM_rests_47 (fun v1 σ => k (v1, σ)) (I i) τ) _
      unfold rM_rests_47
      rw [brc_t (show (7 : Int32) ≤ I i by rw [litN, I_le (by omega) (by omega)]; omega)]
      exact wp_some ⟨fun s hs => t1 s (by omega), t2, t3, t4⟩
  obtain ⟨τ, e, t1, t2, t3, t4⟩ := h
  exact ⟨τ, e, by rw [t2 38 (by omega)]; exact g38, by rw [t2 39 (by omega)]; exact g39, by rw [t2 40 (by omega)]; exact g40, by rw [t2 41 (by omega)]; exact g41, by rw [t2 42 (by omega)]; exact g42, fun s hs => by rw [t1 s (by omega)]; exact (hT.2.2.2.2.2.2.1 s hs).2, fun q hq => by rw [t2 q (by omega)]; exact gq q hq, t3, t4⟩
def dawnD (T D : Vw) : Vw := fun a b => if a = 3 then T 2 b else if a = 4 then (if b = 0 then T 0 4 else if b = 1 then D 4 1 else if b = 5 then D 4 5 else 0) else D a b
theorem po_rest : PO_rest Inv := by
  intro σx σm h
  obtain ⟨T, R, D, Mk, U, n, tp, LD, LP, hw, hx, hm⟩ := h
  have hm' := GM_0 hw 0 hm
  obtain ⟨τ, e1, x0, x1, x2, x4, x35, x34, fx⟩ := eX_dawn hw.1 hx.1
  obtain ⟨υ, e2, m38, m39, m40, m41, m42, m43, mq, mi, m2⟩ := eM_rests hw.1 hm'.1
  have hd := MD0 hm'.2.1
  refine ⟨I (D 4 3), τ, υ, ?_, ?_, T, R, dawnD T D, Mk, U, n, tp, LD, LP, ⟨hw.1, ?_, hw.2.2.1, hw.2.2.2.1, ?_, hw.2.2.2.2.2⟩, ?_, ?_⟩
  · unfold rX_rest
    rw [nmE, e1, bnd1_e, hx.2.1.2.2.2.2.1]
  · unfold rM_rest
    rw [nmE, show ib (38 : Int32) 6000 = true from rfl, chk_e, nmE, e2, bnd1_e, show (38 : Int32).toNatClampNeg = 38 from rfl, hd.2.2.2.2.1]
  · obtain ⟨d1, d2, d3, d4, d5, d6⟩ := hw.2.1
    exact ⟨d1, (by decide : 0 < 64), d3, (by decide : 0 ≤ 60), hw.1.2.2.2.1, fun s hs => (hw.1.2.2.2.2.2.1 s hs).2⟩
  · exact hw.2.2.2.2.1
  · obtain ⟨y1, y2, y3, y4, y5, y6, y7, y8, y9, y10, y11⟩ := hx.2.1
    refine GX_d hx (fun i h1 h2 h3 => fx.1 i (by simp; omega) (by omega)) (fun j _ _ => by rw [fx.1 49 (by decide) (by decide)]) (fun i _ _ => by rw [fx.2.2]) (by rw [fx.2.2]) ⟨?_, ?_, ?_, ?_, x0, x1, x2, x4, ?_, x34, ?_⟩ (dn_eq (fun _ _ => rfl) rfl)
    · rw [fx.1 (33 + 5) (by decide) (by decide)]; exact y1
    · rw [fx.1 (33 + 4) (by decide) (by decide)]; exact y2
    · intro c hc
      rw [show dawnD T D 4 6 = 0 from rfl, Nat.zero_div, Nat.zero_mod]
      exact x35 c hc
    · rw [fx.2.2]; exact y4
    · intro i hi
      exact absurd hi (Nat.not_lt_zero _)
    · rw [fx.1 (33 + 3) (by decide) (by decide)]; exact y11
  · refine GM_d hw hm' (fun i _ _ h => mi i h) (fun j _ => by rw [mi 0 (by decide)]) (fun q h1 h2 => mq q (by omega)) (by rw [m2]) ?_
    unfold MD
    simp only [Nat.zero_add]
    refine ⟨fun q hq => by rw [mq q (by omega)]; exact hd.1 q hq, by rw [mq 36 (by omega)]; exact hd.2.1, m41, by rw [mq 37 (by omega)]; exact hd.2.2.2.1, m38, m40, m39, m42, fun i hi => absurd hi (Nat.not_lt_zero _), m43, fun c hc => by rw [mq _ (by omega)]; exact hd.2.2.2.2.2.2.2.2.2.2 c hc⟩
theorem I_J {s : Nat} (hs : s < 2147483648) : (I s).toInt64 = Int64.ofNat s := by
  apply Int64.toInt_inj.mp
  rw [Int32.toInt_toInt64, I_toInt hs, Int64.toInt_ofNat', show Int64.size = 18446744073709551616 from rfl, Int.bmod_eq_of_le (by omega) (by omega)]
def upV (D : Vw) (a b v : Nat) : Vw := fun x y => if x = a ∧ y = b then v else D x y
theorem po_seed : PO_seed Inv := by
  intro σx σm h v
  obtain ⟨T, R, D, Mk, U, n, tp, LD, LP, hw, hx, hm⟩ := h
  have hm' := GM_0 hw 0 hm
  have eX : rX_seed v σx = brc (v < 0) (some (0, σx)) (brc (v ≤ 9999) (some (1, setJ σx 33 3 v.toInt64)) (some (0, σx))) := rfl
  have eM : rM_seed v σm = brc (¬ b01 (0 ≤ v ∧ v ≤ 9999) = 0) (some (1, setI (setI σm 0 0 0) 16 37 v)) (some (0, setI σm 0 0 0)) := by
    unfold rM_seed
    rw [nmE, eM_within, bnd2_e]
    rfl
  rw [eX, eM]
  by_cases hv : 0 ≤ v ∧ v ≤ 9999
  · obtain ⟨s, rfl, hs⟩ := I_of hv.1
    have hs2 : s ≤ 9999 := by
      have := hv.2
      rw [litN, I_le hs (by omega)] at this
      exact this
    rw [brc_f (not_lt32.mpr hv.1), brc_t hv.2, b01_t hv, brc_t b01_1]
    have hd := MD0 hm'.2.1
    refine ⟨1, _, _, rfl, rfl, T, R, upV D 4 1 s, Mk, U, n, tp, LD, LP, ⟨hw.1, ?_, hw.2.2.1, hw.2.2.2.1, hw.2.2.2.2.1, hw.2.2.2.2.2⟩, ?_, ?_⟩
    · obtain ⟨d1, d2, d3, d4, d5, d6⟩ := hw.2.1
      exact ⟨d1, d2, (by show s < 2147483648; omega), d4, d5, d6⟩
    · obtain ⟨y1, y2, y3, y4, y5, y6, y7, y8, y9, y10, y11⟩ := hx.2.1
      refine GX_d hx (fun i _ _ _ => by rw [gJ_1]) (fun j _ _ => by rw [gJ_1]) (fun i _ h => gJ_ne1 _ _ _ h) rfl ⟨y1, y2, y3, ?_, y5, y6, y7, y8, y9, y10, y11⟩ (dn_eq (fun _ _ => rfl) rfl)
      rw [gJ_same, I_J hs]; rfl
    · refine GM_d hw hm' (fun i _ _ h => gI_ne1 _ _ _ h) (fun j _ => by rw [gI_ne1 _ _ _ (by decide)]) (fun q h1 h2 => gI_ne2 _ _ _ (by omega)) rfl ?_
      unfold MD
      simp only [Nat.zero_add]
      refine ⟨fun q hq => by rw [gI_ne2 _ _ _ (by omega)]; exact hd.1 q hq, by rw [gI_ne2 _ _ _ (by omega)]; exact hd.2.1, by rw [gI_ne2 _ _ _ (by omega)]; exact hd.2.2.1, by rw [gI_same]; rfl, by rw [gI_ne2 _ _ _ (by omega)]; exact hd.2.2.2.2.1, by rw [gI_ne2 _ _ _ (by omega)]; exact hd.2.2.2.2.2.1, by rw [gI_ne2 _ _ _ (by omega)]; exact hd.2.2.2.2.2.2.1, by rw [gI_ne2 _ _ _ (by omega)]; exact hd.2.2.2.2.2.2.2.1, fun i hi => by rw [gI_ne2 _ _ _ (by omega), gI_ne2 _ _ _ (by omega), gI_ne2 _ _ _ (by omega)]; exact hd.2.2.2.2.2.2.2.2.1 i hi, fun s' hs' => by rw [gI_ne2 _ _ _ (by omega)]; exact hd.2.2.2.2.2.2.2.2.2.1 s' hs', fun c hc => by rw [gI_ne2 _ _ _ (by omega)]; exact hd.2.2.2.2.2.2.2.2.2.2 c hc⟩
  · rw [b01_f hv, brc_f (show ¬ ¬ (0 : Int32) = 0 from fun h => h rfl)]
    refine ⟨0, σx, _, ?_, rfl, T, R, D, Mk, U, n, tp, LD, LP, hw, hx, hm'⟩
    by_cases h0 : v < 0
    · rw [brc_t h0]
    · rw [brc_f h0, brc_f (fun h => hv ⟨not_lt32.mp h0, h⟩)]
