/-! owe, patch, undo, mark -/
theorem GX_u {T R D D' Mk U U' : Vw} {n : Nat} {tp : Nat → Nat} {LD LP : List Nat} {σ τ : St} (hx : GX T R D Mk U n tp LD LP σ) (h : ∀ i, i ∉ scX → i ∉ [0, 1, 2, 49, 54] → ¬ (33 ≤ i ∧ i ≤ 41) → τ.1 i = σ.1 i) (hj : ∀ i, i ≠ 97 → i ≠ 33 → τ.2.1 i = σ.2.1 i) (hp : τ.2.2 = σ.2.2) (hd : XD 33 (T 0 0) D' τ) (hu : XU U' τ) (c1 : τ.1 49 8 = 0) (c2 : τ.1 54 9 = 0) : GX T R D' Mk U' n tp LD LP τ := by
  obtain ⟨a1, a2, a3, a4, a5, a6, a7, a8, a9⟩ := hx
  exact ⟨XMt_fr (fun i h1 h2 => h i (by simp [scX]; omega) (by simp; omega) (by omega)) a1, hd, XR_fr (by rw [h 42 (by decide) (by decide) (by decide)]) (h 43 (by decide) (by decide) (by decide)) (h 44 (by decide) (by decide) (by decide)) a3, XK_fr (fun i h1 => h i (by simp [scX]; omega) (by simp; omega) (by omega)) (fun i h1 h2 => hj i (by omega) (by omega)) a4, hu, XP_fr (by rw [h 5 (by decide) (by decide) (by decide)]) (h 6 (by decide) (by decide) (by decide)) a6, XL_fr hp a7, ⟨Or.inl c1, Or.inl c2⟩, XN_fr hp a9⟩
theorem GM_u {T R D D' Mk U U' : Vw} {n : Nat} {tp : Nat → Nat} {LD LP : List Nat} {σ τ : St} (hw : GW T R D Mk U n tp LD LP) (hm : GM T R D Mk U n tp LD LP σ) (h : ∀ i, i ∉ scM → i ≠ 0 → i ≠ 16 → τ.1 i = σ.1 i) (h0 : ∀ j, j ∉ scF → j ≠ 25 → τ.1 0 j = σ.1 0 j) (h16 : ∀ q, 240 ≤ q → q < 1200 → τ.1 16 q = σ.1 16 q) (hj : τ.2.1 5 = σ.2.1 5) (hd : MD 0 (T 0 0) D' τ) (hu : MU U' τ) : GM T R D' Mk U' n tp LD LP τ := by
  obtain ⟨a1, a2, a3, a4, a5, a6, a7, a8⟩ := hm
  exact ⟨MT_fr (h 6 (by decide) (by decide) (by decide)) a1, hd, MR_fr (h0 27 (by decide) (by decide)) (h 18 (by decide) (by decide) (by decide)) a3, MK_fr hw.1.1 hw.2.2.2.1 (h 17 (by decide) (by decide) (by decide)) (fun q h1 h2 => h16 q h1 (by omega)) a4, hu, MP_fr (h0 2 (by decide) (by decide)) (h 1 (by decide) (by decide) (by decide)) a6, MLw_fr (h 6 (by decide) (by decide) (by decide)) (h 8 (by decide) (by decide) (by decide)) (h 9 (by decide) (by decide) (by decide)) a7, MC_fr (h 12 (by decide) (by decide) (by decide)) (h 13 (by decide) (by decide) (by decide)) hj a8⟩
theorem eX_forget (σ : St) : rX_forgetAnswers σ = some (setI (setI σ 49 8 0) 54 9 0) := rfl
theorem po_owe : PO_owe Inv := by
  intro σx σm h v w u
  obtain ⟨T, R, D, Mk, U, n, tp, LD, LP, hw, hx, hm⟩ := h
  have hm' := GM_0 hw 0 hm
  have hd := MD0 hm'.2.1
  have h6 := hw.1.2.1
  have no : rX_owe v w u σx = some (0, σx) → rM_owe v w u σm = some (0, setI σm 0 0 0) → ∃ (r : Int32) (x m : St), rX_owe v w u σx = some (r, x) ∧ rM_owe v w u σm = some (r, m) ∧ Inv x m := fun e1 e2 => ⟨0, _, _, e1, e2, T, R, D, Mk, U, n, tp, LD, LP, hw, hx, hm'⟩
  have eX0 : ¬ ((inR v (I (T 0 2)) ∧ inR w (I (T 0 2))) ∧ ¬ v = w) → rX_owe v w u σx = some (0, σx) := fun hn => by
    unfold rX_owe rX_owe_19
    rw [eX_isPair, bnd2_e, hx.1.2.2.1, b01_f hn, brc_t rfl]; rfl
  by_cases hv : inR v (I (T 0 2))
  · by_cases hww : inR w (I (T 0 2))
    · by_cases hvw : v = w
      · refine no (eX0 (fun h => h.2 hvw)) ?_
        unfold rM_owe rM_owe_51
        rw [nmE, eM_isCarrier, bnd2_e, hm'.1.2.2.1, b01_t hv, brc_f b01_1, eM_isCarrier, bnd2_e, hm'.1.2.2.1, b01_t hww, brc_f b01_1, brc_t hvw]; rfl
      · obtain ⟨a, rfl, ha⟩ := inR_I (by omega) hv
        obtain ⟨b, rfl, hb⟩ := inR_I (by omega) hww
        have hpl : 6 * a + b < 36 := by omega
        have eX : rX_owe (I a) (I b) u σx = brc (u < 0) (some (0, σx)) (brc (u ≤ 99) (brc (¬ I (D 0 (6 * a + b)) = u) (bnd1 (rX_keepForUndo (I (6 * a + b)) (I (D 0 (6 * a + b))) σx) fun σ_5 => some (1, setI (setI (setI σ_5 38 (6 * a + b) u) 49 8 0) 54 9 0)) (some (0, σx))) (some (0, σx))) := by
          unfold rX_owe rX_owe_19
          rw [eX_isPair, bnd2_e, hx.1.2.2.1, b01_t ⟨⟨hv, hww⟩, hvw⟩, brc_f b01_1]
          simp only [litN, I_mul, I_add, nmS, eX_forget, bnd1S]
          rw [Nat.mul_comm a 6, chk_t (ib_I hpl (by omega)), I_cl (by omega), hx.2.1.1 _ hpl, chk_t (ib_I hpl (by omega))]
          simp only [chk_t (ib_I hpl (show 36 < 2147483648 by omega))]
          rfl
        have eM : rM_owe (I a) (I b) u σm = brc (b01 (0 ≤ u ∧ u ≤ 99) = 0) (some (0, setI σm 0 0 0)) (brc (¬ I (D 0 (6 * a + b)) = u) (bnd1 (rM_keeps (setI σm 0 0 0)) fun σ_5 => some (1, setI σ_5 16 (6 * a + b) u)) (some (0, setI σm 0 0 0))) := by
          unfold rM_owe rM_owe_51
          rw [nmE, eM_isCarrier, bnd2_e, hm'.1.2.2.1, b01_t hv, brc_f b01_1, eM_isCarrier, bnd2_e, hm'.1.2.2.1, b01_t hww, brc_f b01_1, brc_f hvw, eM_within, bnd2_e]
          simp only [litN, I_mul, I_add, nmS]
          rw [chk_t (ib_I (show 6 * a + b < 6000 by omega) (by omega)), I_cl (by omega), show (setI σm 0 0 (I 0)).1 16 (6 * a + b) = I (D 0 (6 * a + b)) from hd.1 _ hpl]
          simp only [chk_t (ib_I (show 6 * a + b < 6000 by omega) (show 6000 < 2147483648 by omega))]
          rfl
        by_cases hu : 0 ≤ u ∧ u ≤ 99
        · rw [brc_f (not_lt32.mpr hu.1), brc_t hu.2] at eX
          rw [b01_t hu, brc_f b01_1] at eM
          by_cases he : I (D 0 (6 * a + b)) = u
          · rw [brc_f (fun h => h he)] at eX eM
            exact no eX eM
          · rw [brc_t he] at eX eM
            obtain ⟨k, rfl, hk⟩ := I_of hu.1
            obtain ⟨σ5, e5, x5, f5⟩ := eX_keep (pl := 6 * a + b) (ol := D 0 (6 * a + b)) (nr := fun q => if q = 36 then D 4 5 else if q = 6 * a + b then k else D 0 q) hw.2.2.2.2.1.1 hx.2.2.2.2.1
            obtain ⟨τ5, e6, x6, f6⟩ := eM_keep (pl := 6 * a + b) (ol := D 0 (6 * a + b)) (nr := fun q => if q = 36 then D 4 5 else if q = 6 * a + b then k else D 0 q) hw.2.2.2.2.1 hm'.2.2.2.2.1 hd.1 hd.2.1
            rw [e5, bnd1_e] at eX
            rw [e6, bnd1_e] at eM
            have hs := shU_wf hw.2.2.2.2.1
            refine ⟨1, _, _, eX, eM, T, R, upV D 0 (6 * a + b) k, Mk, puU (shU U) (6 * a + b) (D 0 (6 * a + b)) (fun q => if q = 36 then D 4 5 else if q = 6 * a + b then k else D 0 q), n, tp, LD, LP, ⟨hw.1, hw.2.1, hw.2.2.1, hw.2.2.2.1, ?_, hw.2.2.2.2.2⟩, ?_, ?_⟩
            · refine puU_wf hs.1 hs.2 (by omega) hw.2.1.1 ?_ rfl ?_ ?_
              · intro q hq
                show (if q = 36 then D 4 5 else if q = 6 * a + b then k else D 0 q) = if 0 = 0 ∧ q = 6 * a + b then k else D 0 q
                rw [if_neg (by omega)]
                by_cases e : q = 6 * a + b
                · rw [if_pos e, if_pos ⟨rfl, e⟩]
                · rw [if_neg e, if_neg (fun h => e h.2)]
              · intro q hq
                show D 0 q = if q = 6 * a + b then D 0 (6 * a + b) else (if q = 36 then D 4 5 else if q = 6 * a + b then k else D 0 q)
                by_cases e : q = 6 * a + b
                · rw [if_pos e, e]
                · rw [if_neg e, if_neg (by omega), if_neg e]
              · intro c hc
                show _ = if 36 + c = 6 * a + b then _ else (if 36 = 36 then D 4 5 else _) / 2 ^ c % 2
                rw [if_neg (by omega), if_pos rfl]
            · obtain ⟨y1, y2, y3, y4, y5, y6, y7, y8, y9, y10, y11⟩ := hx.2.1
              have g : ∀ i, i ≠ 0 → i ≠ 1 → i ≠ 2 → i ≠ 38 → i ≠ 49 → i ≠ 54 → (setI (setI (setI σ5 38 (6 * a + b) (I k)) 49 8 0) 54 9 0).1 i = σx.1 i := fun i h0 h1 h2 h3 h4 h5 => by
                rw [gI_ne1 _ _ _ h5, gI_ne1 _ _ _ h4, gI_ne1 _ _ _ h3, f5.1 i (by simp; omega) h0]
              have g2 : (setI (setI (setI σ5 38 (6 * a + b) (I k)) 49 8 0) 54 9 0).2 = σx.2 := f5.2.2
              refine GX_u hx (fun i h1 h2 h3 => g i (by simp at h2; omega) (by simp at h2; omega) (by simp at h2; omega) (by omega) (by simp at h2; omega) (by simp at h2; omega)) (fun i _ _ => by rw [g2]) (by rw [g2]) ⟨?_, ?_, ?_, ?_, ?_, ?_, ?_, ?_, ?_, ?_, ?_⟩ ?_ ?_ ?_
              · intro q hq
                show _ = I (if 0 = 0 ∧ q = 6 * a + b then k else D 0 q)
                rw [gI_ne1 _ _ _ (by decide), gI_ne1 _ _ _ (by decide)]
                by_cases e : q = 6 * a + b
                · rw [if_pos ⟨rfl, e⟩, e, gI_same]
                · rw [if_neg (fun h => e h.2), gI_ne2 _ _ _ e, f5.1 38 (by decide) (by decide)]; exact y1 q hq
              · rw [g 37 (by decide) (by decide) (by decide) (by decide) (by decide) (by decide)]; exact y2
              · rw [g 35 (by decide) (by decide) (by decide) (by decide) (by decide) (by decide)]; exact y3
              · rw [g2]; exact y4
              · rw [g 33 (by decide) (by decide) (by decide) (by decide) (by decide) (by decide)]; exact y5
              · rw [g 33 (by decide) (by decide) (by decide) (by decide) (by decide) (by decide)]; exact y6
              · rw [g 33 (by decide) (by decide) (by decide) (by decide) (by decide) (by decide)]; exact y7
              · rw [g 33 (by decide) (by decide) (by decide) (by decide) (by decide) (by decide)]; exact y8
              · rw [g 39 (by decide) (by decide) (by decide) (by decide) (by decide) (by decide), g 40 (by decide) (by decide) (by decide) (by decide) (by decide) (by decide), g 41 (by decide) (by decide) (by decide) (by decide) (by decide) (by decide)]; exact y9
              · rw [g 34 (by decide) (by decide) (by decide) (by decide) (by decide) (by decide)]; exact y10
              · rw [g 36 (by decide) (by decide) (by decide) (by decide) (by decide) (by decide)]; exact y11
              · refine XU_fr ?_ ?_ ?_ x5
                · rw [gI_ne1 _ _ _ (by decide), gI_ne1 _ _ _ (by decide), gI_ne1 _ _ _ (by decide)]
                · rw [gI_ne1 _ _ _ (by decide), gI_ne1 _ _ _ (by decide), gI_ne1 _ _ _ (by decide)]
                · rw [gI_ne1 _ _ _ (by decide), gI_ne1 _ _ _ (by decide), gI_ne1 _ _ _ (by decide)]
              · rw [gI_ne1 _ _ _ (by decide), gI_same]
              · rw [gI_same]
            · have g : ∀ q, q ≠ 6 * a + b → q < 1200 → (setI τ5 16 (6 * a + b) (I k)).1 16 q = (setI σm 0 0 0).1 16 q := fun q h1 h2 => by
                rw [gI_ne2 _ _ _ h1, f6.2.2.1 q h2]
              refine GM_u hw hm' (fun i _ h1 h2 => by rw [gI_ne1 _ _ _ h2, f6.1 i h2 h1]) (fun j _ h => by rw [gI_ne1 _ _ _ (by decide), f6.2.1 j h]) (fun q h1 h2 => g q (by omega) h2) (by show τ5.2.1 5 = _; rw [f6.2.2.2]) ?_ ?_
              · unfold MD
                simp only [Nat.zero_add]
                refine ⟨?_, by rw [g 36 (by omega) (by omega)]; exact hd.2.1, by rw [g 41 (by omega) (by omega)]; exact hd.2.2.1, by rw [g 37 (by omega) (by omega)]; exact hd.2.2.2.1, by rw [g 38 (by omega) (by omega)]; exact hd.2.2.2.2.1, by rw [g 40 (by omega) (by omega)]; exact hd.2.2.2.2.2.1, by rw [g 39 (by omega) (by omega)]; exact hd.2.2.2.2.2.2.1, by rw [g 42 (by omega) (by omega)]; exact hd.2.2.2.2.2.2.2.1, ?_, ?_, ?_⟩
                · intro q hq
                  show _ = I (if 0 = 0 ∧ q = 6 * a + b then k else D 0 q)
                  by_cases e : q = 6 * a + b
                  · rw [if_pos ⟨rfl, e⟩, e, gI_same]
                  · rw [if_neg (fun h => e h.2), g q e (by omega)]; exact hd.1 q hq
                · intro i hi
                  have h60 : D 4 2 ≤ 60 := hw.2.1.2.2.2.1
                  have hi' : i < D 4 2 := hi
                  rw [g _ (by omega) (by omega), g _ (by omega) (by omega), g _ (by omega) (by omega)]; exact hd.2.2.2.2.2.2.2.2.1 i hi
                · intro s hs'
                  have h7 := hw.1.1
                  rw [g _ (by omega) (by omega)]; exact hd.2.2.2.2.2.2.2.2.2.1 s hs'
                · intro c hc
                  rw [g _ (by omega) (by omega)]; exact hd.2.2.2.2.2.2.2.2.2.2 c hc
              · refine ⟨by rw [gI_ne1 _ _ _ (by decide)]; exact x6.1, fun k' hk' q hq => ?_⟩
                rw [gI_ne2 _ _ _ (by omega)]; exact x6.2 k' hk' q hq
        · rw [b01_f hu, brc_t rfl] at eM
          refine no ?_ eM
          rw [eX]
          by_cases h0 : u < 0
          · rw [brc_t h0]
          · rw [brc_f h0, brc_f (fun h => hu ⟨not_lt32.mp h0, h⟩)]
    · refine no (eX0 (fun h => hww h.1.2)) ?_
      unfold rM_owe rM_owe_51
      rw [nmE, eM_isCarrier, bnd2_e, hm'.1.2.2.1, b01_t hv, brc_f b01_1, eM_isCarrier, bnd2_e, hm'.1.2.2.1, b01_f hww, brc_t rfl]; rfl
  · refine no (eX0 (fun h => hv h.1.1)) ?_
    unfold rM_owe rM_owe_51
    rw [nmE, eM_isCarrier, bnd2_e, hm'.1.2.2.1, b01_f hv, brc_t rfl]; rfl
theorem bitx {m c e : Nat} (hm : m < 64) (hc : c < 6) (he : e < 6) : (m ^^^ 2 ^ c) / 2 ^ e % 2 = if e = c then 1 - m / 2 ^ c % 2 else m / 2 ^ e % 2 := by
  have h : ∀ m, m < 64 → ∀ c, c < 6 → ∀ e, e < 6 → (m ^^^ 2 ^ c) / 2 ^ e % 2 = if e = c then 1 - m / 2 ^ c % 2 else m / 2 ^ e % 2 := by decide +kernel
  exact h m hm c hc e he
theorem bitlt {m c : Nat} (hm : m < 64) (hc : c < 6) : m ^^^ 2 ^ c < 64 := by
  have h : ∀ m, m < 64 → ∀ c, c < 6 → m ^^^ 2 ^ c < 64 := by decide +kernel
  exact h m hm c hc
theorem bitI {m c : Nat} (hm : m < 64) (hc : c < 6) : I m ^^^ ((1 : Int32) <<< (I c &&& 31)) = I (m ^^^ 2 ^ c) := by
  have h : ∀ m, m < 64 → ∀ c, c < 6 → I m ^^^ ((1 : Int32) <<< (I c &&& 31)) = I (m ^^^ 2 ^ c) := by decide +kernel
  exact h m hm c hc
theorem po_patch : PO_patch Inv := by
  intro σx σm h v w hw01
  obtain ⟨T, R, D, Mk, U, n, tp, LD, LP, hw, hx, hm⟩ := h
  have hm' := GM_0 hw 0 hm
  have hd := MD0 hm'.2.1
  have h6 := hw.1.2.1
  have no : rX_patch v w σx = some (0, σx) → rM_patch v w σm = some (0, setI σm 0 0 0) → ∃ (r : Int32) (x m : St), rX_patch v w σx = some (r, x) ∧ rM_patch v w σm = some (r, m) ∧ Inv x m := fun e1 e2 => ⟨0, _, _, e1, e2, T, R, D, Mk, U, n, tp, LD, LP, hw, hx, hm'⟩
  have e9 : rX_patch v w σx = rX_patch_9 v w σx := by
    unfold rX_patch
    rcases hw01 with rfl | rfl
    · rw [brc_t rfl]
    · rw [brc_f (by decide)]
  by_cases hv : inR v (I (T 0 2))
  · obtain ⟨c, rfl, hc⟩ := inR_I (by omega) hv
    have hc6 : c < 6 := by omega
    have b64 := hw.2.1.1
    have hbit : D 4 5 / 2 ^ c % 2 = 0 ∨ D 4 5 / 2 ^ c % 2 = 1 := by omega
    have h37 : σx.1 37 c = I (D 4 5 / 2 ^ c % 2) := hx.2.1.2.1 c hc6
    have eX : rX_patch (I c) w σx = brc (¬ I (D 4 5 / 2 ^ c % 2) = w) (bnd1 (rX_keepForUndo (I (36 + c)) (I (D 4 5 / 2 ^ c % 2)) σx) fun σ_5 => some (1, setI (setI (setI σ_5 37 c w) 49 8 0) 54 9 0)) (some (0, σx)) := by
      rw [e9]
      unfold rX_patch_9 rX_patch_34
      rw [nmE, eX_hasCarrier, bnd2_e, hx.1.2.2.1, b01_t hv, brc_f b01_1]
      simp only [chk_t (ib_I hc6 (show 6 < 2147483648 by omega)), I_cl (show c < 2147483648 by omega), h37, nmS, eX_forget, bnd1S]
      rw [show (36 : Int32) + I c = I (36 + c) by rw [litN, I_add]]
      rfl
    have eM : rM_patch (I c) w σm = brc (¬ I (D 4 5 / 2 ^ c % 2) = w) (bnd1 (rM_keeps (setI σm 0 0 0)) fun σ_5 => some (1, setI σ_5 16 36 (σ_5.1 16 36 ^^^ ((1 : Int32) <<< (I c &&& 31))))) (some (0, setI σm 0 0 0)) := by
      unfold rM_patch rM_patch_22
      rw [nmE, eM_isCarrier, bnd2_e, hm'.1.2.2.1, b01_t hv, brc_f b01_1, eM_isPatched, bnd2_e, hd.2.1]
      have : b01 ((I (D 4 5) >>> (I c &&& 31)) &&& 1 = 1) = I (D 4 5 / 2 ^ c % 2) := by
        rw [show (I (D 4 5) >>> (I c &&& 31)) &&& 1 = I (D 4 5 / 2 ^ c % 2) from I_bit b64 hc6]
        rcases hbit with e | e <;> rw [e]
        · exact b01_f (by decide)
        · exact b01_t rfl
      rw [this]
      rfl
    by_cases he : I (D 4 5 / 2 ^ c % 2) = w
    · rw [brc_f (fun h => h he)] at eX eM
      exact no eX eM
    · rw [brc_t he] at eX eM
      obtain ⟨σ5, e5, x5, f5⟩ := eX_keep (pl := 36 + c) (ol := D 4 5 / 2 ^ c % 2) (nr := fun q => if q = 36 then D 4 5 ^^^ 2 ^ c else D 0 q) hw.2.2.2.2.1.1 hx.2.2.2.2.1
      obtain ⟨τ5, e6, x6, f6⟩ := eM_keep (pl := 36 + c) (ol := D 4 5 / 2 ^ c % 2) (nr := fun q => if q = 36 then D 4 5 ^^^ 2 ^ c else D 0 q) hw.2.2.2.2.1 hm'.2.2.2.2.1 hd.1 hd.2.1
      rw [e5, bnd1_e] at eX
      rw [e6, bnd1_e, f6.2.2.1 36 (by omega), hd.2.1, bitI b64 hc6] at eM
      have hs := shU_wf hw.2.2.2.2.1
      have hwn : w = I (1 - D 4 5 / 2 ^ c % 2) := by
        rcases hbit with e | e <;> rw [e] at he ⊢
        · rcases hw01 with rfl | rfl
          · exact absurd rfl he
          · rfl
        · rcases hw01 with rfl | rfl
          · rfl
          · exact absurd rfl he
      refine ⟨1, _, _, eX, eM, T, R, upV D 4 5 (D 4 5 ^^^ 2 ^ c), Mk, puU (shU U) (36 + c) (D 4 5 / 2 ^ c % 2) (fun q => if q = 36 then D 4 5 ^^^ 2 ^ c else D 0 q), n, tp, LD, LP, ⟨hw.1, ?_, hw.2.2.1, hw.2.2.2.1, ?_, hw.2.2.2.2.2⟩, ?_, ?_⟩
      · obtain ⟨d1, d2, d3, d4, d5, d6⟩ := hw.2.1
        exact ⟨bitlt b64 hc6, d2, d3, d4, d5, d6⟩
      · refine puU_wf hs.1 hs.2 (by omega) b64 ?_ rfl ?_ ?_
        · intro q hq
          show (if q = 36 then _ else D 0 q) = D 0 q
          rw [if_neg (by omega)]
        · intro q hq
          show D 0 q = if q = 36 + c then _ else (if q = 36 then _ else D 0 q)
          rw [if_neg (by omega), if_neg (by omega)]
        · intro e he'
          show _ = if 36 + e = 36 + c then D 4 5 / 2 ^ c % 2 else (if 36 = 36 then D 4 5 ^^^ 2 ^ c else _) / 2 ^ e % 2
          rw [if_pos (show (36 : Nat) = 36 from rfl), bitx b64 hc6 he']
          by_cases ee : e = c
          · rw [if_pos (by omega), ee]
          · rw [if_neg (by omega), if_neg ee]
      · obtain ⟨y1, y2, y3, y4, y5, y6, y7, y8, y9, y10, y11⟩ := hx.2.1
        have g : ∀ i, i ≠ 0 → i ≠ 1 → i ≠ 2 → i ≠ 37 → i ≠ 49 → i ≠ 54 → (setI (setI (setI σ5 37 c w) 49 8 0) 54 9 0).1 i = σx.1 i := fun i h0 h1 h2 h3 h4 h5 => by
          rw [gI_ne1 _ _ _ h5, gI_ne1 _ _ _ h4, gI_ne1 _ _ _ h3, f5.1 i (by simp; omega) h0]
        have g2 : (setI (setI (setI σ5 37 c w) 49 8 0) 54 9 0).2 = σx.2 := f5.2.2
        refine GX_u hx (fun i h1 h2 h3 => g i (by simp at h2; omega) (by simp at h2; omega) (by simp at h2; omega) (by omega) (by simp at h2; omega) (by simp at h2; omega)) (fun i _ _ => by rw [g2]) (by rw [g2]) ⟨?_, ?_, ?_, ?_, ?_, ?_, ?_, ?_, ?_, ?_, ?_⟩ ?_ ?_ ?_
        · rw [g 38 (by decide) (by decide) (by decide) (by decide) (by decide) (by decide)]; exact y1
        · intro e he'
          show _ = I ((D 4 5 ^^^ 2 ^ c) / 2 ^ e % 2)
          rw [gI_ne1 _ _ _ (by decide), gI_ne1 _ _ _ (by decide), bitx b64 hc6 he']
          by_cases ee : e = c
          · rw [if_pos ee, ee, gI_same, hwn]
          · rw [if_neg ee, gI_ne2 _ _ _ ee, f5.1 37 (by decide) (by decide)]; exact y2 e he'
        · rw [g 35 (by decide) (by decide) (by decide) (by decide) (by decide) (by decide)]; exact y3
        · rw [g2]; exact y4
        · rw [g 33 (by decide) (by decide) (by decide) (by decide) (by decide) (by decide)]; exact y5
        · rw [g 33 (by decide) (by decide) (by decide) (by decide) (by decide) (by decide)]; exact y6
        · rw [g 33 (by decide) (by decide) (by decide) (by decide) (by decide) (by decide)]; exact y7
        · rw [g 33 (by decide) (by decide) (by decide) (by decide) (by decide) (by decide)]; exact y8
        · rw [g 39 (by decide) (by decide) (by decide) (by decide) (by decide) (by decide), g 40 (by decide) (by decide) (by decide) (by decide) (by decide) (by decide), g 41 (by decide) (by decide) (by decide) (by decide) (by decide) (by decide)]; exact y9
        · rw [g 34 (by decide) (by decide) (by decide) (by decide) (by decide) (by decide)]; exact y10
        · rw [g 36 (by decide) (by decide) (by decide) (by decide) (by decide) (by decide)]; exact y11
        · refine XU_fr ?_ ?_ ?_ x5
          · rw [gI_ne1 _ _ _ (by decide), gI_ne1 _ _ _ (by decide), gI_ne1 _ _ _ (by decide)]
          · rw [gI_ne1 _ _ _ (by decide), gI_ne1 _ _ _ (by decide), gI_ne1 _ _ _ (by decide)]
          · rw [gI_ne1 _ _ _ (by decide), gI_ne1 _ _ _ (by decide), gI_ne1 _ _ _ (by decide)]
        · rw [gI_ne1 _ _ _ (by decide), gI_same]
        · rw [gI_same]
      · have g : ∀ q, q ≠ 36 → q < 1200 → (setI τ5 16 36 (I (D 4 5 ^^^ 2 ^ c))).1 16 q = (setI σm 0 0 0).1 16 q := fun q h1 h2 => by
          rw [gI_ne2 _ _ _ h1, f6.2.2.1 q h2]
        refine GM_u hw hm' (fun i _ h1 h2 => by rw [gI_ne1 _ _ _ h2, f6.1 i h2 h1]) (fun j _ h => by rw [gI_ne1 _ _ _ (by decide), f6.2.1 j h]) (fun q h1 h2 => g q (by omega) h2) (by show τ5.2.1 5 = _; rw [f6.2.2.2]) ?_ ?_
        · unfold MD
          simp only [Nat.zero_add]
          refine ⟨fun q hq => by rw [g q (by omega) (by omega)]; exact hd.1 q hq, by rw [gI_same]; rfl, by rw [g 41 (by omega) (by omega)]; exact hd.2.2.1, by rw [g 37 (by omega) (by omega)]; exact hd.2.2.2.1, by rw [g 38 (by omega) (by omega)]; exact hd.2.2.2.2.1, by rw [g 40 (by omega) (by omega)]; exact hd.2.2.2.2.2.1, by rw [g 39 (by omega) (by omega)]; exact hd.2.2.2.2.2.2.1, by rw [g 42 (by omega) (by omega)]; exact hd.2.2.2.2.2.2.2.1, ?_, ?_, ?_⟩
          · intro i hi
            have h60 : D 4 2 ≤ 60 := hw.2.1.2.2.2.1
            have hi' : i < D 4 2 := hi
            rw [g _ (by omega) (by omega), g _ (by omega) (by omega), g _ (by omega) (by omega)]; exact hd.2.2.2.2.2.2.2.2.1 i hi
          · intro s hs'
            have h7 := hw.1.1
            rw [g _ (by omega) (by omega)]; exact hd.2.2.2.2.2.2.2.2.2.1 s hs'
          · intro c hc
            rw [g _ (by omega) (by omega)]; exact hd.2.2.2.2.2.2.2.2.2.2 c hc
        · refine ⟨by rw [gI_ne1 _ _ _ (by decide)]; exact x6.1, fun k' hk' q hq => ?_⟩
          rw [gI_ne2 _ _ _ (by omega)]; exact x6.2 k' hk' q hq
  · refine no ?_ ?_
    · rw [e9]
      unfold rX_patch_9 rX_patch_34
      rw [nmE, eX_hasCarrier, bnd2_e, hx.1.2.2.1, b01_f hv, brc_t rfl]; rfl
    · unfold rM_patch rM_patch_22
      rw [nmE, eM_isCarrier, bnd2_e, hm'.1.2.2.1, b01_f hv, brc_t rfl]; rfl
