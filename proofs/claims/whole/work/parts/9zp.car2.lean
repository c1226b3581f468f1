/-! the class reads a carrier -/
abbrev XcrQ (n : Nat) (tp : Nat → Nat) (m : Nat) (np idn : Nat → Nat) (T : Vw) (k : Nat) (σ : St) (r : Int32 × St) : Prop := drX σ r.2 ∧ ((crF n tp m np (T 0 2) k = 0 ∧ r.1 = 1 ∧ KX n tp (k + 9) r.2 ∧ XDr (crT T (tW n tp (k + 2) - 16) (tV n tp (k + 4)) (tV n tp (k + 6)) (tV n tp (k + 8))) r.2 ∧ XNm n tp (m + 1) (updN np m (ps n tp (k + 1))) (updN idn m (7 + T 0 2)) r.2 ∧ r.2.1 19 = σ.1 19) ∨ (0 < crF n tp m np (T 0 2) k ∧ r.1 = 0 ∧ r.2.1 7 4 = I (crF n tp m np (T 0 2) k)))
theorem eX_readCarrier {n : Nat} {tp : Nat → Nat} (hw : wfP n tp) {k m : Nat} {np idn : Nat → Nat} {T : Vw} {σ : St} (h : KX n tp k σ) (hN : Nm n tp (T 0 0) (T 0 2) m np idn) (hX : XNm n tp m np idn σ) (hT : XDr T σ) : wp (rX_readCarrier σ) (XcrQ n tp m np idn T k σ) := by
  have hC := hN.2.1
  have h0 : σ.1 10 0 = I (T 0 0) := hT.1
  have h2 : σ.1 10 2 = I (T 0 2) := hT.2.2.1
  have fail : ∀ τ : St, drX σ τ → τ.1 7 4 = I (crF n tp m np (T 0 2) k) → 0 < crF n tp m np (T 0 2) k → wp (chk (decide ((0 : Int32) = 0 ∨ (0 : Int32) = 1)) (some ((0 : Int32), τ))) (XcrQ n tp m np idn T k σ) := fun τ d e p => by
    rw [chk_t (by decide)]
    exact wp_some ⟨d, Or.inr ⟨p, rfl, e⟩⟩
  unfold rX_readCarrier
  rw [nmE, h2]
  refine wp_brc (fun h7 => ?_) (fun h7 => ?_)
  · rw [litN, I_lt (by omega) (by omega)] at h7
    refine wp_bnd1 (wp_mono (eX_step hw h) ?_)
    rintro τ1 ⟨f1, k1⟩
    have r1 := rdX_tk f1
    have x1 := rdX_XNm r1 hX
    refine wp_bnd2 (wp_mono (eX_isNewName hw k1 hN x1 (by rw [r1.1 10 (by decide) (by decide)]; exact h0) (by rw [r1.1 10 (by decide) (by decide)]; exact h2)) ?_)
    rintro r (⟨a, b, rfl⟩ | ⟨a, b, rfl⟩)
    · show wp (brc (¬ (1 : Int32) = 0) _ _) _
      have ht := cnm_T hw k1.2.1 b
      rw [brc_t (by decide), chk_t (ib_I h7 (by omega)), nmE, I_cl (by omega), KX_nm k1 ht]
      have x2 := XNm_C (i := ps n tp (k + 1)) hN h7 x1
      have k2 := KX_J k1 (i := 9) (j := T 0 2) (c8 n tp (ps n tp (k + 1))) (by decide)
      have d2 : drX σ (setJ τ1 9 (T 0 2) (c8 n tp (ps n tp (k + 1)))) := drX_J (drX_rd r1) _ (by omega)
      have e2 : ∀ i, i ≠ 5 → i ≠ 7 → (setJ τ1 9 (T 0 2) (c8 n tp (ps n tp (k + 1)))).1 i = σ.1 i := fun i a b => r1.1 i a b
      generalize setJ τ1 9 (T 0 2) (c8 n tp (ps n tp (k + 1))) = τ2 at x2 k2 d2 e2 ⊢
      refine wp_bnd1 (wp_mono (eX_step hw k2) ?_)
      rintro τ3 ⟨f3, k3'⟩
      have k3 : KX n tp (k + 2) τ3 := k3'
      have r3 := rdX_tk f3
      have d3 := drX_tr d2 (drX_rd r3)
      have hlt : tkW n tp (ps n tp (k + 2)) < 42 := tkW_lt
      rw [k3.2.2.2.2.1, chk_t (decide_eq_true hlt)]
      refine wp_brc (fun hk => ?_) (fun hk => ?_)
      · have hkd : 16 ≤ tW n tp (k + 2) ∧ tW n tp (k + 2) ≤ 21 := (kd_iff hlt).mp hk
        rw [chk_t (decide_eq_true hlt), chk_t (ib_I h7 (by omega)), nmE, kd_num hkd]
        have k4 := KX_7 k3 (i := 15) (j := T 0 2) (I (tW n tp (k + 2) - 16)) (by decide) (by decide)
        have d4 : drX σ (setI τ3 15 (T 0 2) (I (tW n tp (k + 2) - 16))) := drX_I d3 _ (by omega) (by omega)
        have e4 : ∀ i, i ≠ 5 → i ≠ 7 → i ≠ 15 → (setI τ3 15 (T 0 2) (I (tW n tp (k + 2) - 16))).1 i = σ.1 i := fun i a b c => by
          rw [gI_ne1 _ _ _ c, r3.1 i a b]; exact e2 i a b
        have g15 : ∀ c, (setI τ3 15 (T 0 2) (I (tW n tp (k + 2) - 16))).1 15 c = if c = T 0 2 then I (tW n tp (k + 2) - 16) else σ.1 15 c := fun c => by
          by_cases e : c = T 0 2
          · rw [if_pos e, e, gI_same]
          · rw [if_neg e, gI_ne2 _ _ _ e, r3.1 15 (by decide) (by decide), e2 15 (by decide) (by decide)]
        have x4a : XNm n tp (m + 1) (updN np m (ps n tp (k + 1))) (updN idn m (7 + T 0 2)) τ3 := rdX_XNm r3 x2
        have x4 : XNm n tp (m + 1) (updN np m (ps n tp (k + 1))) (updN idn m (7 + T 0 2)) (setI τ3 15 (T 0 2) (I (tW n tp (k + 2) - 16))) := x4a
        show wp (bnd1 (rX_tstep (setI τ3 15 (T 0 2) (I (tW n tp (k + 2) - 16)))) _) _
        generalize setI τ3 15 (T 0 2) (I (tW n tp (k + 2) - 16)) = τ4 at k4 d4 e4 g15 x4 ⊢
        refine wp_bnd1 (wp_mono (eX_step hw k4) ?_)
        rintro τ5 ⟨f5, k5'⟩
        have k5 : KX n tp (k + 3) τ5 := k5'
        have r5 := rdX_tk f5
        have d5 := drX_tr d4 (drX_rd r5)
        have bad1 : ∀ τ, rdX τ5 τ → τ.1 7 4 = I (afF n tp (k + 3) 7 1 60) → 0 < afF n tp (k + 3) 7 1 60 → wp (rX_readCarrier_122 τ) (XcrQ n tp m np idn T k σ) := fun τ f e p => by
          have es : crF n tp m np (T 0 2) k = afF n tp (k + 3) 7 1 60 := by unfold crF; rw [if_pos h7, if_pos a, if_pos hkd, if_neg (by omega)]
          unfold rX_readCarrier_122
          exact fail τ (drX_tr d5 (drX_rd f)) (by rw [es]; exact e) (by omega)
        refine eX_after (w := 7) (lo := 1) (hi := 60) hw k5 (by omega) (by omega) (by omega) ?_ bad1 bad1
        intro τ6 r6 k6' v6 a6 n6
        have k6 : KX n tp (k + 5) τ6 := k6'
        have v6' : τ6.1 7 6 = I (tV n tp (k + 4)) := v6
        show wp (chk (ib (I (T 0 2)) 6) _) _
        rw [chk_t (ib_I h7 (by omega)), nmE, v6']
        have k7 := KX_7 k6 (i := 16) (j := T 0 2) (I (tV n tp (k + 4))) (by decide) (by decide)
        have d7 : drX σ (setI τ6 16 (T 0 2) (I (tV n tp (k + 4)))) := drX_I (drX_tr d5 (drX_rd r6)) _ (by omega) (by omega)
        have e7 : ∀ i, i ≠ 5 → i ≠ 7 → i ≠ 15 → i ≠ 16 → (setI τ6 16 (T 0 2) (I (tV n tp (k + 4)))).1 i = σ.1 i := fun i a b c d => by
          rw [gI_ne1 _ _ _ d, r6.1 i a b, r5.1 i a b]; exact e4 i a b c
        have h15 : ∀ c, (setI τ6 16 (T 0 2) (I (tV n tp (k + 4)))).1 15 c = if c = T 0 2 then I (tW n tp (k + 2) - 16) else σ.1 15 c := fun c => by
          rw [gI_ne1 _ _ _ (by decide), r6.1 15 (by decide) (by decide), r5.1 15 (by decide) (by decide)]; exact g15 c
        have h16 : ∀ c, (setI τ6 16 (T 0 2) (I (tV n tp (k + 4)))).1 16 c = if c = T 0 2 then I (tV n tp (k + 4)) else σ.1 16 c := fun c => by
          by_cases e : c = T 0 2
          · rw [if_pos e, e, gI_same]
          · rw [if_neg e, gI_ne2 _ _ _ e, r6.1 16 (by decide) (by decide), r5.1 16 (by decide) (by decide), e4 16 (by decide) (by decide) (by decide)]
        have x7a : XNm n tp (m + 1) (updN np m (ps n tp (k + 1))) (updN idn m (7 + T 0 2)) τ6 := rdX_XNm r6 (rdX_XNm r5 x4)
        have x7 : XNm n tp (m + 1) (updN np m (ps n tp (k + 1))) (updN idn m (7 + T 0 2)) (setI τ6 16 (T 0 2) (I (tV n tp (k + 4)))) := x7a
        generalize setI τ6 16 (T 0 2) (I (tV n tp (k + 4))) = τ7 at k7 d7 e7 h15 h16 x7 ⊢
        have bad2 : ∀ τ, rdX τ7 τ → τ.1 7 4 = I (afF n tp (k + 5) 8 0 20) → 0 < afF n tp (k + 5) 8 0 20 → wp (rX_readCarrier_157 τ) (XcrQ n tp m np idn T k σ) := fun τ f e p => by
          have es : crF n tp m np (T 0 2) k = afF n tp (k + 5) 8 0 20 := by unfold crF; rw [if_pos h7, if_pos a, if_pos hkd, if_pos a6, if_neg (by omega)]
          unfold rX_readCarrier_157
          exact fail τ (drX_tr d7 (drX_rd f)) (by rw [es]; exact e) (by omega)
        refine eX_after (w := 8) (lo := 0) (hi := 20) hw k7 (by omega) (by omega) (by omega) ?_ bad2 bad2
        intro τ8 r8 k8' v8 a8 n8
        have k8 : KX n tp (k + 7) τ8 := k8'
        have v8' : τ8.1 7 6 = I (tV n tp (k + 6)) := v8
        show wp (chk (ib (I (T 0 2)) 6) _) _
        rw [chk_t (ib_I h7 (by omega)), nmE, v8']
        have k9 := KX_7 k8 (i := 17) (j := T 0 2) (I (tV n tp (k + 6))) (by decide) (by decide)
        have d9 : drX σ (setI τ8 17 (T 0 2) (I (tV n tp (k + 6)))) := drX_I (drX_tr d7 (drX_rd r8)) _ (by omega) (by omega)
        have e9 : ∀ i, i ≠ 5 → i ≠ 7 → i ≠ 15 → i ≠ 16 → i ≠ 17 → (setI τ8 17 (T 0 2) (I (tV n tp (k + 6)))).1 i = σ.1 i := fun i a b c d e => by
          rw [gI_ne1 _ _ _ e, r8.1 i a b]; exact e7 i a b c d
        have l15 : ∀ c, (setI τ8 17 (T 0 2) (I (tV n tp (k + 6)))).1 15 c = if c = T 0 2 then I (tW n tp (k + 2) - 16) else σ.1 15 c := fun c => by
          rw [gI_ne1 _ _ _ (by decide), r8.1 15 (by decide) (by decide)]; exact h15 c
        have l16 : ∀ c, (setI τ8 17 (T 0 2) (I (tV n tp (k + 6)))).1 16 c = if c = T 0 2 then I (tV n tp (k + 4)) else σ.1 16 c := fun c => by
          rw [gI_ne1 _ _ _ (by decide), r8.1 16 (by decide) (by decide)]; exact h16 c
        have l17 : ∀ c, (setI τ8 17 (T 0 2) (I (tV n tp (k + 6)))).1 17 c = if c = T 0 2 then I (tV n tp (k + 6)) else σ.1 17 c := fun c => by
          by_cases e : c = T 0 2
          · rw [if_pos e, e, gI_same]
          · rw [if_neg e, gI_ne2 _ _ _ e, r8.1 17 (by decide) (by decide), e7 17 (by decide) (by decide) (by decide) (by decide)]
        have x9a : XNm n tp (m + 1) (updN np m (ps n tp (k + 1))) (updN idn m (7 + T 0 2)) τ8 := rdX_XNm r8 x7
        have x9 : XNm n tp (m + 1) (updN np m (ps n tp (k + 1))) (updN idn m (7 + T 0 2)) (setI τ8 17 (T 0 2) (I (tV n tp (k + 6)))) := x9a
        generalize setI τ8 17 (T 0 2) (I (tV n tp (k + 6))) = τ9 at k9 d9 e9 l15 l16 l17 x9 ⊢
        have bad3 : ∀ τ, rdX τ9 τ → τ.1 7 4 = I (afF n tp (k + 7) 9 0 9) → 0 < afF n tp (k + 7) 9 0 9 → wp (rX_readCarrier_192 τ) (XcrQ n tp m np idn T k σ) := fun τ f e p => by
          have es : crF n tp m np (T 0 2) k = afF n tp (k + 7) 9 0 9 := by unfold crF; rw [if_pos h7, if_pos a, if_pos hkd, if_pos a6, if_pos a8]
          unfold rX_readCarrier_192
          exact fail τ (drX_tr d9 (drX_rd f)) (by rw [es]; exact e) (by omega)
        refine eX_after (w := 9) (lo := 0) (hi := 9) hw k9 (by omega) (by omega) (by omega) ?_ bad3 bad3
        intro τa ra ka' va aa na
        have ka : KX n tp (k + 9) τa := ka'
        have va' : τa.1 7 6 = I (tV n tp (k + 8)) := va
        show wp (chk (ib (I (T 0 2)) 6) _) _
        rw [chk_t (ib_I h7 (by omega)), nmE, va', nmE, gI_ne1 _ _ _ (show (10 : Nat) ≠ 18 by decide), ra.1 10 (by decide) (by decide), e9 10 (by decide) (by decide) (by decide) (by decide) (by decide), h2, I1, I_add, chk_t (by decide)]
        have xa : XNm n tp (m + 1) (updN np m (ps n tp (k + 1))) (updN idn m (7 + T 0 2)) τa := rdX_XNm ra x9
        have es : crF n tp m np (T 0 2) k = 0 := by unfold crF; rw [if_pos h7, if_pos a, if_pos hkd, if_pos a6, if_pos a8]; exact aa
        refine wp_some ⟨drX_I (drX_I (drX_tr d9 (drX_rd ra)) _ (by omega) (by omega)) _ (by omega) (by omega), Or.inl ⟨es, I1.symm, KX_7 (KX_7 ka _ (by decide) (by decide)) _ (by decide) (by decide), ?_, xa, ?_⟩⟩
        · refine XDr_cr hT (gI_same _ _ _ _) (fun j hj => ?_) (fun c => ?_) (fun c => ?_) (fun c => ?_) (fun c => ?_) (fun i h1 h2 => ?_)
          · rw [gI_ne2 _ _ _ hj, gI_ne1 _ _ _ (by decide), ra.1 10 (by decide) (by decide), e9 10 (by decide) (by decide) (by decide) (by decide) (by decide)]
          · rw [gI_ne1 _ _ _ (by decide), gI_ne1 _ _ _ (by decide), ra.1 15 (by decide) (by decide)]; exact l15 c
          · rw [gI_ne1 _ _ _ (by decide), gI_ne1 _ _ _ (by decide), ra.1 16 (by decide) (by decide)]; exact l16 c
          · rw [gI_ne1 _ _ _ (by decide), gI_ne1 _ _ _ (by decide), ra.1 17 (by decide) (by decide)]; exact l17 c
          · rw [gI_ne1 _ _ _ (by decide)]
            by_cases e : c = T 0 2
            · rw [if_pos e, e, gI_same]
            · rw [if_neg e, gI_ne2 _ _ _ e, ra.1 18 (by decide) (by decide), e9 18 (by decide) (by decide) (by decide) (by decide) (by decide)]
          · rw [gI_ne1 _ _ _ (by omega), gI_ne1 _ _ _ (by omega), ra.1 i (by omega) (by omega), e9 i (by omega) (by omega) (by omega) (by omega) (by omega)]
        · rw [gI_ne1 _ _ _ (by decide), gI_ne1 _ _ _ (by decide), ra.1 19 (by decide) (by decide), e9 19 (by decide) (by decide) (by decide) (by decide) (by decide)]
      · have hkd : ¬ (16 ≤ tW n tp (k + 2) ∧ tW n tp (k + 2) ≤ 21) := fun h9 => hk ((kd_iff hlt).mpr h9)
        have es : crF n tp m np (T 0 2) k = 1 + 16 * ps n tp (k + 2) := by unfold crF; rw [if_pos h7, if_pos a, if_neg hkd]
        rw [I1, eX_wrong k3, bnd2S]
        exact fail _ (drX_tr d3 (drX_rd (rdX_7 rdX_refl _ (by omega)))) (by rw [es]; exact gI_same _ _ _ _) (by omega)
    · show wp (brc (¬ (0 : Int32) = 0) _ _) _
      have es : crF n tp m np (T 0 2) k = nnF n tp m np (k + 1) + 16 * ps n tp (k + 1) := by unfold crF; rw [if_pos h7, if_neg (by omega)]
      rw [brc_f (by decide)]
      exact fail _ (drX_rd (rdX_7 r1 _ (by omega))) (by rw [es]; exact gI_same _ _ _ _) (by omega)
  · rw [litN, I_lt (by omega) (by omega)] at h7
    have es : crF n tp m np (T 0 2) k = 5 + 16 * ps n tp k := by unfold crF; rw [if_neg h7]
    rw [litN, eX_wrong h, bnd2S]
    exact fail _ (drX_rd (rdX_7 rdX_refl _ (by omega))) (by rw [es]; exact gI_same _ _ _ _) (by omega)
