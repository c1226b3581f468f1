/-! the class reads a station -/
theorem eX_readStation {n : Nat} {tp : Nat → Nat} (hw : wfP n tp) {k m : Nat} {np idn : Nat → Nat} {T : Vw} {σ : St} (h : KX n tp k σ) (hN : Nm n tp (T 0 0) (T 0 2) m np idn) (hX : XNm n tp m np idn σ) (hT : XDr T σ) : wp (rX_readStation σ) (fun r => drX σ r.2 ∧ ((stF n tp m np (T 0 0) k = 0 ∧ r.1 = 1 ∧ KX n tp (k + 6) r.2 ∧ XDr (stT T (tV n tp (k + 3)) (tV n tp (k + 5))) r.2 ∧ XNm n tp (m + 1) (updN np m (ps n tp (k + 1))) (updN idn m (T 0 0)) r.2 ∧ r.2.1 19 = σ.1 19) ∨ (0 < stF n tp m np (T 0 0) k ∧ r.1 = 0 ∧ r.2.1 7 4 = I (stF n tp m np (T 0 0) k)))) := by
  have hS := hN.1
  have h0 : σ.1 10 0 = I (T 0 0) := hT.1
  have h2 : σ.1 10 2 = I (T 0 2) := hT.2.2.1
  unfold rX_readStation
  rw [nmE, h0]
  refine wp_brc (fun h7 => ?_) (fun h7 => ?_)
  · rw [litN, I_lt (by omega) (by omega)] at h7
    refine wp_bnd1 (wp_mono (eX_step hw h) ?_)
    rintro τ1 ⟨f1, k1⟩
    have r1 := rdX_tk f1
    have x1 := rdX_XNm r1 hX
    refine wp_bnd2 (wp_mono (eX_isNewName hw k1 hN x1 (by rw [r1.1 10 (by decide) (by decide)]; exact h0) (by rw [r1.1 10 (by decide) (by decide)]; exact h2)) ?_)
    rintro r (⟨a, b, rfl⟩ | ⟨a, b, rfl⟩)
    · show wp (brc (¬ (1 : Int32) = 0) _ _) _
      have ht := cnm_T hw k1.2.1 b
      rw [brc_t (by decide), chk_t (ib_I h7 (by omega)), nmE, I_cl (by omega), KX_nm k1 ht]
      have x2 := XNm_S (i := ps n tp (k + 1)) hN h7 x1
      have k2 := KX_J k1 (i := 8) (j := T 0 0) (c8 n tp (ps n tp (k + 1))) (by decide)
      have d2 : drX σ (setJ τ1 8 (T 0 0) (c8 n tp (ps n tp (k + 1)))) := drX_J (drX_rd r1) _ (by omega)
      have e2 : ∀ i, i ≠ 5 → i ≠ 7 → (setJ τ1 8 (T 0 0) (c8 n tp (ps n tp (k + 1)))).1 i = σ.1 i := fun i a b => r1.1 i a b
      generalize setJ τ1 8 (T 0 0) (c8 n tp (ps n tp (k + 1))) = τ2 at x2 k2 d2 e2 ⊢
      refine wp_bnd1 (wp_mono (eX_step hw k2) ?_)
      rintro τ3 ⟨f3, k3'⟩
      have k3 : KX n tp (k + 2) τ3 := k3'
      have r3 := rdX_tk f3
      have fail : ∀ τ : St, drX σ τ → τ.1 7 4 = I (stF n tp m np (T 0 0) k) → 0 < stF n tp m np (T 0 0) k → wp (chk (decide ((0 : Int32) = 0 ∨ (0 : Int32) = 1)) (some ((0 : Int32), τ))) (fun r => drX σ r.2 ∧ ((stF n tp m np (T 0 0) k = 0 ∧ r.1 = 1 ∧ KX n tp (k + 6) r.2 ∧ XDr (stT T (tV n tp (k + 3)) (tV n tp (k + 5))) r.2 ∧ XNm n tp (m + 1) (updN np m (ps n tp (k + 1))) (updN idn m (T 0 0)) r.2 ∧ r.2.1 19 = σ.1 19) ∨ (0 < stF n tp m np (T 0 0) k ∧ r.1 = 0 ∧ r.2.1 7 4 = I (stF n tp m np (T 0 0) k)))) := fun τ d e p => by
        rw [chk_t (by decide)]
        exact wp_some ⟨d, Or.inr ⟨p, rfl, e⟩⟩
      have bad1 : ∀ τ, rdX τ3 τ → τ.1 7 4 = I (afF n tp (k + 2) 1 0 99) → 0 < afF n tp (k + 2) 1 0 99 → wp (rX_readStation_76 τ) (fun r => drX σ r.2 ∧ ((stF n tp m np (T 0 0) k = 0 ∧ r.1 = 1 ∧ KX n tp (k + 6) r.2 ∧ XDr (stT T (tV n tp (k + 3)) (tV n tp (k + 5))) r.2 ∧ XNm n tp (m + 1) (updN np m (ps n tp (k + 1))) (updN idn m (T 0 0)) r.2 ∧ r.2.1 19 = σ.1 19) ∨ (0 < stF n tp m np (T 0 0) k ∧ r.1 = 0 ∧ r.2.1 7 4 = I (stF n tp m np (T 0 0) k)))) := fun τ f e p => by
        have es : stF n tp m np (T 0 0) k = afF n tp (k + 2) 1 0 99 := by unfold stF; rw [if_pos h7, if_pos a, if_neg (by omega)]
        unfold rX_readStation_76
        exact fail τ (drX_tr (drX_tr d2 (drX_rd r3)) (drX_rd f)) (by rw [es]; exact e) (by omega)
      refine eX_after (w := 1) (lo := 0) (hi := 99) hw k3 (by omega) (by omega) (by omega) ?_ bad1 bad1
      intro τ4 r4 k4' v4 a4 n4
      have k4 : KX n tp (k + 4) τ4 := k4'
      show wp (chk (ib (I (T 0 0)) 7) _) _
      rw [chk_t (ib_I h7 (by omega)), nmE, v4]
      have k5 := KX_7 k4 (i := 11) (j := T 0 0) (I (tV n tp (k + 2 + 1))) (by decide) (by decide)
      have d5 : drX σ (setI τ4 11 (T 0 0) (I (tV n tp (k + 2 + 1)))) := drX_I (drX_tr (drX_tr d2 (drX_rd r3)) (drX_rd r4)) _ (by omega) (by omega)
      have e5 : ∀ i, i ≠ 5 → i ≠ 7 → i ≠ 11 → (setI τ4 11 (T 0 0) (I (tV n tp (k + 2 + 1)))).1 i = σ.1 i := fun i a b c => by
        rw [gI_ne1 _ _ _ c, r4.1 i a b, r3.1 i a b]; exact e2 i a b
      have g5 : (setI τ4 11 (T 0 0) (I (tV n tp (k + 2 + 1)))).1 11 (T 0 0) = I (tV n tp (k + 2 + 1)) := gI_same _ _ _ _
      have g5' : ∀ s, s ≠ T 0 0 → (setI τ4 11 (T 0 0) (I (tV n tp (k + 2 + 1)))).1 11 s = σ.1 11 s := fun s hs => by
        rw [gI_ne2 _ _ _ hs, r4.1 11 (by decide) (by decide), r3.1 11 (by decide) (by decide), e2 11 (by decide) (by decide)]
      have x4 : XNm n tp (m + 1) (updN np m (ps n tp (k + 1))) (updN idn m (T 0 0)) τ4 := rdX_XNm r4 (rdX_XNm r3 x2)
      have x5 : XNm n tp (m + 1) (updN np m (ps n tp (k + 1))) (updN idn m (T 0 0)) (setI τ4 11 (T 0 0) (I (tV n tp (k + 2 + 1)))) := x4
      generalize setI τ4 11 (T 0 0) (I (tV n tp (k + 2 + 1))) = τ5 at k5 d5 e5 g5 g5' x5 ⊢
      have bad2 : ∀ τ, rdX τ5 τ → τ.1 7 4 = I (afF n tp (k + 4) 2 0 9) → 0 < afF n tp (k + 4) 2 0 9 → wp (rX_readStation_111 τ) (fun r => drX σ r.2 ∧ ((stF n tp m np (T 0 0) k = 0 ∧ r.1 = 1 ∧ KX n tp (k + 6) r.2 ∧ XDr (stT T (tV n tp (k + 3)) (tV n tp (k + 5))) r.2 ∧ XNm n tp (m + 1) (updN np m (ps n tp (k + 1))) (updN idn m (T 0 0)) r.2 ∧ r.2.1 19 = σ.1 19) ∨ (0 < stF n tp m np (T 0 0) k ∧ r.1 = 0 ∧ r.2.1 7 4 = I (stF n tp m np (T 0 0) k)))) := fun τ f e p => by
        have es : stF n tp m np (T 0 0) k = afF n tp (k + 4) 2 0 9 := by unfold stF; rw [if_pos h7, if_pos a, if_pos a4]
        unfold rX_readStation_111
        exact fail τ (drX_tr d5 (drX_rd f)) (by rw [es]; exact e) (by omega)
      refine eX_after (w := 2) (lo := 0) (hi := 9) hw k5 (by omega) (by omega) (by omega) ?_ bad2 bad2
      intro τ6 r6 k6 v6 a6 n6
      show wp (chk (ib (I (T 0 0)) 7) _) _
      rw [chk_t (ib_I h7 (by omega)), nmE, v6, nmE, gI_ne1 _ _ _ (show (10 : Nat) ≠ 12 by decide), r6.1 10 (by decide) (by decide), e5 10 (by decide) (by decide) (by decide), h0, I1, I_add, chk_t (by decide)]
      have x6 : XNm n tp (m + 1) (updN np m (ps n tp (k + 1))) (updN idn m (T 0 0)) τ6 := rdX_XNm r6 x5
      have es : stF n tp m np (T 0 0) k = 0 := by unfold stF; rw [if_pos h7, if_pos a, if_pos a4]; exact a6
      refine wp_some ⟨drX_I (drX_I (drX_tr d5 (drX_rd r6)) _ (by omega) (by omega)) _ (by omega) (by omega), Or.inl ⟨es, I1.symm, KX_7 (KX_7 k6 _ (by decide) (by decide)) _ (by decide) (by decide), ?_, x6, ?_⟩⟩
      · refine XDr_st hT (gI_same _ _ _ _) (fun j hj => ?_) ?_ (fun s hs => ?_) ?_ (fun s hs => ?_) (fun i h1 h2 => ?_)
        · rw [gI_ne2 _ _ _ hj, gI_ne1 _ _ _ (by decide), r6.1 10 (by decide) (by decide), e5 10 (by decide) (by decide) (by decide)]
        · rw [gI_ne1 _ _ _ (by decide), gI_ne1 _ _ _ (by decide), r6.1 11 (by decide) (by decide)]; exact g5
        · rw [gI_ne1 _ _ _ (by decide), gI_ne1 _ _ _ (by decide), r6.1 11 (by decide) (by decide)]; exact g5' s hs
        · rw [gI_ne1 _ _ _ (by decide), gI_same]
        · rw [gI_ne1 _ _ _ (by decide), gI_ne2 _ _ _ hs, r6.1 12 (by decide) (by decide), e5 12 (by decide) (by decide) (by decide)]
        · rw [gI_ne1 _ _ _ (by omega), gI_ne1 _ _ _ (by omega), r6.1 i (by omega) (by omega), e5 i (by omega) (by omega) (by omega)]
      · rw [gI_ne1 _ _ _ (by decide), gI_ne1 _ _ _ (by decide), r6.1 19 (by decide) (by decide), e5 19 (by decide) (by decide) (by decide)]
    · show wp (brc (¬ (0 : Int32) = 0) _ _) _
      rw [brc_f (by decide), chk_t (by decide)]
      have es : stF n tp m np (T 0 0) k = nnF n tp m np (k + 1) + 16 * ps n tp (k + 1) := by unfold stF; rw [if_pos h7, if_neg (by omega)]
      exact wp_some ⟨drX_rd (rdX_7 r1 _ (by omega)), Or.inr ⟨by omega, rfl, by rw [es]; exact gI_same _ _ _ _⟩⟩
  · rw [litN, I_lt (by omega) (by omega)] at h7
    have es : stF n tp m np (T 0 0) k = 5 + 16 * ps n tp k := by unfold stF; rw [if_neg h7]
    rw [litN, eX_wrong h, bnd2S, chk_t (by decide)]
    exact wp_some ⟨drX_rd (rdX_7 rdX_refl _ (by omega)), Or.inr ⟨by omega, rfl, by rw [es]; exact gI_same _ _ _ _⟩⟩
