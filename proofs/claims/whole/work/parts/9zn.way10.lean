/-! the reference reads a way -/
theorem MNm_dr {n : Nat} {tp : Nat → Nat} {m : Nat} {np idn : Nat → Nat} {σ τ : St} (h17 : τ.1 0 17 = σ.1 0 17) (h11 : τ.1 11 = σ.1 11) (h10 : τ.2.1 10 = σ.2.1 10) (h : MNm n tp m np idn σ) : MNm n tp m np idn τ :=
  ⟨by rw [h17]; exact h.1, fun q hq => by rw [h11, h10]; exact h.2 q hq⟩
theorem MDr_fr {T : Vw} {σ τ : St} (h : τ.1 6 = σ.1 6) (hx : MDr T σ) : MDr T τ := by
  unfold MDr at *
  refine MT_fr ?_ hx
  show (fun j => τ.1 6 (160 + j)) = fun j => σ.1 6 (160 + j)
  rw [h]
theorem eM_readWay {n : Nat} {tp : Nat → Nat} (hw : wfP n tp) {N k m : Nat} {np idn : Nat → Nat} {T : Vw} {σ : St} (h : RM n tp N k 0 σ) (hW : ¬ tW n tp k = 40) (hN : Nm n tp (T 0 0) (T 0 2) m np idn) (hM : MNm n tp m np idn σ) (hT : MDr T σ) (h12 : T 0 1 ≤ 12) (h99 : ∀ q, q < 49 → T 3 q ≤ 99) : wp (rM_readWay σ) (fun τ => drM σ τ ∧ ((wyF n tp m np idn T k = 0 ∧ RM n tp N (k + 7) 0 τ ∧ MDr (wyT T (fS n tp m np idn (k + 1)) (fS n tp m np idn (k + 2)) (tV n tp (k + 4)) (tV n tp (k + 6))) τ ∧ MNm n tp m np idn τ) ∨ (0 < wyF n tp m np idn T k ∧ wyF n tp m np idn T k < 20000 ∧ ∃ k', RM n tp N k' (wyF n tp m np idn T k) τ))) := by
  have hn := hw.1
  have hS7 := hN.1
  have hp0 := (RM_tok h).2.2.1
  have e161 : (161 : Int32).toNatClampNeg = 161 := by decide
  have hT1 : σ.1 6 161 = I (T 0 1) := hT.2.1
  unfold rM_readWay
  rw [chk_t (by decide), nmE, e161, hT1]
  refine wp_brc (fun h7 => ?_) (fun h7 => ?_)
  · rw [litN, I_inj (by omega) (by omega)] at h7
    have h7' : T 0 1 < 12 := by omega
    have h1 := RM_k h (wd_in h hW)
    have f1 : rdM σ (setI σ 0 7 (I (k + 1))) := frO_f frO_refl _ (by decide)
    rw [nmE, h.2.2.1, I1, I_add]
    generalize setI σ 0 7 (I (k + 1)) = τ1 at h1 f1 ⊢
    have m1 := MNm_rd f1 hM
    have p1 := (RM_tok h1).2.2.1
    refine wp_bnd2 (wp_mono (eM_nameHere (b := 0) (l := 7) hw h1 hN m1 (Or.inl ⟨rfl, rfl⟩) (-1)) ?_)
    rintro ⟨r, τ2⟩ ⟨f2, ⟨a, b, ⟨c, d⟩ | ⟨c, d⟩⟩ | ⟨a, a', d⟩⟩
    · have b' : r = I (fS n tp m np idn (k + 1)) := b
      have d' : τ2 = τ1 := d
      subst b' d'
      obtain ⟨t0, t1, t2⟩ := tdF_0 a
      have ha : fS n tp m np idn (k + 1) < 7 := by show fdI n tp np idn (ps n tp (k + 1)) m < 7; omega
      have t9 := of_decide_eq_true t0
      show wp (nm (I (fS n tp m np idn (k + 1))) fun v2_6 => brc (τ2.1 0 8 ≤ 0) (rM_readWay_57 v2_6 1 (τ2.1 0 7) τ2) (rM_readWay_57 v2_6 0 (τ2.1 0 7) τ2)) _
      rw [nmE, brc_t (F_0 h1).2]
      have h3 := RM_k h1 (wd_in h1 (by omega))
      have f3 : rdM τ2 (setI τ2 0 7 (I (k + 1 + 1))) := frO_f frO_refl _ (by decide)
      unfold rM_readWay_57
      rw [nmE, h1.2.2.1, I1, I_add]
      generalize setI τ2 0 7 (I (k + 1 + 1)) = τ3 at h3 f3 ⊢
      have h3' : RM n tp N (k + 2) 0 τ3 := h3
      have m3 := MNm_rd f3 m1
      have p3 := (RM_tok h3').2.2.1
      have g3 := frO_tr f1 f3
      rw [brc_t (F_0 h3).2]
      refine wp_bnd2 (wp_mono (eM_nameHere (b := 0) (l := 7) hw h3' hN m3 (Or.inl ⟨rfl, rfl⟩) (I (fS n tp m np idn (k + 1)))) ?_)
      have flt : ∀ (τ : St) (v : Int32) (F : Nat), rdM σ τ → wyF n tp m np idn T k = F → 0 < F → F < 20000 → RM n tp N (k + 2) F τ → wp (rM_readWay_80 (I (fS n tp m np idn (k + 1))) v τ) (fun τ => drM σ τ ∧ ((wyF n tp m np idn T k = 0 ∧ RM n tp N (k + 7) 0 τ ∧ MDr (wyT T (fS n tp m np idn (k + 1)) (fS n tp m np idn (k + 2)) (tV n tp (k + 4)) (tV n tp (k + 6))) τ ∧ MNm n tp m np idn τ) ∨ (0 < wyF n tp m np idn T k ∧ wyF n tp m np idn T k < 20000 ∧ ∃ k', RM n tp N k' (wyF n tp m np idn T k) τ))) := fun τ v F f e x y z => by
        refine wp_mono (eM_wy80F z (by omega) _ v) ?_
        rintro υ ⟨p, q⟩
        exact ⟨drM_rd (frO_tr f p), Or.inr ⟨by omega, by omega, k + 2, by rw [e]; exact q⟩⟩
      rintro ⟨r, τ4⟩ ⟨f4, ⟨a4, b4, ⟨c4, d4⟩ | ⟨c4, d4⟩⟩ | ⟨a4, a4', d4⟩⟩
      · have b' : r = I (fS n tp m np idn (k + 2)) := b4
        have d' : τ4 = τ3 := d4
        subst b' d'
        obtain ⟨u0, u1, u2⟩ := tdF_0 a4
        have hb : fS n tp m np idn (k + 2) < 7 := by show fdI n tp np idn (ps n tp (k + 2)) m < 7; omega
        have u9 := of_decide_eq_true u0
        have hne : ¬ fS n tp m np idn (k + 1) = fS n tp m np idn (k + 2) := fun h9 => c4 (by show I (fS n tp m np idn (k + 2)) = _; rw [h9])
        have e6 : (182 : Int32) + (2 : Int32) * ((7 : Int32) * I (fS n tp m np idn (k + 1)) + I (fS n tp m np idn (k + 2))) = I (182 + 2 * (7 * fS n tp m np idn (k + 1) + fS n tp m np idn (k + 2))) := by
          have h : ∀ a, a < 7 → ∀ b, b < 7 → (182 : Int32) + (2 : Int32) * ((7 : Int32) * I a + I b) = I (182 + 2 * (7 * a + b)) := by decide +kernel
          exact h _ ha _ hb
        have h99' := h99 (7 * fS n tp m np idn (k + 1) + fS n tp m np idn (k + 2)) (by omega)
        have hcell : τ4.1 6 (182 + 2 * (7 * fS n tp m np idn (k + 1) + fS n tp m np idn (k + 2))) = I (T 3 (7 * fS n tp m np idn (k + 1) + fS n tp m np idn (k + 2))) := by
          rw [g3.1 6 (by decide) (by decide)]
          have := (hT.2.2.2.2.2.2.2.1 (7 * fS n tp m np idn (k + 1) + fS n tp m np idn (k + 2)) (by omega)).1
          rw [show 182 + 2 * (7 * fS n tp m np idn (k + 1) + fS n tp m np idn (k + 2)) = 160 + (22 + 2 * (7 * fS n tp m np idn (k + 1) + fS n tp m np idn (k + 2))) by omega]
          exact this
        show wp (rM_readWay_80 (I (fS n tp m np idn (k + 1))) (I (fS n tp m np idn (k + 2))) τ4) _
        unfold rM_readWay_80
        rw [nmE, brc_f (fun h9 => h9 (F_0 h3').1), e6, chk_t (ib_I (by omega) (by omega)), I_cl (by omega), hcell]
        refine wp_brc (fun h4 => ?_) (fun h4 => ?_)
        · rw [I0, I_le (by omega) (by omega)] at h4
          unfold rM_readWay_113
          rw [brc_t (F_0 h3').2]
          have h5 := RM_k h3' (wd_in h3' (by omega))
          have f5 : rdM τ4 (setI τ4 0 7 (I (k + 2 + 1))) := frO_f frO_refl _ (by decide)
          unfold rM_readWay_130 rM_readWay_236
          rw [nmE, h3'.2.2.1, I1, I_add]
          generalize setI τ4 0 7 (I (k + 2 + 1)) = τ5 at h5 f5 ⊢
          have h5' : RM n tp N (k + 3) 0 τ5 := h5
          have g5 := frO_tr g3 f5
          have w4 : wcl 4 = 4 := rfl
          have w5 : wcl 5 = 5 := rfl
          refine wp_bnd2 (wp_mono (eM_after (w := 4) (lo := 1) (hi := 99) hw h5' (by omega) (by omega) (by omega)) ?_)
          rw [w4]
          rintro ⟨x, τ6⟩ ⟨f6, ⟨a6, b6, c6⟩ | ⟨a6, b6, c6, k6, d6⟩⟩
          · have b' : x = I (tV n tp (k + 4)) := b6
            subst b'
            have c6' : RM n tp N (k + 5) 0 τ6 := c6
            have g6 := frO_tr g5 f6
            have es : wyF n tp m np idn T k = afF n tp (k + 5) 5 0 9 := by unfold wyF; rw [if_pos h7', if_pos a, if_pos a4, if_neg (by omega), if_pos a6]
            rw [nmE]
            refine wp_bnd2 (wp_mono (eM_after (w := 5) (lo := 0) (hi := 9) hw c6' (by omega) (by omega) (by omega)) ?_)
            rw [w5]
            rintro ⟨y, τ7⟩ ⟨f7, ⟨a7, b7, c7⟩ | ⟨a7, b7, c7, k7, d7⟩⟩
            · have b' : y = I (tV n tp (k + 6)) := b7
              subst b'
              have c7' : RM n tp N (k + 7) 0 τ7 := c7
              have g7 := frO_tr g6 f7
              show wp (nm (I (tV n tp (k + 6))) fun v5_20 => brc (¬ τ7.1 0 8 = 0) (some τ7) (nm (0 : Int32) fun v6_21 => lp rM_readWay_164L fu (I (fS n tp m np idn (k + 1)), I (fS n tp m np idn (k + 2)), I (tV n tp (k + 4)), v5_20, v6_21, τ7))) _
              rw [nmE, brc_f (fun h9 => h9 (F_0 c7').1), nmE]
              refine wp_mono (eM_wyLoop ha hb hS7 (MDr_fr (g7.1 6 (by decide) (by decide)) hT)) ?_
              rintro υ ⟨y1, y2, y3, y4⟩
              refine ⟨drM_tr (drM_rd g7) ⟨fun i p q r => y2 i q, y3, fun j _ _ _ => by rw [y2 0 (by decide)], fun i _ => by rw [y4], by rw [y4]⟩, Or.inl ⟨by rw [es]; exact a7, ?_, y1, MNm_dr (by rw [y2 0 (by decide)]; exact g7.2.1 17 (by decide)) ((y2 11 (by decide)).trans (g7.1 11 (by decide) (by decide))) (by rw [y4, g7.2.2]) hM⟩⟩
              exact RM_of c7' (y2 2 (by decide)) (y2 3 (by decide)) (by rw [y4]) (by rw [y4]) c7'.2.1 (by rw [y2 0 (by decide)]; exact c7'.2.2.1) (by rw [y2 0 (by decide)]; exact c7'.2.2.2.1)
            · show wp (nm y fun v5_20 => brc (¬ τ7.1 0 8 = 0) _ _) _
              rw [nmE, brc_t (F_ne d7 (by omega)).1]
              exact wp_some ⟨drM_rd (frO_tr g6 f7), Or.inr ⟨by omega, by omega, k7, by rw [es]; exact d7⟩⟩
          · have es : wyF n tp m np idn T k = afF n tp (k + 3) 4 1 99 := by unfold wyF; rw [if_pos h7', if_pos a, if_pos a4, if_neg (by omega), if_neg (by omega)]
            rw [nmE]
            refine wp_bnd2 (wp_mono (eM_afterF d6 (by omega) _ _ _) ?_)
            rintro ⟨y, τ7⟩ ⟨f7, b7, c7⟩
            show wp (nm y fun v5_20 => brc (¬ τ7.1 0 8 = 0) _ _) _
            rw [nmE, brc_t (F_ne c7 (by omega)).1]
            exact wp_some ⟨drM_rd (frO_tr g5 (frO_tr f6 f7)), Or.inr ⟨by omega, by omega, k6, by rw [es]; exact c7⟩⟩
        · rw [I0, I_le (by omega) (by omega)] at h4
          have es : wyF n tp m np idn T k = 3 + 16 * ps n tp (k + 2) := by unfold wyF; rw [if_pos h7', if_pos a, if_pos a4, if_pos (Or.inr (by omega))]
          rw [litN, eM_wrong h3', bnd1S]
          refine wp_mono (eM_wy113F (RM_F h3' (3 + 16 * ps n tp (k + 2))) (by omega) _ _) ?_
          rintro υ ⟨p, q⟩
          exact ⟨drM_rd (frO_tr g3 (frO_tr (frO_f frO_refl _ (by decide)) p)), Or.inr ⟨by omega, by omega, k + 2, by rw [es]; exact q⟩⟩
      · have b' : r = I (fS n tp m np idn (k + 2)) := b4
        have c' : r = I (fS n tp m np idn (k + 1)) := c4
        obtain ⟨u0, u1, u2⟩ := tdF_0 a4
        have hb : fS n tp m np idn (k + 2) < 7 := by show fdI n tp np idn (ps n tp (k + 2)) m < 7; omega
        have he : fS n tp m np idn (k + 1) = fS n tp m np idn (k + 2) := by
          rw [← I_inj (by omega) (by omega), ← b', ← c']
        exact flt τ4 r _ (frO_tr g3 f4) (by unfold wyF; rw [if_pos h7', if_pos a, if_pos a4, if_pos (Or.inl he)]) (by omega) (by omega) d4
      · exact flt τ4 r _ (frO_tr g3 f4) (by unfold wyF; rw [if_pos h7', if_pos a, if_neg (by omega)]) (by omega) (by omega) d4
    · have b' : r = I (fS n tp m np idn (k + 1)) := b
      have c' : r = -1 := c
      obtain ⟨t0, t1, t2⟩ := tdF_0 a
      rw [b'] at c'
      exact absurd c' (m1_ne (by show fdI n tp np idn (ps n tp (k + 1)) m < _; omega))
    · have es : wyF n tp m np idn T k = tdF n tp m np idn (k + 1) 0 7 + 16 * ps n tp (k + 1) := by unfold wyF; rw [if_pos h7', if_neg (by omega)]
      show wp (nm r fun v2_6 => brc (τ2.1 0 8 ≤ 0) (rM_readWay_57 v2_6 1 (τ2.1 0 7) τ2) (rM_readWay_57 v2_6 0 (τ2.1 0 7) τ2)) _
      rw [nmE, brc_f (F_ne d (by omega)).2]
      refine wp_mono (eM_wy57F d (by omega) r) ?_
      rintro υ ⟨p, q⟩
      exact ⟨drM_rd (frO_tr f1 (frO_tr f2 p)), Or.inr ⟨by omega, by omega, k + 1, by rw [es]; exact q⟩⟩
  · have h9 := Classical.not_not.mp h7
    rw [litN, I_inj (by omega) (by omega)] at h9
    have es : wyF n tp m np idn T k = 5 + 16 * ps n tp k := by unfold wyF; rw [if_neg (by omega)]
    rw [litN, eM_wrong h, bnd1S]
    refine wp_some ⟨drM_rd (frO_f frO_refl _ (by decide)), Or.inr ⟨by omega, by omega, k, ?_⟩⟩
    rw [es]
    exact RM_F h _
