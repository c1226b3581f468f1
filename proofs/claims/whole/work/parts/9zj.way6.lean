/-! the class reads a way -/
theorem rdX_XDr {T : Vw} {σ τ : St} (h : rdX σ τ) (hx : XDr T σ) : XDr T τ := by
  unfold XDr at *
  refine XMt_fr (fun i h1 h2 => ?_) hx
  exact h.1 (i - 13) (by omega) (by omega)
theorem eX_readWay {n : Nat} {tp : Nat → Nat} (hw : wfP n tp) {k m : Nat} {np idn : Nat → Nat} {T : Vw} {σ : St} (h : KX n tp k σ) (hN : Nm n tp (T 0 0) (T 0 2) m np idn) (hX : XNm n tp m np idn σ) (hT : XDr T σ) (h12 : T 0 1 ≤ 12) (h99 : ∀ q, q < 49 → T 3 q ≤ 99) : wp (rX_readWay σ) (fun r => drX σ r.2 ∧ r.2.1 19 = σ.1 19 ∧ (∀ i, i ≠ 5 → r.2.2.1 i = σ.2.1 i) ∧ ((wyF n tp m np idn T k = 0 ∧ r.1 = 1 ∧ KX n tp (k + 7) r.2 ∧ XDr (wyT T (fS n tp m np idn (k + 1)) (fS n tp m np idn (k + 2)) (tV n tp (k + 4)) (tV n tp (k + 6))) r.2) ∨ (0 < wyF n tp m np idn T k ∧ r.1 = 0 ∧ r.2.1 7 4 = I (wyF n tp m np idn T k)))) := by
  have hS := hN.1
  have hT1 : σ.1 10 1 = I (T 0 1) := hT.2.1
  have fail : ∀ τ : St, rdX σ τ → τ.1 7 4 = I (wyF n tp m np idn T k) → 0 < wyF n tp m np idn T k → wp (chk (decide ((0 : Int32) = 0 ∨ (0 : Int32) = 1)) (some ((0 : Int32), τ))) (fun r => drX σ r.2 ∧ r.2.1 19 = σ.1 19 ∧ (∀ i, i ≠ 5 → r.2.2.1 i = σ.2.1 i) ∧ ((wyF n tp m np idn T k = 0 ∧ r.1 = 1 ∧ KX n tp (k + 7) r.2 ∧ XDr (wyT T (fS n tp m np idn (k + 1)) (fS n tp m np idn (k + 2)) (tV n tp (k + 4)) (tV n tp (k + 6))) r.2) ∨ (0 < wyF n tp m np idn T k ∧ r.1 = 0 ∧ r.2.1 7 4 = I (wyF n tp m np idn T k)))) := fun τ d e p => by
    rw [chk_t (by decide)]
    exact wp_some ⟨drX_rd d, d.1 19 (by decide) (by decide), d.2.2.2.1, Or.inr ⟨p, rfl, e⟩⟩
  unfold rX_readWay
  rw [hT1]
  refine wp_brc (fun h7 => ?_) (fun h7 => ?_)
  · rw [litN, I_lt (by omega) (by omega)] at h7
    refine wp_bnd1 (wp_mono (eX_step hw h) ?_)
    rintro τ1 ⟨f1, k1⟩
    have r1 := rdX_tk f1
    have x1 := rdX_XNm r1 hX
    rw [show τ1.1 10 0 = I (T 0 0) by rw [r1.1 10 (by decide) (by decide)]; exact hT.1]
    refine wp_bnd2 (wp_mono (eX_takeToldS hw k1 hN x1) ?_)
    rintro ⟨r, τ2⟩ ⟨f2, ⟨a, b, k2', v2⟩ | ⟨a, a', b, v2⟩⟩
    · have b' : r = 1 := b
      subst b'
      have k2 : KX n tp (k + 2) τ2 := k2'
      have v2' : τ2.1 7 6 = I (fS n tp m np idn (k + 1)) := v2
      have rr2 := rdX_tr r1 f2
      have x2 := rdX_XNm rr2 hX
      have t2 := rdX_XDr rr2 hT
      show wp (brc (¬ (1 : Int32) = 0) (nm (τ2.1 7 6) _) _) _
      rw [brc_t (by decide), nmE, v2', show τ2.1 10 0 = I (T 0 0) from t2.1]
      refine wp_bnd2 (wp_mono (eX_toldS hw k2 hN x2) ?_)
      rintro r (⟨c, c', rfl⟩ | ⟨c, c', rfl⟩)
      · show wp (brc (¬ (1 : Int32) = 0) (bnd2 (rX_placeOfS (τ2.1 10 0) τ2) _) _) _
        rw [brc_t (by decide), show τ2.1 10 0 = I (T 0 0) from t2.1]
        refine wp_bnd2 (wp_mono (eX_placeS hw k2 hN x2 c) ?_)
        rintro r rfl
        obtain ⟨-, -, ha9⟩ := tdF_0 a
        obtain ⟨-, -, hb9⟩ := tdF_0 c
        have ha : fS n tp m np idn (k + 1) < 7 := by show fdI n tp np idn (ps n tp (k + 1)) m < 7; omega
        have hb : fS n tp m np idn (k + 2) < 7 := by show fdI n tp np idn (ps n tp (k + 2)) m < 7; omega
        rw [nmE]
        have bad : (fS n tp m np idn (k + 1) = fS n tp m np idn (k + 2) ∨ 0 < T 3 (7 * fS n tp m np idn (k + 1) + fS n tp m np idn (k + 2))) → wp (rX_readWay_103 τ2) (fun r => drX σ r.2 ∧ r.2.1 19 = σ.1 19 ∧ (∀ i, i ≠ 5 → r.2.2.1 i = σ.2.1 i) ∧ ((wyF n tp m np idn T k = 0 ∧ r.1 = 1 ∧ KX n tp (k + 7) r.2 ∧ XDr (wyT T (fS n tp m np idn (k + 1)) (fS n tp m np idn (k + 2)) (tV n tp (k + 4)) (tV n tp (k + 6))) r.2) ∨ (0 < wyF n tp m np idn T k ∧ r.1 = 0 ∧ r.2.1 7 4 = I (wyF n tp m np idn T k)))) := fun hor => by
          have es : wyF n tp m np idn T k = 3 + 16 * ps n tp (k + 2) := by unfold wyF; rw [if_pos h7, if_pos a, if_pos c, if_pos hor]
          unfold rX_readWay_103
          rw [litN, eX_wrong k2, bnd2S]
          exact fail _ (rdX_7 rr2 _ (by omega)) (by rw [es]; exact gI_same _ _ _ _) (by omega)
        show wp (brc (I (fS n tp m np idn (k + 1)) = I (fS n tp m np idn (k + 2))) (rX_readWay_103 τ2) (bnd2 (rX_hasWayD (I (fS n tp m np idn (k + 1))) (I (fS n tp m np idn (k + 2))) τ2) _)) _
        refine wp_brc (fun h3 => ?_) (fun h3 => ?_)
        · rw [I_inj (by omega) (by omega)] at h3
          exact bad (Or.inl h3)
        · rw [I_inj (by omega) (by omega)] at h3
          rw [eX_hasWayD (by omega) (by omega) t2 (h99 _ (by omega)), bnd2S]
          by_cases h4 : 0 < T 3 (7 * fS n tp m np idn (k + 1) + fS n tp m np idn (k + 2))
          · rw [if_pos h4, brc_f (by decide)]
            exact bad (Or.inr h4)
          · rw [if_neg h4, brc_t rfl]
            refine wp_bnd1 (wp_mono (eX_step hw k2) ?_)
            rintro τ3 ⟨f3, k3'⟩
            have k3 : KX n tp (k + 3) τ3 := k3'
            have rr3 := rdX_tr rr2 (rdX_tk f3)
            refine eX_after (w := 4) (lo := 1) (hi := 99) hw k3 (by omega) (by omega) (by omega) ?_ (fun τ f e p => ?_) (fun τ f e p => ?_)
            · intro τ4 r4 k4' v4 a4 n4
              have k4 : KX n tp (k + 5) τ4 := k4'
              have v4' : τ4.1 7 6 = I (tV n tp (k + 4)) := v4
              have rr4 := rdX_tr rr3 r4
              show wp (nm (τ4.1 7 6) _) _
              rw [nmE, v4']
              have es : wyF n tp m np idn T k = afF n tp (k + 5) 5 0 9 := by unfold wyF; rw [if_pos h7, if_pos a, if_pos c, if_neg (by omega), if_pos a4]
              refine eX_after (w := 5) (lo := 0) (hi := 9) hw k4 (by omega) (by omega) (by omega) ?_ (fun τ f e p => ?_) (fun τ f e p => ?_)
              · intro τ6 r6 k6' v6 a6 n6
                have k6 : KX n tp (k + 7) τ6 := k6'
                have v6' : τ6.1 7 6 = I (tV n tp (k + 6)) := v6
                have rr6 := rdX_tr rr4 r6
                show wp (bnd1 (rX_tellWay (I (fS n tp m np idn (k + 1))) (I (fS n tp m np idn (k + 2))) (I (tV n tp (k + 4))) (τ6.1 7 6) τ6) _) _
                rw [v6']
                refine wp_bnd1 (wp_mono (eX_tellWay (by omega) (by omega) (rdX_XDr rr6 hT)) ?_)
                rintro υ ⟨y1, y2, y3⟩
                rw [chk_t (by decide)]
                refine wp_some ⟨?_, by rw [y2 19 (by decide) (by decide) (by decide)]; exact rr6.1 19 (by decide) (by decide), by rw [y3]; exact rr6.2.2.2.1, Or.inl ⟨by rw [es]; exact a6, rfl, ?_, y1⟩⟩
                · refine drX_tr (drX_rd rr6) ⟨fun i x y => y2 i (by omega) (by omega) (by omega), fun j _ _ _ => by rw [y2 5 (by decide) (by decide) (by decide)], fun j _ _ => by rw [y2 7 (by decide) (by decide) (by decide)], fun i _ _ _ => by rw [y3], fun i _ => by rw [y3], by rw [y3]⟩
                · obtain ⟨⟨z1, z2⟩, z3, z4, z5, z6, z7, z8⟩ := k6
                  have q5 := y2 5 (by decide) (by decide) (by decide)
                  have q6 := y2 6 (by decide) (by decide) (by decide)
                  exact ⟨⟨by rw [q5]; exact z1, fun i hi => by rw [q6]; exact z2 i hi⟩, z3, by rw [q5]; exact z4, by rw [q5]; exact z5, by rw [y3]; exact z6, fun x y => by rw [y3]; exact z7 x y, fun x y z => by rw [q5]; exact z8 x y z⟩
              · unfold rX_readWay_163
                exact fail τ (rdX_tr rr4 f) (by rw [es]; exact e) (by omega)
              · unfold rX_readWay_163
                exact fail τ (rdX_tr rr4 f) (by rw [es]; exact e) (by omega)
            · have es : wyF n tp m np idn T k = afF n tp (k + 3) 4 1 99 := by unfold wyF; rw [if_pos h7, if_pos a, if_pos c, if_neg (by omega), if_neg (by omega)]
              unfold rX_readWay_136
              exact fail τ (rdX_tr rr3 f) (by rw [es]; exact e) (by omega)
            · have es : wyF n tp m np idn T k = afF n tp (k + 3) 4 1 99 := by unfold wyF; rw [if_pos h7, if_pos a, if_pos c, if_neg (by omega), if_neg (by omega)]
              unfold rX_readWay_136
              exact fail τ (rdX_tr rr3 f) (by rw [es]; exact e) (by omega)
      · have es : wyF n tp m np idn T k = tdF n tp m np idn (k + 2) 0 7 + 16 * ps n tp (k + 2) := by unfold wyF; rw [if_pos h7, if_pos a, if_neg (by omega)]
        show wp (brc (¬ (0 : Int32) = 0) _ _) _
        rw [brc_f (by decide)]
        exact fail _ (rdX_7 rr2 _ (by omega)) (by rw [es]; exact gI_same _ _ _ _) (by omega)
    · have b' : r = 0 := b
      subst b'
      have es : wyF n tp m np idn T k = tdF n tp m np idn (k + 1) 0 7 + 16 * ps n tp (k + 1) := by unfold wyF; rw [if_pos h7, if_neg (by omega)]
      show wp (brc (¬ (0 : Int32) = 0) _ _) _
      rw [brc_f (by decide)]
      exact fail τ2 (rdX_tr r1 f2) (by rw [es]; exact v2) (by omega)
  · rw [litN, I_lt (by omega) (by omega)] at h7
    have es : wyF n tp m np idn T k = 5 + 16 * ps n tp k := by unfold wyF; rw [if_neg h7]
    rw [litN, eX_wrong h, bnd2S]
    exact fail _ (rdX_7 rdX_refl _ (by omega)) (by rw [es]; exact gI_same _ _ _ _) (by omega)
