/-! the class reads a debt -/
def XO (O : Nat → Nat) (σ : St) : Prop := ∀ q, q < 36 → σ.1 19 q = I (O q)
abbrev fC (n : Nat) (tp : Nat → Nat) (m : Nat) (np idn : Nat → Nat) (k : Nat) : Nat := fdI n tp np idn (ps n tp k) m - 7
def owF (n : Nat) (tp : Nat → Nat) (m : Nat) (np idn O : Nat → Nat) (k : Nat) : Nat := if tdF n tp m np idn (k + 1) 7 6 = 0 then (if tdF n tp m np idn (k + 2) 7 6 = 0 then (if fC n tp m np idn (k + 1) = fC n tp m np idn (k + 2) ∨ 0 < O (6 * fC n tp m np idn (k + 1) + fC n tp m np idn (k + 2)) then 3 + 16 * ps n tp (k + 2) else (if nF n tp (k + 3) 1 99 = 0 then 0 else nF n tp (k + 3) 1 99 + 16 * ps n tp (k + 3))) else tdF n tp m np idn (k + 2) 7 6 + 16 * ps n tp (k + 2)) else tdF n tp m np idn (k + 1) 7 6 + 16 * ps n tp (k + 1)
theorem eX_readOwes {n : Nat} {tp : Nat → Nat} (hw : wfP n tp) {k S C m : Nat} {np idn O : Nat → Nat} {σ : St} (h : KX n tp k σ) (hN : Nm n tp S C m np idn) (hX : XNm n tp m np idn σ) (h2 : σ.1 10 2 = I C) (hO : XO O σ) (hO9 : ∀ q, q < 36 → O q ≤ 99) : wp (rX_readOwes σ) (fun r => drX σ r.2 ∧ (∀ i, i ≠ 5 → i ≠ 7 → i ≠ 19 → r.2.1 i = σ.1 i) ∧ (∀ i, i ≠ 5 → r.2.2.1 i = σ.2.1 i) ∧ ((owF n tp m np idn O k = 0 ∧ r.1 = 1 ∧ KX n tp (k + 4) r.2 ∧ XO (updN O (6 * fC n tp m np idn (k + 1) + fC n tp m np idn (k + 2)) (tV n tp (k + 3))) r.2) ∨ (0 < owF n tp m np idn O k ∧ r.1 = 0 ∧ r.2.1 7 4 = I (owF n tp m np idn O k)))) := by
  unfold rX_readOwes
  refine wp_bnd1 (wp_mono (eX_step hw h) ?_)
  rintro τ1 ⟨f1, k1⟩
  have r1 := rdX_tk f1
  have x1 := rdX_XNm r1 hX
  rw [show τ1.1 10 2 = I C by rw [r1.1 10 (by decide) (by decide)]; exact h2]
  have fail : ∀ τ : St, rdX σ τ → τ.1 7 4 = I (owF n tp m np idn O k) → 0 < owF n tp m np idn O k → wp (chk (decide ((0 : Int32) = 0 ∨ (0 : Int32) = 1)) (some ((0 : Int32), τ))) (fun r => drX σ r.2 ∧ (∀ i, i ≠ 5 → i ≠ 7 → i ≠ 19 → r.2.1 i = σ.1 i) ∧ (∀ i, i ≠ 5 → r.2.2.1 i = σ.2.1 i) ∧ ((owF n tp m np idn O k = 0 ∧ r.1 = 1 ∧ KX n tp (k + 4) r.2 ∧ XO (updN O (6 * fC n tp m np idn (k + 1) + fC n tp m np idn (k + 2)) (tV n tp (k + 3))) r.2) ∨ (0 < owF n tp m np idn O k ∧ r.1 = 0 ∧ r.2.1 7 4 = I (owF n tp m np idn O k)))) := fun τ d e p => by
    rw [chk_t (by decide)]
    exact wp_some ⟨drX_rd d, fun i a b _ => d.1 i a b, d.2.2.2.1, Or.inr ⟨p, rfl, e⟩⟩
  refine wp_bnd2 (wp_mono (eX_takeToldC hw k1 hN x1) ?_)
  rintro ⟨r, τ2⟩ ⟨f2, ⟨a, b, k2', v2⟩ | ⟨a, a', b, v2⟩⟩
  · have b' : r = 1 := b
    subst b'
    have k2 : KX n tp (k + 2) τ2 := k2'
    have v2' : τ2.1 7 6 = I (fC n tp m np idn (k + 1)) := v2
    have rr2 := rdX_tr r1 f2
    have x2 := rdX_XNm rr2 hX
    show wp (brc (¬ (1 : Int32) = 0) (nm (τ2.1 7 6) _) _) _
    rw [brc_t (by decide), nmE, v2', show τ2.1 10 2 = I C by rw [rr2.1 10 (by decide) (by decide)]; exact h2]
    refine wp_bnd2 (wp_mono (eX_toldC hw k2 hN x2) ?_)
    rintro r (⟨c, c', rfl⟩ | ⟨c, c', rfl⟩)
    · show wp (brc (¬ (1 : Int32) = 0) (bnd2 (rX_placeOfC (τ2.1 10 2) τ2) _) _) _
      rw [brc_t (by decide), show τ2.1 10 2 = I C by rw [rr2.1 10 (by decide) (by decide)]; exact h2]
      refine wp_bnd2 (wp_mono (eX_placeC hw k2 hN x2 c) ?_)
      rintro r rfl
      obtain ⟨-, t1, t2⟩ := tdF_0 a
      obtain ⟨-, t3, t4⟩ := tdF_0 c
      have ha : fC n tp m np idn (k + 1) < 6 := by show fdI n tp np idn (ps n tp (k + 1)) m - 7 < 6; omega
      have hb : fC n tp m np idn (k + 2) < 6 := by show fdI n tp np idn (ps n tp (k + 2)) m - 7 < 6; omega
      have e6 : I (fC n tp m np idn (k + 1)) * (6 : Int32) + I (fC n tp m np idn (k + 2)) = I (6 * fC n tp m np idn (k + 1) + fC n tp m np idn (k + 2)) := by
        have e : I (fC n tp m np idn (k + 1)) * (6 : Int32) = I (fC n tp m np idn (k + 1) * 6) := by rw [litN, I_mul]
        rw [e, I_add, Nat.mul_comm]
      rw [nmE, nmE]
      show wp (brc (I (fC n tp m np idn (k + 1)) = I (fC n tp m np idn (k + 2))) (rX_readOwes_92 τ2) (chk (ib (I (fC n tp m np idn (k + 1)) * (6 : Int32) + I (fC n tp m np idn (k + 2))) 36) _)) _
      have bad : (fC n tp m np idn (k + 1) = fC n tp m np idn (k + 2) ∨ 0 < O (6 * fC n tp m np idn (k + 1) + fC n tp m np idn (k + 2))) → wp (rX_readOwes_92 τ2) (fun r => drX σ r.2 ∧ (∀ i, i ≠ 5 → i ≠ 7 → i ≠ 19 → r.2.1 i = σ.1 i) ∧ (∀ i, i ≠ 5 → r.2.2.1 i = σ.2.1 i) ∧ ((owF n tp m np idn O k = 0 ∧ r.1 = 1 ∧ KX n tp (k + 4) r.2 ∧ XO (updN O (6 * fC n tp m np idn (k + 1) + fC n tp m np idn (k + 2)) (tV n tp (k + 3))) r.2) ∨ (0 < owF n tp m np idn O k ∧ r.1 = 0 ∧ r.2.1 7 4 = I (owF n tp m np idn O k)))) := fun hor => by
        have es : owF n tp m np idn O k = 3 + 16 * ps n tp (k + 2) := by unfold owF; rw [if_pos a, if_pos c, if_pos hor]
        unfold rX_readOwes_92
        rw [litN, eX_wrong k2, bnd2S]
        exact fail _ (rdX_7 rr2 _ (by omega)) (by rw [es]; exact gI_same _ _ _ _) (by omega)
      refine wp_brc (fun h3 => ?_) (fun h3 => ?_)
      · rw [I_inj (by omega) (by omega)] at h3
        exact bad (Or.inl h3)
      · rw [I_inj (by omega) (by omega)] at h3
        rw [e6, chk_t (ib_I (by omega) (by omega)), I_cl (by omega), show τ2.1 19 (6 * fC n tp m np idn (k + 1) + fC n tp m np idn (k + 2)) = I (O (6 * fC n tp m np idn (k + 1) + fC n tp m np idn (k + 2))) by rw [rr2.1 19 (by decide) (by decide)]; exact hO _ (by omega)]
        have h99 := hO9 (6 * fC n tp m np idn (k + 1) + fC n tp m np idn (k + 2)) (by omega)
        refine wp_brc (fun h4 => ?_) (fun h4 => ?_)
        · rw [I0, I_le (by omega) (by omega)] at h4
          refine wp_bnd1 (wp_mono (eX_step hw k2) ?_)
          rintro τ3 ⟨f3, k3'⟩
          have k3 : KX n tp (k + 3) τ3 := k3'
          have rr3 := rdX_tr rr2 (rdX_tk f3)
          refine wp_bnd2 (wp_mono (eX_takeNumber (lo := 1) (hi := 99) hw k3 (by omega) (by omega)) ?_)
          rintro ⟨r, τ4⟩ ⟨f4, ⟨a4, b4, c4, d4⟩ | ⟨a4, a4', b4, d4⟩⟩
          · have b' : r = 1 := b4
            subst b'
            have d4' : τ4.1 7 6 = I (tV n tp (k + 3)) := d4
            have rr4 := rdX_tr rr3 f4
            show wp (brc (¬ (1 : Int32) = 0) (chk _ (nm (setI τ4 19 _ (τ4.1 7 6)) _)) _) _
            rw [brc_t (by decide), chk_t (ib_I (by omega) (by omega)), nmE, chk_t (by decide), d4']
            refine wp_some ⟨drX_I (drX_rd rr4) _ (by omega) (by omega), fun i x y z => (gI_ne1 _ _ _ z).trans (rr4.1 i x y), rr4.2.2.2.1, Or.inl ⟨?_, rfl, KX_7 c4 _ (by decide) (by decide), fun q hq => ?_⟩⟩
            · unfold owF; rw [if_pos a, if_pos c, if_neg (by omega), if_pos a4]
            · by_cases e : q = 6 * fC n tp m np idn (k + 1) + fC n tp m np idn (k + 2)
              · rw [e, updN_s, gI_same]
              · rw [updN_n _ _ e, gI_ne2 _ _ _ e, rr4.1 19 (by decide) (by decide)]; exact hO q hq
          · have b' : r = 0 := b4
            subst b'
            have es : owF n tp m np idn O k = nF n tp (k + 3) 1 99 + 16 * ps n tp (k + 3) := by unfold owF; rw [if_pos a, if_pos c, if_neg (by omega), if_neg (by omega)]
            show wp (brc (¬ (0 : Int32) = 0) _ _) _
            rw [brc_f (by decide)]
            exact fail τ4 (rdX_tr rr3 f4) (by rw [es]; exact d4) (by omega)
        · rw [I0, I_le (by omega) (by omega)] at h4
          exact bad (Or.inr (by omega))
    · have es : owF n tp m np idn O k = tdF n tp m np idn (k + 2) 7 6 + 16 * ps n tp (k + 2) := by unfold owF; rw [if_pos a, if_neg (by omega)]
      show wp (brc (¬ (0 : Int32) = 0) _ _) _
      rw [brc_f (by decide)]
      exact fail _ (rdX_7 rr2 _ (by omega)) (by rw [es]; exact gI_same _ _ _ _) (by omega)
  · have b' : r = 0 := b
    subst b'
    have es : owF n tp m np idn O k = tdF n tp m np idn (k + 1) 7 6 + 16 * ps n tp (k + 1) := by unfold owF; rw [if_neg (by omega)]
    show wp (brc (¬ (0 : Int32) = 0) _ _) _
    rw [brc_f (by decide)]
    exact fail τ2 (rdX_tr r1 f2) (by rw [es]; exact v2) (by omega)
