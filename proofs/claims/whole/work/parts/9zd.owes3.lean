/-! the reference reads a debt -/
def MO (O : Nat → Nat) (σ : St) : Prop := ∀ q, q < 36 → σ.1 7 q = I (O q)
abbrev owM (σ τ : St) : Prop := frO [7] 0 [7, 8] σ τ
theorem owM_rd {σ τ : St} (h : rdM σ τ) : owM σ τ := frO_mono (fun i h => by simp at h) (fun i h => h) h
theorem eM_readOwe {n : Nat} {tp : Nat → Nat} (hw : wfP n tp) {N k S C m : Nat} {np idn O : Nat → Nat} {σ : St} (h : RM n tp N k 0 σ) (hW : ¬ tW n tp k = 40) (hN : Nm n tp S C m np idn) (hM : MNm n tp m np idn σ) (hO : MO O σ) (hO9 : ∀ q, q < 36 → O q ≤ 99) : wp (rM_readOwe σ) (fun τ => owM σ τ ∧ ((owF n tp m np idn O k = 0 ∧ RM n tp N (k + 4) 0 τ ∧ MO (updN O (6 * fC n tp m np idn (k + 1) + fC n tp m np idn (k + 2)) (tV n tp (k + 3))) τ) ∨ (0 < owF n tp m np idn O k ∧ owF n tp m np idn O k < 20000 ∧ ∃ k', RM n tp N k' (owF n tp m np idn O k) τ))) := by
  have hn := hw.1
  have h1 := RM_k h (wd_in h hW)
  have f1 : rdM σ (setI σ 0 7 (I (k + 1))) := frO_f frO_refl _ (by decide)
  unfold rM_readOwe
  rw [nmE, h.2.2.1, I1, I_add]
  generalize setI σ 0 7 (I (k + 1)) = τ1 at h1 f1 ⊢
  have m1 := MNm_rd f1 hM
  have p1 := (RM_tok h1).2.2.1
  refine wp_bnd2 (wp_mono (eM_nameHere (b := 7) (l := 6) hw h1 hN m1 (Or.inr ⟨rfl, rfl⟩) (-1)) ?_)
  rintro ⟨r, τ2⟩ ⟨f2, ⟨a, b, ⟨c, d⟩ | ⟨c, d⟩⟩ | ⟨a, a', d⟩⟩
  · have b' : r = I (fC n tp m np idn (k + 1)) := b
    have d' : τ2 = τ1 := d
    subst b' d'
    obtain ⟨t0, t1, t2⟩ := tdF_0 a
    have ha : fC n tp m np idn (k + 1) < 6 := by show fdI n tp np idn (ps n tp (k + 1)) m - 7 < 6; omega
    have t9 := of_decide_eq_true t0
    show wp (nm (I (fC n tp m np idn (k + 1))) fun v1_5 => brc (τ2.1 0 8 ≤ 0) (rM_readOwe_37 v1_5 1 (τ2.1 0 7) τ2) (rM_readOwe_37 v1_5 0 (τ2.1 0 7) τ2)) _
    rw [nmE, brc_t (F_0 h1).2]
    have h3 := RM_k h1 (wd_in h1 (by omega))
    have f3 : rdM τ2 (setI τ2 0 7 (I (k + 1 + 1))) := frO_f frO_refl _ (by decide)
    unfold rM_readOwe_37
    rw [nmE, h1.2.2.1, I1, I_add]
    generalize setI τ2 0 7 (I (k + 1 + 1)) = τ3 at h3 f3 ⊢
    have h3' : RM n tp N (k + 2) 0 τ3 := h3
    have m3 := MNm_rd f3 m1
    have p3 := (RM_tok h3').2.2.1
    have g3 := frO_tr f1 f3
    rw [brc_t (F_0 h3).2]
    refine wp_bnd2 (wp_mono (eM_nameHere (b := 7) (l := 6) hw h3' hN m3 (Or.inr ⟨rfl, rfl⟩) (I (fC n tp m np idn (k + 1)))) ?_)
    have flt : ∀ (τ : St) (v : Int32) (F : Nat), rdM σ τ → owF n tp m np idn O k = F → 0 < F → F < 20000 → RM n tp N (k + 2) F τ → wp (rM_readOwe_61 (I (fC n tp m np idn (k + 1))) v τ) (fun τ => owM σ τ ∧ ((owF n tp m np idn O k = 0 ∧ RM n tp N (k + 4) 0 τ ∧ MO (updN O (6 * fC n tp m np idn (k + 1) + fC n tp m np idn (k + 2)) (tV n tp (k + 3))) τ) ∨ (0 < owF n tp m np idn O k ∧ owF n tp m np idn O k < 20000 ∧ ∃ k', RM n tp N k' (owF n tp m np idn O k) τ))) := fun τ v F f e x y z => by
      refine wp_mono (eM_ow61F z (by omega) _ v) ?_
      rintro υ ⟨p, q⟩
      exact ⟨owM_rd (frO_tr f p), Or.inr ⟨by omega, by omega, k + 2, by rw [e]; exact q⟩⟩
    rintro ⟨r, τ4⟩ ⟨f4, ⟨a4, b4, ⟨c4, d4⟩ | ⟨c4, d4⟩⟩ | ⟨a4, a4', d4⟩⟩
    · have b' : r = I (fC n tp m np idn (k + 2)) := b4
      have d' : τ4 = τ3 := d4
      subst b' d'
      obtain ⟨u0, u1, u2⟩ := tdF_0 a4
      have hb : fC n tp m np idn (k + 2) < 6 := by show fdI n tp np idn (ps n tp (k + 2)) m - 7 < 6; omega
      have u9 := of_decide_eq_true u0
      have hne : ¬ fC n tp m np idn (k + 1) = fC n tp m np idn (k + 2) := fun h9 => c4 (by show I (fC n tp m np idn (k + 2)) = _; rw [h9])
      have e6 : (6 : Int32) * I (fC n tp m np idn (k + 1)) + I (fC n tp m np idn (k + 2)) = I (6 * fC n tp m np idn (k + 1) + fC n tp m np idn (k + 2)) := by
        have e : (6 : Int32) * I (fC n tp m np idn (k + 1)) = I (6 * fC n tp m np idn (k + 1)) := by rw [litN, I_mul]
        rw [e, I_add]
      have h99 := hO9 (6 * fC n tp m np idn (k + 1) + fC n tp m np idn (k + 2)) (by omega)
      show wp (rM_readOwe_61 (I (fC n tp m np idn (k + 1))) (I (fC n tp m np idn (k + 2))) τ4) _
      unfold rM_readOwe_61
      rw [nmE, brc_f (fun h9 => h9 (F_0 h3').1), e6, chk_t (ib_I (by omega) (by omega)), I_cl (by omega), show τ4.1 7 (6 * fC n tp m np idn (k + 1) + fC n tp m np idn (k + 2)) = I (O (6 * fC n tp m np idn (k + 1) + fC n tp m np idn (k + 2))) by rw [g3.1 7 (by decide) (by decide)]; exact hO _ (by omega)]
      refine wp_brc (fun h4 => ?_) (fun h4 => ?_)
      · rw [I0, I_le (by omega) (by omega)] at h4
        unfold rM_readOwe_88
        rw [brc_t (F_0 h3').2]
        have h5 := RM_k h3' (wd_in h3' (by omega))
        have f5 : rdM τ4 (setI τ4 0 7 (I (k + 2 + 1))) := frO_f frO_refl _ (by decide)
        unfold rM_readOwe_105 rM_readOwe_136
        rw [nmE, h3'.2.2.1, I1, I_add]
        generalize setI τ4 0 7 (I (k + 2 + 1)) = τ5 at h5 f5 ⊢
        have h5' : RM n tp N (k + 3) 0 τ5 := h5
        have p5 := (RM_tok h5').2.2.1
        have g5 := frO_tr g3 f5
        refine wp_bnd2 (wp_mono (eM_takeNumber (lo := 1) (hi := 99) hw h5' (by omega) (by omega)) ?_)
        rintro ⟨r, τ6⟩ ⟨f6, ⟨a6, b6, c6⟩ | ⟨a6, a6', b6, c6⟩⟩
        · have b' : r = I (tV n tp (k + 3)) := b6
          subst b'
          have c6' : RM n tp N (k + 4) 0 τ6 := c6
          have g6 := frO_tr g5 f6
          show wp (nm (I (tV n tp (k + 3))) fun v3_15 => brc (¬ τ6.1 0 8 = 0) _ _) _
          rw [nmE, brc_f (fun h9 => h9 (F_0 c6').1), e6, chk_t (ib_I (by omega) (by omega)), nmE, I_cl (by omega)]
          refine wp_some ⟨frO_c (owM_rd g6) _ (by decide) (by decide), Or.inl ⟨?_, ?_, fun q hq => ?_⟩⟩
          · unfold owF; rw [if_pos a, if_pos a4, if_neg (by omega), if_pos a6]
          · exact RM_of c6' (gI_ne1 _ _ _ (by decide)) (gI_ne1 _ _ _ (by decide)) rfl rfl c6'.2.1 (by rw [gI_ne1 _ _ _ (by decide)]; exact c6'.2.2.1) (by rw [gI_ne1 _ _ _ (by decide)]; exact c6'.2.2.2.1)
          · by_cases e : q = 6 * fC n tp m np idn (k + 1) + fC n tp m np idn (k + 2)
            · rw [e, updN_s, gI_same]
            · rw [updN_n _ _ e, gI_ne2 _ _ _ e, g6.1 7 (by decide) (by decide)]; exact hO q hq
        · have es : owF n tp m np idn O k = nF n tp (k + 3) 1 99 + 16 * ps n tp (k + 3) := by unfold owF; rw [if_pos a, if_pos a4, if_neg (by omega), if_neg (by omega)]
          show wp (nm r fun v3_15 => brc (¬ τ6.1 0 8 = 0) _ _) _
          rw [nmE, brc_t (F_ne c6 (by omega)).1]
          exact wp_some ⟨owM_rd (frO_tr g5 f6), Or.inr ⟨by omega, by omega, k + 3, by rw [es]; exact c6⟩⟩
      · rw [I0, I_le (by omega) (by omega)] at h4
        have es : owF n tp m np idn O k = 3 + 16 * ps n tp (k + 2) := by unfold owF; rw [if_pos a, if_pos a4, if_pos (Or.inr (by omega))]
        rw [litN, eM_wrong h3', bnd1S]
        refine wp_mono (eM_ow88F (RM_F h3' (3 + 16 * ps n tp (k + 2))) (by omega) _ _) ?_
        rintro υ ⟨p, q⟩
        exact ⟨owM_rd (frO_tr g3 (frO_tr (frO_f frO_refl _ (by decide)) p)), Or.inr ⟨by omega, by omega, k + 2, by rw [es]; exact q⟩⟩
    · have b' : r = I (fC n tp m np idn (k + 2)) := b4
      have c' : r = I (fC n tp m np idn (k + 1)) := c4
      obtain ⟨u0, u1, u2⟩ := tdF_0 a4
      have hb : fC n tp m np idn (k + 2) < 6 := by show fdI n tp np idn (ps n tp (k + 2)) m - 7 < 6; omega
      have he : fC n tp m np idn (k + 1) = fC n tp m np idn (k + 2) := by
        rw [← I_inj (by omega) (by omega), ← b', ← c']
      exact flt τ4 r _ (frO_tr g3 f4) (by unfold owF; rw [if_pos a, if_pos a4, if_pos (Or.inl he)]) (by omega) (by omega) d4
    · exact flt τ4 r _ (frO_tr g3 f4) (by unfold owF; rw [if_pos a, if_neg (by omega)]) (by omega) (by omega) d4
  · have b' : r = I (fC n tp m np idn (k + 1)) := b
    have c' : r = -1 := c
    obtain ⟨t0, t1, t2⟩ := tdF_0 a
    rw [b'] at c'
    exact absurd c' (m1_ne (by show fdI n tp np idn (ps n tp (k + 1)) m - 7 < _; omega))
  · have es : owF n tp m np idn O k = tdF n tp m np idn (k + 1) 7 6 + 16 * ps n tp (k + 1) := by unfold owF; rw [if_neg (by omega)]
    show wp (nm r fun v1_5 => brc (τ2.1 0 8 ≤ 0) (rM_readOwe_37 v1_5 1 (τ2.1 0 7) τ2) (rM_readOwe_37 v1_5 0 (τ2.1 0 7) τ2)) _
    rw [nmE, brc_f (F_ne d (by omega)).2]
    refine wp_mono (eM_ow37F d (by omega) r) ?_
    rintro υ ⟨p, q⟩
    exact ⟨owM_rd (frO_tr f1 (frO_tr f2 p)), Or.inr ⟨by omega, by omega, k + 1, by rw [es]; exact q⟩⟩
