/-! the reference reads a station -/
theorem RM_6 {n : Nat} {tp : Nat → Nat} {N k F : Nat} {σ : St} (h : RM n tp N k F σ) (j : Nat) (v : Int32) : RM n tp N k F (setI σ 6 j v) :=
  RM_of h (gI_ne1 _ _ _ (by decide)) (gI_ne1 _ _ _ (by decide)) rfl rfl h.2.1 (by rw [gI_ne1 _ _ _ (by decide)]; exact h.2.2.1) (by rw [gI_ne1 _ _ _ (by decide)]; exact h.2.2.2.1)
theorem MNm_6 {n : Nat} {tp : Nat → Nat} {m : Nat} {np idn : Nat → Nat} {σ : St} (h : MNm n tp m np idn σ) (j : Nat) (v : Int32) : MNm n tp m np idn (setI σ 6 j v) :=
  ⟨by rw [gI_ne1 _ _ _ (by decide)]; exact h.1, fun q hq => by rw [gI_ne1 _ _ _ (by decide)]; exact h.2 q hq⟩
theorem MNm_rd {n : Nat} {tp : Nat → Nat} {m : Nat} {np idn : Nat → Nat} {σ τ : St} (f : rdM σ τ) (h : MNm n tp m np idn σ) : MNm n tp m np idn τ :=
  ⟨by rw [f.2.1 17 (by decide)]; exact h.1, fun q hq => by rw [f.1 11 (by decide) (by decide), f.2.2]; exact h.2 q hq⟩
theorem eM_stEnd {S : Nat} (hS : S < 7) {r10 : Int32} {σ : St} {Q : St → Prop} (hq : Q (setI (setI σ 6 (168 + 2 * S + 1) r10) 6 160 (σ.1 6 160 + 1))) : wp (chk (ib (((168 : Int32) + ((2 : Int32) * (I S))) + (1 : Int32)) 320) (nm (setI σ 6 (((168 : Int32) + ((2 : Int32) * (I S))) + (1 : Int32)).toNatClampNeg r10) fun σ_11 => chk (ib (160 : Int32) 320) (chk (ib (160 : Int32) 320) (nm (setI σ_11 6 (160 : Int32).toNatClampNeg ((σ_11.1 6 (160 : Int32).toNatClampNeg) + (1 : Int32))) fun σ_12 => some σ_12)))) Q := by
  have e : (168 : Int32) + (2 : Int32) * I S + 1 = I (168 + 2 * S + 1) := by
    have h : ∀ S, S < 7 → (168 : Int32) + (2 : Int32) * I S + 1 = I (168 + 2 * S + 1) := by decide +kernel
    exact h S hS
  have e160 : (160 : Int32).toNatClampNeg = 160 := by decide
  rw [e, chk_t (ib_I (by omega) (by omega)), nmE, I_cl (by omega), chk_t (by decide), chk_t (by decide), nmE, e160, gI_ne2 _ _ _ (show (160 : Nat) ≠ 168 + 2 * S + 1 by omega)]
  exact wp_some hq
theorem eM_readStation {n : Nat} {tp : Nat → Nat} (hw : wfP n tp) {N k m : Nat} {np idn : Nat → Nat} {T : Vw} {σ : St} (h : RM n tp N k 0 σ) (hW : ¬ tW n tp k = 40) (hN : Nm n tp (T 0 0) (T 0 2) m np idn) (hM : MNm n tp m np idn σ) (hT : MDr T σ) : wp (rM_readStation σ) (fun τ => drM σ τ ∧ ((stF n tp m np (T 0 0) k = 0 ∧ RM n tp N (k + 6) 0 τ ∧ MDr (stT T (tV n tp (k + 3)) (tV n tp (k + 5))) τ ∧ MNm n tp (m + 1) (updN np m (ps n tp (k + 1))) (updN idn m (T 0 0)) τ) ∨ (0 < stF n tp m np (T 0 0) k ∧ stF n tp m np (T 0 0) k < 20000 ∧ ∃ k', RM n tp N k' (stF n tp m np (T 0 0) k) τ))) := by
  have hS := hN.1
  have hC := hN.2.1
  have hm := hN.2.2.1
  have hn := hw.1
  have hp := (RM_tok h).2.2.1
  have h0 : σ.1 6 160 = I (T 0 0) := hT.1
  have e160 : (160 : Int32).toNatClampNeg = 160 := by decide
  unfold rM_readStation
  rw [chk_t (by decide), nmE, e160, h0]
  refine wp_brc (fun h7 => ?_) (fun h7 => ?_)
  · rw [litN, I_inj (by omega) (by omega)] at h7
    have hS7 : T 0 0 < 7 := by omega
    have e168 : (168 : Int32) + (2 : Int32) * I (T 0 0) = I (168 + 2 * T 0 0) := by
      have h : ∀ S, S < 7 → (168 : Int32) + (2 : Int32) * I S = I (168 + 2 * S) := by decide +kernel
      exact h _ hS7
    have w1 : wcl 1 = 1 := rfl
    have w2 : wcl 2 = 2 := rfl
    refine wp_bnd1 (wp_mono (eM_readName hw h hW hN hM (by omega) (show T 0 0 < 13 by omega)) ?_)
    rintro τ1 ⟨f1, ⟨a, b, r1, m1⟩ | ⟨a, b, r1, m1⟩⟩
    · refine wp_bnd2 (wp_mono (eM_after (w := 1) (lo := 0) (hi := 99) hw r1 (by omega) (by omega) (by omega)) ?_)
      rw [w1]
      rintro ⟨x, τ2⟩ ⟨f2, ⟨a2, b2, c2⟩ | ⟨a2, b2, c2, k2, d2⟩⟩
      · have b2' : x = I (tV n tp (k + 3)) := b2
        subst b2'
        show wp (chk (ib ((168 : Int32) + (2 : Int32) * I (T 0 0)) 320) (nm (setI τ2 6 ((168 : Int32) + (2 : Int32) * I (T 0 0)).toNatClampNeg (I (tV n tp (k + 3)))) _)) _
        have c2' : RM n tp N (k + 4) 0 τ2 := c2
        have r3 := RM_6 c2' (168 + 2 * T 0 0) (I (tV n tp (k + 3)))
        rw [chk_t (by rw [e168]; exact ib_I (by omega) (by omega)), nmE, show ((168 : Int32) + (2 : Int32) * I (T 0 0)).toNatClampNeg = 168 + 2 * T 0 0 by rw [e168, I_cl (by omega)]]
        refine wp_bnd2 (wp_mono (eM_after (w := 2) (lo := 0) (hi := 9) hw r3 (by omega) (by omega) (by omega)) ?_)
        rw [w2]
        rintro ⟨y, τ4⟩ ⟨f4, ⟨a4, b4, c4⟩ | ⟨a4, b4, c4, k4, d4⟩⟩
        · have b4' : y = I (tV n tp (k + 5)) := b4
          subst b4'
          have es : stF n tp m np (T 0 0) k = 0 := by unfold stF; rw [if_pos hS7, if_pos a, if_pos a2]; exact a4
          have c4' : RM n tp N (k + 6) 0 τ4 := c4
          have g : ∀ j, τ4.1 6 j = (setI τ2 6 (168 + 2 * T 0 0) (I (tV n tp (k + 3)))).1 6 j := fun j => by rw [f4.1 6 (by decide) (by decide)]
          have g2 : ∀ j, τ2.1 6 j = σ.1 6 j := fun j => by rw [f2.1 6 (by decide) (by decide), f1.1 6 (by decide) (by decide)]
          refine eM_stEnd hS7 ⟨drM_6 (drM_6 (drM_tr (drM_6 (drM_tr (drM_nm f1) (drM_rd f2)) _ (by omega)) (drM_rd f4)) _ (by omega)) _ (by omega), Or.inl ⟨es, RM_6 (RM_6 c4' _ _) _ _, ?_, MNm_6 (MNm_6 (MNm_rd f4 (MNm_6 (MNm_rd f2 m1) _ _)) _ _) _ _⟩⟩
          refine MDr_st hS7 hT ?_ ?_ ?_ (fun j h1 h2 h3 => ?_)
          · rw [gI_same, g, gI_ne2 _ _ _ (by omega), g2, h0, I1, I_add]
          · rw [gI_ne2 _ _ _ (by omega), gI_ne2 _ _ _ (by omega), g, gI_same]
          · rw [gI_ne2 _ _ _ (by omega), gI_same]
          · rw [gI_ne2 _ _ _ (by omega), gI_ne2 _ _ _ h3, g, gI_ne2 _ _ _ h2, g2]
        · have es : stF n tp m np (T 0 0) k = afF n tp (k + 4) 2 0 9 := by unfold stF; rw [if_pos hS7, if_pos a, if_pos a2]
          refine eM_stEnd hS7 ⟨drM_6 (drM_6 (drM_tr (drM_6 (drM_tr (drM_nm f1) (drM_rd f2)) _ (by omega)) (drM_rd f4)) _ (by omega)) _ (by omega), Or.inr ⟨by omega, by omega, k4, ?_⟩⟩
          rw [es]
          exact RM_6 (RM_6 d4 _ _) _ _
      · have es : stF n tp m np (T 0 0) k = afF n tp (k + 2) 1 0 99 := by unfold stF; rw [if_pos hS7, if_pos a, if_neg (by omega)]
        show wp (chk (ib ((168 : Int32) + (2 : Int32) * I (T 0 0)) 320) (nm (setI τ2 6 ((168 : Int32) + (2 : Int32) * I (T 0 0)).toNatClampNeg x) _)) _
        rw [chk_t (by rw [e168]; exact ib_I (by omega) (by omega)), nmE, show ((168 : Int32) + (2 : Int32) * I (T 0 0)).toNatClampNeg = 168 + 2 * T 0 0 by rw [e168, I_cl (by omega)]]
        refine wp_bnd2 (wp_mono (eM_afterF (RM_6 d2 (168 + 2 * T 0 0) x) (by omega) _ _ _) ?_)
        rintro ⟨y, τ4⟩ ⟨f4, b4, c4⟩
        refine eM_stEnd hS7 ⟨drM_6 (drM_6 (drM_tr (drM_6 (drM_tr (drM_nm f1) (drM_rd f2)) _ (by omega)) (drM_rd f4)) _ (by omega)) _ (by omega), Or.inr ⟨by omega, by omega, k2, ?_⟩⟩
        rw [es]
        exact RM_6 (RM_6 c4 _ _) _ _
    · have hp1 := (RM_tok r1).2.2.1
      have es : stF n tp m np (T 0 0) k = nnF n tp m np (k + 1) + 16 * ps n tp (k + 1) := by unfold stF; rw [if_pos hS7, if_neg (by omega)]
      refine wp_bnd2 (wp_mono (eM_afterF r1 (by omega) _ _ _) ?_)
      rintro ⟨x, τ2⟩ ⟨f2, b2, c2⟩
      show wp (chk (ib ((168 : Int32) + (2 : Int32) * I (T 0 0)) 320) (nm (setI τ2 6 ((168 : Int32) + (2 : Int32) * I (T 0 0)).toNatClampNeg x) _)) _
      rw [chk_t (by rw [e168]; exact ib_I (by omega) (by omega)), nmE, show ((168 : Int32) + (2 : Int32) * I (T 0 0)).toNatClampNeg = 168 + 2 * T 0 0 by rw [e168, I_cl (by omega)]]
      refine wp_bnd2 (wp_mono (eM_afterF (RM_6 c2 (168 + 2 * T 0 0) x) (by omega) _ _ _) ?_)
      rintro ⟨y, τ4⟩ ⟨f4, b4, c4⟩
      refine eM_stEnd hS7 ⟨drM_6 (drM_6 (drM_tr (drM_6 (drM_tr (drM_nm f1) (drM_rd f2)) _ (by omega)) (drM_rd f4)) _ (by omega)) _ (by omega), Or.inr ⟨by omega, by omega, k + 1, ?_⟩⟩
      rw [es]
      exact RM_6 (RM_6 c4 _ _) _ _
  · have h8 : T 0 0 = 7 := by
      have h9 := Classical.not_not.mp h7
      rw [litN, I_inj (by omega) (by omega)] at h9
      exact h9
    have es : stF n tp m np (T 0 0) k = 5 + 16 * ps n tp k := by unfold stF; rw [if_neg (by omega)]
    rw [litN, eM_wrong h, bnd1S]
    refine wp_some ⟨drM_rd (frO_f frO_refl _ (by decide)), Or.inr ⟨by omega, by omega, k, ?_⟩⟩
    rw [es]
    exact RM_F h _
