/-! fog, spring, noon in the reference -/
def onF (n : Nat) (tp : Nat → Nat) (o k : Nat) : Nat := if 13 ≤ tW n tp k ∧ tW n tp k ≤ 15 then seF n tp o (tW n tp k - 13) k else 1 + 16 * ps n tp k
def seM (σ τ : St) : Prop := (∀ i, i ≠ 0 → i ≠ 6 → τ.1 i = σ.1 i) ∧ (∀ j, (j < 160 ∨ j = 166 ∨ j = 167) → τ.1 6 j = σ.1 6 j) ∧ (∀ j, j ≠ 7 → j ≠ 8 → j ≠ 18 → τ.1 0 j = σ.1 0 j) ∧ τ.2 = σ.2
theorem seM_rd {σ τ : St} (h : rdM σ τ) : seM σ τ := ⟨fun i a _ => h.1 i (by simp) a, fun j _ => by rw [h.1 6 (by decide) (by decide)], fun j a b _ => h.2.1 j (by simp; omega), h.2.2⟩
theorem seM_tr {σ τ υ : St} (h1 : seM σ τ) (h2 : seM τ υ) : seM σ υ :=
  ⟨fun i a b => (h2.1 i a b).trans (h1.1 i a b), fun j a => (h2.2.1 j a).trans (h1.2.1 j a), fun j a b c => (h2.2.2.1 j a b c).trans (h1.2.2.1 j a b c), h2.2.2.2.trans h1.2.2.2⟩
def onV (W v : Nat) : Int32 := if 13 ≤ W ∧ W < 13 + v then I (W - 13) else -1
abbrev MonQ (n : Nat) (tp : Nat → Nat) (T : Vw) (N o k : Nat) (σ τ : St) : Prop := seM σ τ ∧ ((onF n tp o k = 0 ∧ RM n tp N (k + 2) 0 τ ∧ τ.1 0 18 = I ((o ||| 2 ^ (tW n tp k - 13 + 2)) / 4) ∧ MDr (seT T (tW n tp k - 13) (tV n tp (k + 1))) τ) ∨ (0 < onF n tp o k ∧ onF n tp o k < 20000 ∧ ∃ k', RM n tp N k' (onF n tp o k) τ))
theorem eM_on134 {n : Nat} {tp : Nat → Nat} (hw : wfP n tp) {N k o e : Nat} {T : Vw} {σ σ0 : St} (he : e < 3) (hW : tW n tp k = 13 + e) (h : RM n tp N (k + 1) 0 σ) (f0 : seM σ0 σ) (h18 : σ.1 0 18 = I ((o ||| 2 ^ (e + 2)) / 4)) (hT : MDr T σ) (h0 : o / 2 ^ (e + 2) % 2 = 0) : wp (rM_readOnce_134 (I (seHi e)) (I (seLo e)) ((163 : Int32) + I e) σ) (MonQ n tp T N o k σ0) := by
  have hn := hw.1
  have hp := (RM_tok h).2.2.1
  have e3 : (163 : Int32) + I e = I (163 + e) := by rw [litN, I_add]
  have eo : onF n tp o k = seF n tp o e k := by unfold onF; rw [if_pos (by omega), hW, Nat.add_sub_cancel_left]
  have ee : tW n tp k - 13 = e := by omega
  unfold rM_readOnce_134
  rw [e3]
  refine wp_bnd2 (wp_mono (eM_takeNumber hw h (by unfold seLo; split <;> omega) (by unfold seHi; split <;> (try split) <;> omega)) ?_)
  rintro ⟨r, τ⟩ ⟨f, ⟨a, b, c⟩ | ⟨a, a', b, d⟩⟩
  · have b' : r = I (tV n tp (k + 1)) := b
    subst b'
    have es : seF n tp o e k = 0 := by unfold seF; rw [if_pos h0, if_pos a]
    show wp (chk (ib (I (163 + e)) 320) (nm (setI τ 6 (I (163 + e)).toNatClampNeg (I (tV n tp (k + 1)))) fun σ_8 => some σ_8)) _
    rw [chk_t (ib_I (by omega) (by omega)), nmE, I_cl (by omega)]
    refine wp_some ⟨seM_tr (seM_tr f0 (seM_rd f)) ⟨fun i x y => gI_ne1 _ _ _ y, fun j hj => gI_ne2 _ _ _ (by omega), fun j _ _ _ => by rw [gI_ne1 _ _ _ (by decide)], rfl⟩, Or.inl ⟨by rw [eo]; exact es, RM_6 c _ _, ?_, ?_⟩⟩
    · rw [ee, gI_ne1 _ _ _ (by decide), f.2.1 18 (by decide)]; exact h18
    · rw [ee]
      exact MDr_se he hT (gI_same _ _ _ _) (fun j hj => by rw [gI_ne2 _ _ _ hj, f.1 6 (by decide) (by decide)])
  · have es : seF n tp o e k = nF n tp (k + 1) (seLo e) (seHi e) + 16 * ps n tp (k + 1) := by unfold seF; rw [if_pos h0, if_neg (by omega)]
    show wp (chk (ib (I (163 + e)) 320) (nm (setI τ 6 (I (163 + e)).toNatClampNeg r) fun σ_8 => some σ_8)) _
    rw [chk_t (ib_I (by omega) (by omega)), nmE, I_cl (by omega)]
    exact wp_some ⟨seM_tr (seM_tr f0 (seM_rd f)) ⟨fun i x y => gI_ne1 _ _ _ y, fun j hj => gI_ne2 _ _ _ (by omega), fun j _ _ _ => by rw [gI_ne1 _ _ _ (by decide)], rfl⟩, Or.inr ⟨by omega, by omega, k + 1, by rw [eo, es]; exact RM_6 d _ _⟩⟩
theorem eM_on61 {n : Nat} {tp : Nat → Nat} (hw : wfP n tp) {N k o e : Nat} {T : Vw} {σ : St} (he : e < 3) (hW : tW n tp k = 13 + e) (h : RM n tp N k 0 σ) (ho : o < 32) (h18 : σ.1 0 18 = I (o / 4)) (hT : MDr T σ) (h0 : o / 2 ^ (e + 2) % 2 = 0) : wp (rM_readOnce_61 (I e) σ) (MonQ n tp T N o k σ) := by
  unfold rM_readOnce_61
  rw [brc_t (F_0 h).2, nmE, nmE, h18, (ob_M ho he).2, gI_ne2 _ _ _ (show (7 : Nat) ≠ 18 by decide), h.2.2.1, I1, I_add]
  have r1 : RM n tp N (k + 1) 0 (setI (setI σ 0 18 (I ((o ||| 2 ^ (e + 2)) / 4))) 0 7 (I (k + 1))) := by
    refine RM_of h ?_ ?_ rfl rfl (wd_in h (by omega)) (gI_same _ _ _ _) ?_
    · rw [gI_ne1 _ _ _ (by decide), gI_ne1 _ _ _ (by decide)]
    · rw [gI_ne1 _ _ _ (by decide), gI_ne1 _ _ _ (by decide)]
    · rw [gI_ne2 _ _ _ (by decide), gI_ne2 _ _ _ (by decide)]; exact h.2.2.2.1
  have f1 : seM σ (setI (setI σ 0 18 (I ((o ||| 2 ^ (e + 2)) / 4))) 0 7 (I (k + 1))) := ⟨fun i a b => by rw [gI_ne1 _ _ _ a, gI_ne1 _ _ _ a], fun j _ => by rw [gI_ne1 _ _ _ (by decide), gI_ne1 _ _ _ (by decide)], fun j a b c => by rw [gI_ne2 _ _ _ a, gI_ne2 _ _ _ c], rfl⟩
  have g18 : (setI (setI σ 0 18 (I ((o ||| 2 ^ (e + 2)) / 4))) 0 7 (I (k + 1))).1 0 18 = I ((o ||| 2 ^ (e + 2)) / 4) := by rw [gI_ne2 _ _ _ (by decide), gI_same]
  have hT1 : MDr T (setI (setI σ 0 18 (I ((o ||| 2 ^ (e + 2)) / 4))) 0 7 (I (k + 1))) := MDr_fr (by rw [gI_ne1 _ _ _ (by decide), gI_ne1 _ _ _ (by decide)]) hT
  generalize setI (setI σ 0 18 (I ((o ||| 2 ^ (e + 2)) / 4))) 0 7 (I (k + 1)) = τ at r1 f1 g18 hT1 ⊢
  have go : wp (rM_readOnce_111 (I e) (I (seLo e)) ((163 : Int32) + I e) τ) (MonQ n tp T N o k σ) := by
    unfold rM_readOnce_111
    refine wp_brc (fun c1 => ?_) (fun c1 => ?_)
    · rw [I0, I_inj (by omega) (by omega)] at c1
      refine wp_brc (fun c2 => ?_) (fun c2 => ?_)
      · rw [I1, I_inj (by omega) (by omega)] at c2
        have := eM_on134 hw he hW r1 f1 g18 hT1 h0
        rw [show seHi e = 999 by unfold seHi; rw [if_neg (by omega), if_neg (by omega)]] at this
        exact this
      · rw [I1, I_inj (by omega) (by omega)] at c2
        have := eM_on134 hw he hW r1 f1 g18 hT1 h0
        rw [show seHi e = 200 by unfold seHi; rw [if_neg (by omega), if_pos (by omega)]] at this
        exact this
    · rw [I0, I_inj (by omega) (by omega)] at c1
      have := eM_on134 hw he hW r1 f1 g18 hT1 h0
      rw [show seHi e = 99 by unfold seHi; rw [if_pos (by omega)]] at this
      exact this
  refine wp_brc (fun c1 => ?_) (fun c1 => ?_)
  · rw [litN, I_inj (by omega) (by omega)] at c1
    rw [show seLo e = 0 by unfold seLo; rw [if_neg (by omega)]] at go
    exact go
  · rw [litN, I_inj (by omega) (by omega)] at c1
    rw [show seLo e = 1 by unfold seLo; rw [if_pos (by omega)]] at go
    exact go
theorem eM_readOnce {n : Nat} {tp : Nat → Nat} (hw : wfP n tp) {N k o : Nat} {T : Vw} {σ : St} (h : RM n tp N k 0 σ) (ho : o < 32) (h18 : σ.1 0 18 = I (o / 4)) (hT : MDr T σ) : wp (rM_readOnce σ) (MonQ n tp T N o k σ) := by
  have hn := hw.1
  have hp := (RM_tok h).2.2.1
  unfold rM_readOnce
  rw [nmE, nmE]
  refine wp_for (fun m a => ∃ v, v + m = 3 ∧ a = (onV (tW n tp k) v, I v, σ)) ?_ ?_ 3 fu _ ⟨0, rfl, ?_⟩ (by unfold fu; omega)
  · rintro m a kk ⟨v, hv, rfl⟩ hgo
    show wp (rM_readOnce_4 (fun v1 v2 σ => kk (v1, v2, σ)) (onV (tW n tp k) v) (I v) σ) _
    unfold rM_readOnce_4 rM_readOnce_25
    have e13 : (13 : Int32) + I v = I (13 + v) := by rw [litN, I_add]
    have ew : wcl (13 + v) = 13 + v := by unfold wcl; rw [if_pos (by omega)]
    rw [brc_f (by rw [litN, I_le (by omega) (by omega)]; omega), e13, eM_isWord hw h (show 13 + v < 30 by omega), bnd2S, ew]
    by_cases e1 : tW n tp k = 13 + v
    · rw [if_pos e1, brc_f (by decide), nmE, nmE, oi1, I_add]
      refine hgo _ ⟨v + 1, by omega, ?_⟩
      unfold onV
      rw [if_pos (by omega), e1, Nat.add_sub_cancel_left]
    · rw [if_neg e1, brc_t rfl, nmE, nmE, oi1, I_add]
      refine hgo _ ⟨v + 1, by omega, ?_⟩
      unfold onV
      by_cases e2 : 13 ≤ tW n tp k ∧ tW n tp k < 13 + v
      · rw [if_pos e2, if_pos (by omega)]
      · rw [if_neg e2, if_neg (by omega)]
  · rintro a kk ⟨v, hv, rfl⟩
    have hv3 : v = 3 := by omega
    subst hv3
    show wp (rM_readOnce_4 (fun v1 v2 σ => kk (v1, v2, σ)) (onV (tW n tp k) 3) (I 3) σ) _
    unfold rM_readOnce_4
    rw [brc_t (by decide)]
    by_cases hk : 13 ≤ tW n tp k ∧ tW n tp k ≤ 15
    · obtain ⟨e, he⟩ : ∃ e, tW n tp k = 13 + e := ⟨tW n tp k - 13, by omega⟩
      have he3 : e < 3 := by omega
      have ev : onV (tW n tp k) 3 = I e := by unfold onV; rw [if_pos (by omega), he, Nat.add_sub_cancel_left]
      have eo : onF n tp o k = seF n tp o e k := by unfold onF; rw [if_pos hk, he, Nat.add_sub_cancel_left]
      rw [ev, brc_t (by rw [I0, I_le (by omega) (by omega)]; omega), h18]
      by_cases h0 : o / 2 ^ (e + 2) % 2 = 0
      · rw [brc_t (mt (ob_M ho he3).1.mp (fun h9 => h9 h0))]
        exact eM_on61 hw he3 he h ho h18 hT h0
      · rw [brc_f (fun h9 => h9 ((ob_M ho he3).1.mpr h0)), litN, eM_wrong h, bnd1S]
        have es : seF n tp o e k = 3 + 16 * ps n tp k := by unfold seF; rw [if_neg h0]
        have r1 := RM_F h (3 + 16 * ps n tp k)
        unfold rM_readOnce_61
        rw [brc_f (F_ne r1 (by omega)).2]
        exact wp_some ⟨seM_rd (frO_f frO_refl _ (by decide)), Or.inr ⟨by omega, by omega, k, by rw [eo, es]; exact r1⟩⟩
    · have ev : onV (tW n tp k) 3 = -1 := by unfold onV; rw [if_neg (by omega)]
      have eo : onF n tp o k = 1 + 16 * ps n tp k := by unfold onF; rw [if_neg hk]
      rw [ev, brc_f (by decide), I1, eM_wrong h, bnd1S]
      have r1 := RM_F h (1 + 16 * ps n tp k)
      unfold rM_readOnce_61
      rw [brc_f (F_ne r1 (by omega)).2]
      exact wp_some ⟨seM_rd (frO_f frO_refl _ (by decide)), Or.inr ⟨by omega, by omega, k, by rw [eo]; exact r1⟩⟩
  · rw [I0]
    unfold onV
    rw [if_neg (by omega)]
