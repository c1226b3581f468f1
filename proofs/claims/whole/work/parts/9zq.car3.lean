/-! the reference reads a carrier -/
/-- a word and a number, under a fault or not -/
theorem eM_af2 {n : Nat} {tp : Nat → Nat} (hw : wfP n tp) {N k F : Nat} {σ : St} (h : RM n tp N k F σ) (hF : F < 20000) {w lo hi : Nat} (hw9 : w < 30) (hlo : lo < 10000) (hhi : hi < 10000) : wp (rM_takeAfter (I w) (I lo) (I hi) σ) (fun r => rdM σ r.2 ∧ ∃ k' F', RM n tp N k' F' r.2 ∧ F' = (if F = 0 then afF n tp k (wcl w) lo hi else F) ∧ F' < 20000 ∧ (F' = 0 → k' = k + 2 ∧ r.1 = I (tV n tp (k + 1)))) := by
  by_cases e : F = 0
  · subst e
    refine wp_mono (eM_after hw h hw9 hlo hhi) ?_
    rintro r ⟨f, ⟨a, b, c⟩ | ⟨a, b, c, k', d⟩⟩
    · exact ⟨f, k + 2, 0, c, by rw [if_pos rfl]; exact a.symm, by omega, fun _ => ⟨rfl, b⟩⟩
    · exact ⟨f, k', _, d, by rw [if_pos rfl], b, fun h9 => by omega⟩
  · refine wp_mono (eM_afterF h (by omega) _ _ _) ?_
    rintro r ⟨f, b, c⟩
    exact ⟨f, k, F, c, by rw [if_neg e], hF, fun h9 => absurd h9 e⟩
abbrev cr3 (n : Nat) (tp : Nat → Nat) (k F : Nat) : Nat := if F = 0 then (if afF n tp (k + 1) 7 1 60 = 0 then (if afF n tp (k + 3) 8 0 20 = 0 then afF n tp (k + 5) 9 0 9 else afF n tp (k + 3) 8 0 20) else afF n tp (k + 1) 7 1 60) else F
theorem eM_cr88 {n : Nat} {tp : Nat → Nat} (hw : wfP n tp) {N k F C : Nat} {σ : St} (h : RM n tp N k F σ) (hF : F < 20000) (hW : F = 0 → ¬ tW n tp k = 40) (hC : C < 6) (v2 : Int32) {s0 : Int32} (hs : s0 = if F = 0 then 1 else 0) : wp (rM_readCarrier_88 (I C) v2 s0 (σ.1 0 7) σ) (fun τ => drM σ τ ∧ (τ.1 0 17 = σ.1 0 17 ∧ τ.1 11 = σ.1 11 ∧ τ.2 = σ.2) ∧ ∃ k', RM n tp N k' (cr3 n tp k F) τ ∧ cr3 n tp k F < 20000 ∧ (cr3 n tp k F = 0 → k' = k + 7 ∧ τ.1 6 162 = σ.1 6 162 + 1 ∧ τ.1 6 (280 + 4 * C) = v2 ∧ τ.1 6 (280 + 4 * C + 1) = I (tV n tp (k + 2)) ∧ τ.1 6 (280 + 4 * C + 2) = I (tV n tp (k + 4)) ∧ τ.1 6 (280 + 4 * C + 3) = I (tV n tp (k + 6)) ∧ ∀ j, j ≠ 162 → (j < 280 + 4 * C ∨ 280 + 4 * C + 3 < j) → τ.1 6 j = σ.1 6 j)) := by
  have w7 : wcl 7 = 7 := rfl
  have w8 : wcl 8 = 8 := rfl
  have w9 : wcl 9 = 9 := rfl
  have e162 : (162 : Int32).toNatClampNeg = 162 := by decide
  have e280 : (280 : Int32) + (4 : Int32) * I C = I (280 + 4 * C) := by
    have h : ∀ C, C < 6 → (280 : Int32) + (4 : Int32) * I C = I (280 + 4 * C) := by decide +kernel
    exact h C hC
  have ea : ∀ x : Nat, I x + (1 : Int32) = I (x + 1) := fun x => by rw [I1, I_add]
  have eb : ∀ x : Nat, I x + (2 : Int32) = I (x + 2) := fun x => by rw [litN, I_add]
  have ec : ∀ x : Nat, I x + (3 : Int32) = I (x + 3) := fun x => by rw [litN, I_add]
  obtain ⟨k1, hk1, hk1', hk0⟩ : ∃ k1, k1 ≤ N ∧ I k + s0 = I k1 ∧ (F = 0 → k1 = k + 1) := by
    by_cases e : F = 0
    · subst e
      exact ⟨k + 1, wd_in h (hW rfl), by rw [hs, if_pos rfl, I1, I_add], fun _ => rfl⟩
    · exact ⟨k, h.2.1, by rw [hs, if_neg e, Int32.add_zero], fun h9 => absurd h9 e⟩
  unfold rM_readCarrier_88
  rw [nmE, h.2.2.1, hk1', nmE, e280, chk_t (ib_I (by omega) (by omega)), nmE, I_cl (by omega)]
  have r1 : RM n tp N k1 F (setI (setI σ 0 7 (I k1)) 6 (280 + 4 * C) v2) := RM_6 (RM_k h hk1) _ _
  have g1 : ∀ i, i ≠ 0 → i ≠ 6 → (setI (setI σ 0 7 (I k1)) 6 (280 + 4 * C) v2).1 i = σ.1 i := fun i a b => by rw [gI_ne1 _ _ _ b, gI_ne1 _ _ _ a]
  have m1 : ∀ j, j ≠ 280 + 4 * C → (setI (setI σ 0 7 (I k1)) 6 (280 + 4 * C) v2).1 6 j = σ.1 6 j := fun j a => by rw [gI_ne2 _ _ _ a, gI_ne1 _ _ _ (by decide)]
  have m1' : (setI (setI σ 0 7 (I k1)) 6 (280 + 4 * C) v2).1 6 (280 + 4 * C) = v2 := gI_same _ _ _ _
  have o1 : ∀ j, j ≠ 7 → j ≠ 8 → (setI (setI σ 0 7 (I k1)) 6 (280 + 4 * C) v2).1 0 j = σ.1 0 j := fun j a b => by rw [gI_ne1 _ _ _ (by decide), gI_ne2 _ _ _ a]
  have q1 : (setI (setI σ 0 7 (I k1)) 6 (280 + 4 * C) v2).2 = σ.2 := rfl
  generalize setI (setI σ 0 7 (I k1)) 6 (280 + 4 * C) v2 = τ1 at r1 g1 m1 m1' o1 q1 ⊢
  refine wp_bnd2 (wp_mono (eM_af2 (w := 7) (lo := 1) (hi := 60) hw r1 hF (by omega) (by omega) (by omega)) ?_)
  rw [w7]
  rintro ⟨x2, τ2⟩ ⟨f2, k2, F2, r2, hF2, b2, c2⟩
  show wp (chk (ib (I (280 + 4 * C) + (1 : Int32)) 320) (nm (setI τ2 6 (I (280 + 4 * C) + (1 : Int32)).toNatClampNeg x2) _)) _
  rw [ea, chk_t (ib_I (by omega) (by omega)), nmE, I_cl (by omega)]
  refine wp_bnd2 (wp_mono (eM_af2 (w := 8) (lo := 0) (hi := 20) hw (RM_6 r2 (280 + 4 * C + 1) x2) b2 (by omega) (by omega) (by omega)) ?_)
  rw [w8]
  rintro ⟨x3, τ3⟩ ⟨f3, k3, F3, r3, hF3, b3, c3⟩
  show wp (chk (ib (I (280 + 4 * C) + (2 : Int32)) 320) (nm (setI τ3 6 (I (280 + 4 * C) + (2 : Int32)).toNatClampNeg x3) _)) _
  rw [eb, chk_t (ib_I (by omega) (by omega)), nmE, I_cl (by omega)]
  refine wp_bnd2 (wp_mono (eM_af2 (w := 9) (lo := 0) (hi := 9) hw (RM_6 r3 (280 + 4 * C + 2) x3) b3 (by omega) (by omega) (by omega)) ?_)
  rw [w9]
  rintro ⟨x4, τ4⟩ ⟨f4, k4, F4, r4, hF4, b4, c4⟩
  show wp (chk (ib (I (280 + 4 * C) + (3 : Int32)) 320) (nm (setI τ4 6 (I (280 + 4 * C) + (3 : Int32)).toNatClampNeg x4) _)) _
  have s3 : ∀ j, τ4.1 6 j = (setI τ3 6 (280 + 4 * C + 2) x3).1 6 j := fun j => by rw [f4.1 6 (by decide) (by decide)]
  have s2 : ∀ j, τ3.1 6 j = (setI τ2 6 (280 + 4 * C + 1) x2).1 6 j := fun j => by rw [f3.1 6 (by decide) (by decide)]
  have s1 : ∀ j, τ2.1 6 j = τ1.1 6 j := fun j => by rw [f2.1 6 (by decide) (by decide)]
  rw [ec, chk_t (ib_I (by omega) (by omega)), nmE, I_cl (by omega), chk_t (by decide), chk_t (by decide), nmE, e162]
  have e4 : F4 = cr3 n tp k F := by
    rw [hF4, hF3, hF2]
    by_cases e : F = 0
    · have k1e := hk0 e
      subst k1e
      unfold cr3
      rw [if_pos e, if_pos e]
      have hF2' : F2 = afF n tp (k + 1) 7 1 60 := by rw [hF2, if_pos e]
      by_cases e2 : afF n tp (k + 1) 7 1 60 = 0
      · obtain ⟨ka, -⟩ := c2 (by omega)
        subst ka
        rw [if_pos e2, if_pos e2]
        have hF3' : F3 = afF n tp (k + 3) 8 0 20 := by rw [hF3, if_pos (by omega)]
        by_cases e3 : afF n tp (k + 3) 8 0 20 = 0
        · obtain ⟨ka, -⟩ := c3 (by omega)
          subst ka
          rw [if_pos (show afF n tp (k + 1 + 2) 8 0 20 = 0 from e3)]
        · rw [if_neg (show ¬ afF n tp (k + 1 + 2) 8 0 20 = 0 from e3), if_neg e3]
      · rw [if_neg e2, if_neg e2, if_neg e2]
    · unfold cr3
      rw [if_neg e, if_neg e, if_neg e, if_neg e]
  refine wp_some ⟨?_, ⟨?_, ?_, ?_⟩, k4, ?_, by omega, fun h0 => ?_⟩
  · refine drM_6 (drM_6 (drM_tr (drM_6 (drM_tr (drM_6 (drM_tr (τ := τ1) ⟨fun i a b _ => g1 i a b, fun j hj => m1 j (by omega), fun j a b _ => o1 j a b, fun i _ => by rw [q1], by rw [q1]⟩ (drM_rd f2)) _ (by omega)) (drM_rd f3)) _ (by omega)) (drM_rd f4)) _ (by omega)) _ (by omega)
  · rw [gI_ne1 _ _ _ (by decide), gI_ne1 _ _ _ (by decide), f4.2.1 17 (by decide), gI_ne1 _ _ _ (by decide), f3.2.1 17 (by decide), gI_ne1 _ _ _ (by decide), f2.2.1 17 (by decide), o1 17 (by decide) (by decide)]
  · rw [gI_ne1 _ _ _ (by decide), gI_ne1 _ _ _ (by decide), f4.1 11 (by decide) (by decide), gI_ne1 _ _ _ (by decide), f3.1 11 (by decide) (by decide), gI_ne1 _ _ _ (by decide), f2.1 11 (by decide) (by decide), g1 11 (by decide) (by decide)]
  · show τ4.2 = σ.2
    rw [f4.2.2]
    show τ3.2 = σ.2
    rw [f3.2.2]
    show τ2.2 = σ.2
    rw [f2.2.2, q1]
  · rw [← e4]
    exact RM_6 (RM_6 r4 _ _) _ _
  · obtain ⟨z4, y4⟩ := c4 (by omega)
    have e3 : F3 = 0 := by
      apply Classical.byContradiction
      intro h9
      rw [if_neg h9] at hF4
      omega
    obtain ⟨z3, y3⟩ := c3 e3
    have e2 : F2 = 0 := by
      apply Classical.byContradiction
      intro h9
      rw [if_neg h9] at hF3
      omega
    obtain ⟨z2, y2⟩ := c2 e2
    have e1 : F = 0 := by
      apply Classical.byContradiction
      intro h9
      rw [if_neg h9] at hF2
      omega
    have z1 := hk0 e1
    subst z1 z2 z3
    have y2' : x2 = I (tV n tp (k + 2)) := y2
    have y3' : x3 = I (tV n tp (k + 4)) := y3
    have y4' : x4 = I (tV n tp (k + 6)) := y4
    refine ⟨z4, ?_, ?_, ?_, ?_, ?_, fun j hj hj2 => ?_⟩
    · rw [gI_same, gI_ne2 _ _ _ (by omega), s3, gI_ne2 _ _ _ (by omega), s2, gI_ne2 _ _ _ (by omega), s1, m1 _ (by omega)]
    · rw [gI_ne2 _ _ _ (by omega), gI_ne2 _ _ _ (by omega), s3, gI_ne2 _ _ _ (by omega), s2, gI_ne2 _ _ _ (by omega), s1, m1']
    · rw [gI_ne2 _ _ _ (by omega), gI_ne2 _ _ _ (by omega), s3, gI_ne2 _ _ _ (by omega), s2, gI_same, y2']
    · rw [gI_ne2 _ _ _ (by omega), gI_ne2 _ _ _ (by omega), s3, gI_same, y3']
    · rw [gI_ne2 _ _ _ (by omega), gI_same, y4']
    · rw [gI_ne2 _ _ _ hj, gI_ne2 _ _ _ (by omega), s3, gI_ne2 _ _ _ (by omega), s2, gI_ne2 _ _ _ (by omega), s1, m1 _ (by omega)]
/-- which kind -/
def kdV (W v : Nat) : Int32 := if 16 ≤ W ∧ W < 16 + v then I (W - 16) else -1
theorem eM_crKd {n : Nat} {tp : Nat → Nat} (hw : wfP n tp) {N k F C : Nat} {σ : St} (h : RM n tp N k F σ) (hF : F < 20000) {Q : St → Prop} (hQ : wp (brc (0 ≤ (if F = 0 then kdV (tW n tp k) 6 else -1)) (rM_readCarrier_71 (I C) (if F = 0 then kdV (tW n tp k) 6 else -1) σ) (bnd1 (rM_wrong (1 : Int32) σ) fun σ_22 => rM_readCarrier_71 (I C) (if F = 0 then kdV (tW n tp k) 6 else -1) σ_22)) Q) : wp (lp rM_readCarrier_33L fu (I C, (-1 : Int32), (0 : Int32), σ)) Q := by
  refine wp_for (fun m a => ∃ v, v + m = 6 ∧ a = (I C, (if F = 0 then kdV (tW n tp k) v else -1), I v, σ)) ?_ ?_ 6 fu _ ⟨0, rfl, ?_⟩ (by unfold fu; omega)
  · rintro m a kk ⟨v, hv, rfl⟩ hgo
    show wp (rM_readCarrier_33 (fun v1 v2 v3 σ => kk (v1, v2, v3, σ)) (I C) (if F = 0 then kdV (tW n tp k) v else -1) (I v) σ) _
    unfold rM_readCarrier_33 rM_readCarrier_55
    have e16 : (16 : Int32) + I v = I (16 + v) := by rw [litN, I_add]
    rw [brc_f (by rw [litN, I_le (by omega) (by omega)]; omega), e16]
    by_cases e : F = 0
    · subst e
      have ew : wcl (16 + v) = 16 + v := by unfold wcl; rw [if_pos (by omega)]
      rw [eM_isWord hw h (show 16 + v < 30 by omega), bnd2S, ew, if_pos rfl]
      by_cases e1 : tW n tp k = 16 + v
      · rw [if_pos e1, brc_f (by decide), nmE, nmE, oi1, I_add]
        refine hgo _ ⟨v + 1, by omega, ?_⟩
        unfold kdV
        rw [if_pos rfl, if_pos (by omega), e1, Nat.add_sub_cancel_left]
      · rw [if_neg e1, brc_t rfl, nmE, nmE, oi1, I_add]
        refine hgo _ ⟨v + 1, by omega, ?_⟩
        unfold kdV
        rw [if_pos rfl]
        by_cases e2 : 16 ≤ tW n tp k ∧ tW n tp k < 16 + v
        · rw [if_pos e2, if_pos (by omega)]
        · rw [if_neg e2, if_neg (by omega)]
    · rw [eM_isWordF h (by omega), bnd2S, brc_t rfl, nmE, nmE, oi1, I_add, if_neg e]
      exact hgo _ ⟨v + 1, by omega, by rw [if_neg e]⟩
  · rintro a kk ⟨v, hv, rfl⟩
    have hv6 : v = 6 := by omega
    subst hv6
    show wp (rM_readCarrier_33 (fun v1 v2 v3 σ => kk (v1, v2, v3, σ)) (I C) (if F = 0 then kdV (tW n tp k) 6 else -1) (I 6) σ) _
    unfold rM_readCarrier_33
    rw [brc_t (by decide)]
    exact hQ
  · rw [I0]
    by_cases e : F = 0
    · rw [if_pos e]
      unfold kdV
      rw [if_neg (by omega)]
    · rw [if_neg e]
theorem eM_readCarrier {n : Nat} {tp : Nat → Nat} (hw : wfP n tp) {N k m : Nat} {np idn : Nat → Nat} {T : Vw} {σ : St} (h : RM n tp N k 0 σ) (hW : ¬ tW n tp k = 40) (hN : Nm n tp (T 0 0) (T 0 2) m np idn) (hM : MNm n tp m np idn σ) (hT : MDr T σ) : wp (rM_readCarrier σ) (fun τ => drM σ τ ∧ ((crF n tp m np (T 0 2) k = 0 ∧ RM n tp N (k + 9) 0 τ ∧ MDr (crT T (tW n tp (k + 2) - 16) (tV n tp (k + 4)) (tV n tp (k + 6)) (tV n tp (k + 8))) τ ∧ MNm n tp (m + 1) (updN np m (ps n tp (k + 1))) (updN idn m (7 + T 0 2)) τ) ∨ (0 < crF n tp m np (T 0 2) k ∧ crF n tp m np (T 0 2) k < 20000 ∧ ∃ k', RM n tp N k' (crF n tp m np (T 0 2) k) τ))) := by
  have hS := hN.1
  have hC := hN.2.1
  have hm := hN.2.2.1
  have hn := hw.1
  have hp := (RM_tok h).2.2.1
  have h2 : σ.1 6 162 = I (T 0 2) := hT.2.2.1
  have e162 : (162 : Int32).toNatClampNeg = 162 := by decide
  unfold rM_readCarrier
  rw [chk_t (by decide), nmE, e162, h2]
  refine wp_brc (fun h7 => ?_) (fun h7 => ?_)
  · rw [litN, I_inj (by omega) (by omega)] at h7
    have hC6 : T 0 2 < 6 := by omega
    have e7 : (7 : Int32) + I (T 0 2) = I (7 + T 0 2) := by rw [litN, I_add]
    rw [e7]
    refine wp_bnd1 (wp_mono (eM_readName hw h hW hN hM (by omega) (show 7 + T 0 2 < 13 by omega)) ?_)
    rintro τ1 ⟨f1, ⟨a, b, r1, m1⟩ | ⟨a, b, r1, m1⟩⟩
    · rw [nmE, nmE]
      refine eM_crKd hw r1 (by omega) ?_
      rw [if_pos rfl]
      have hp2 := (RM_tok r1).2.2.1
      by_cases hk : 16 ≤ tW n tp (k + 2) ∧ tW n tp (k + 2) ≤ 21
      · have ek : kdV (tW n tp (k + 2)) 6 = I (tW n tp (k + 2) - 16) := by unfold kdV; rw [if_pos (by omega)]
        rw [ek, brc_t (by rw [I0, I_le (by omega) (by omega)]; omega)]
        unfold rM_readCarrier_71
        rw [brc_t (F_0 r1).2]
        refine wp_mono (eM_cr88 hw r1 (by omega) (fun _ => by omega) hC6 _ (by rw [if_pos rfl])) ?_
        rintro τ ⟨g, ⟨g17, g11, g2⟩, k', r, hb, hz⟩
        have es : crF n tp m np (T 0 2) k = cr3 n tp (k + 2) 0 := by
          unfold crF cr3
          rw [if_pos hC6, if_pos a, if_pos hk, if_pos rfl]
        refine ⟨drM_tr (drM_nm f1) g, ?_⟩
        by_cases e0 : cr3 n tp (k + 2) 0 = 0
        · obtain ⟨z1, z2, z3, z4, z5, z6, z7⟩ := hz e0
          subst z1
          have q6 : ∀ j, τ1.1 6 j = σ.1 6 j := fun j => by rw [f1.1 6 (by decide) (by decide)]
          refine Or.inl ⟨by rw [es]; exact e0, by rw [e0] at r; exact r, ?_, MNm_dr g17 g11 (by rw [g2]) m1⟩
          refine MDr_cr hS hC6 hT ?_ z3 z4 z5 z6 (fun j j1 j2 j3 => ?_)
          · rw [z2, q6, h2, I1, I_add]
          · rw [z7 j j2 j3, q6]
        · exact Or.inr ⟨by omega, by omega, k', by rw [es]; exact r⟩
      · have ek : kdV (tW n tp (k + 2)) 6 = -1 := by unfold kdV; rw [if_neg (by omega)]
        have es : crF n tp m np (T 0 2) k = 1 + 16 * ps n tp (k + 2) := by unfold crF; rw [if_pos hC6, if_pos a, if_neg hk]
        rw [ek, brc_f (by decide), I1, eM_wrong r1, bnd1S]
        have r2 := RM_F r1 (1 + 16 * ps n tp (k + 2))
        unfold rM_readCarrier_71
        rw [brc_f (F_ne r2 (by omega)).2]
        refine wp_mono (eM_cr88 hw r2 (by omega) (fun h9 => by omega) hC6 _ (by rw [if_neg (by omega)])) ?_
        rintro τ ⟨g, -, k', r, hb, hz⟩
        have ec : cr3 n tp (k + 2) (1 + 16 * ps n tp (k + 2)) = 1 + 16 * ps n tp (k + 2) := if_neg (by omega)
        rw [ec] at r
        exact ⟨drM_tr (drM_nm f1) (drM_tr (drM_rd (frO_f frO_refl _ (by decide))) g), Or.inr ⟨by omega, by omega, k', by rw [es]; exact r⟩⟩
    · have hp2 := (RM_tok r1).2.2.1
      have es : crF n tp m np (T 0 2) k = nnF n tp m np (k + 1) + 16 * ps n tp (k + 1) := by unfold crF; rw [if_pos hC6, if_neg (by omega)]
      rw [nmE, nmE]
      refine eM_crKd hw r1 (by omega) ?_
      rw [if_neg (by omega), brc_f (by decide), eM_wrongF r1 (by omega), bnd1S]
      unfold rM_readCarrier_71
      rw [brc_f (F_ne r1 (by omega)).2]
      refine wp_mono (eM_cr88 hw r1 (by omega) (fun h9 => by omega) hC6 _ (by rw [if_neg (by omega)])) ?_
      rintro τ ⟨g, -, k', r, hb, hz⟩
      have ec : cr3 n tp (k + 1) (nnF n tp m np (k + 1) + 16 * ps n tp (k + 1)) = nnF n tp m np (k + 1) + 16 * ps n tp (k + 1) := if_neg (by omega)
      rw [ec] at r
      exact ⟨drM_tr (drM_nm f1) g, Or.inr ⟨by omega, by omega, k', by rw [es]; exact r⟩⟩
  · have h9 := Classical.not_not.mp h7
    rw [litN, I_inj (by omega) (by omega)] at h9
    have es : crF n tp m np (T 0 2) k = 5 + 16 * ps n tp k := by unfold crF; rw [if_neg (by omega)]
    rw [litN, eM_wrong h, bnd1S]
    refine wp_some ⟨drM_rd (frO_f frO_refl _ (by decide)), Or.inr ⟨by omega, by omega, k, ?_⟩⟩
    rw [es]
    exact RM_F h _
