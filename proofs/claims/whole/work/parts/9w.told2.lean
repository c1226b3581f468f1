/-! told names, taken -/
theorem tdF_0 {n : Nat} {tp : Nat → Nat} {m k b l : Nat} {np idn : Nat → Nat} (h : tdF n tp m np idn k b l = 0) : cnm (tW n tp k) = true ∧ b ≤ fdI n tp np idn (ps n tp k) m ∧ fdI n tp np idn (ps n tp k) m < b + l := by
  unfold tdF at h
  by_cases e : cnm (tW n tp k) = true
  · rw [if_pos e] at h
    by_cases e2 : b ≤ fdI n tp np idn (ps n tp k) m ∧ fdI n tp np idn (ps n tp k) m < b + l
    · exact ⟨e, e2⟩
    · rw [if_neg e2] at h; omega
  · rw [if_neg e] at h; omega
theorem fdI_ex {n : Nat} {tp : Nat → Nat} {m S C : Nat} {np idn : Nat → Nat} {i : Nat} (hN : Nm n tp S C m np idn) (h : fdI n tp np idn i m < 13) : ∃ q, q < m ∧ c8 n tp (np q) = c8 n tp i ∧ idn q = fdI n tp np idn i m := by
  by_cases hh : ∀ q, q < m → ¬ c8 n tp (np q) = c8 n tp i
  · rw [fdI_no m hh] at h; omega
  · apply Classical.byContradiction
    intro h9
    apply hh
    intro q hq hc
    exact h9 ⟨q, hq, hc, (fdI_yes (idn := idn) m hN.2.2.2.2.2.2 hq hc).symm⟩
theorem eX_placeS {n : Nat} {tp : Nat → Nat} (hw : wfP n tp) {k S C m : Nat} {np idn : Nat → Nat} {σ : St} (h : KX n tp k σ) (hN : Nm n tp S C m np idn) (hX : XNm n tp m np idn σ) (h0 : tdF n tp m np idn k 0 7 = 0) : wp (rX_placeOfS (I S) σ) (fun r => r = (I (fdI n tp np idn (ps n tp k) m), σ)) := by
  obtain ⟨e, -, e7⟩ := tdF_0 h0
  have ht := cnm_T hw h.2.1 e
  refine wp_mono (eX_nameS h hN hX ht) ?_
  rintro ⟨r, τ⟩ ⟨rfl, ⟨q, a, b, c, d⟩ | ⟨a, d⟩⟩
  · have d' : r = I (idn q) := d
    rw [d', fdI_yes (idn := idn) m hN.2.2.2.2.2.2 a c]
  · obtain ⟨q, hq, hc, he⟩ := fdI_ex hN (show fdI n tp np idn (ps n tp k) m < 13 by omega)
    have := (hN.2.2.2.1 q hq).2
    exact absurd hc (a q hq (by omega))
theorem eX_placeC {n : Nat} {tp : Nat → Nat} (hw : wfP n tp) {k S C m : Nat} {np idn : Nat → Nat} {σ : St} (h : KX n tp k σ) (hN : Nm n tp S C m np idn) (hX : XNm n tp m np idn σ) (h0 : tdF n tp m np idn k 7 6 = 0) : wp (rX_placeOfC (I C) σ) (fun r => r = (I (fdI n tp np idn (ps n tp k) m - 7), σ)) := by
  obtain ⟨e, e6, e7⟩ := tdF_0 h0
  have ht := cnm_T hw h.2.1 e
  refine wp_mono (eX_nameC h hN hX ht) ?_
  rintro ⟨r, τ⟩ ⟨rfl, ⟨q, a, b, c, d⟩ | ⟨a, d⟩⟩
  · have d' : r = I (idn q - 7) := d
    rw [d', fdI_yes (idn := idn) m hN.2.2.2.2.2.2 a c]
  · obtain ⟨q, hq, hc, he⟩ := fdI_ex hN (show fdI n tp np idn (ps n tp k) m < 13 by omega)
    exact absurd hc (a q hq (by omega))
theorem eX_takeToldS {n : Nat} {tp : Nat → Nat} (hw : wfP n tp) {k S C m : Nat} {np idn : Nat → Nat} {σ : St} (h : KX n tp k σ) (hN : Nm n tp S C m np idn) (hX : XNm n tp m np idn σ) : wp (rX_takeToldS (I S) σ) (fun r => rdX σ r.2 ∧ ((tdF n tp m np idn k 0 7 = 0 ∧ r.1 = 1 ∧ KX n tp (k + 1) r.2 ∧ r.2.1 7 6 = I (fdI n tp np idn (ps n tp k) m)) ∨ (0 < tdF n tp m np idn k 0 7 ∧ tdF n tp m np idn k 0 7 ≤ 2 ∧ r.1 = 0 ∧ r.2.1 7 4 = I (tdF n tp m np idn k 0 7 + 16 * ps n tp k)))) := by
  unfold rX_takeToldS
  refine wp_bnd2 (wp_mono (eX_toldS hw h hN hX) ?_)
  rintro r (⟨a, b, rfl⟩ | ⟨a, b, rfl⟩)
  · show wp (brc (¬ (1 : Int32) = 0) _ _) _
    rw [brc_t (by decide)]
    refine wp_bnd2 (wp_mono (eX_placeS hw h hN hX a) ?_)
    rintro r rfl
    rw [nmE]
    refine wp_bnd1 (wp_mono (eX_step hw (KX_7 h (i := 7) (j := 6) (I (fdI n tp np idn (ps n tp k) m)) (by decide) (by decide))) ?_)
    rintro τ ⟨f, c⟩
    rw [chk_t (by decide)]
    refine wp_some ⟨rdX_tr (rdX_7 rdX_refl _ (by omega)) (rdX_tk f), Or.inl ⟨a, rfl, c, ?_⟩⟩
    show τ.1 7 6 = _
    rw [f.1 7 (by decide), gI_same]
  · show wp (brc (¬ (0 : Int32) = 0) _ _) _
    rw [brc_f (by decide), chk_t (by decide)]
    exact wp_some ⟨rdX_7 rdX_refl _ (by omega), Or.inr ⟨a, b, rfl, gI_same _ _ _ _⟩⟩
theorem eX_takeToldC {n : Nat} {tp : Nat → Nat} (hw : wfP n tp) {k S C m : Nat} {np idn : Nat → Nat} {σ : St} (h : KX n tp k σ) (hN : Nm n tp S C m np idn) (hX : XNm n tp m np idn σ) : wp (rX_takeToldC (I C) σ) (fun r => rdX σ r.2 ∧ ((tdF n tp m np idn k 7 6 = 0 ∧ r.1 = 1 ∧ KX n tp (k + 1) r.2 ∧ r.2.1 7 6 = I (fdI n tp np idn (ps n tp k) m - 7)) ∨ (0 < tdF n tp m np idn k 7 6 ∧ tdF n tp m np idn k 7 6 ≤ 2 ∧ r.1 = 0 ∧ r.2.1 7 4 = I (tdF n tp m np idn k 7 6 + 16 * ps n tp k)))) := by
  unfold rX_takeToldC
  refine wp_bnd2 (wp_mono (eX_toldC hw h hN hX) ?_)
  rintro r (⟨a, b, rfl⟩ | ⟨a, b, rfl⟩)
  · show wp (brc (¬ (1 : Int32) = 0) _ _) _
    rw [brc_t (by decide)]
    refine wp_bnd2 (wp_mono (eX_placeC hw h hN hX a) ?_)
    rintro r rfl
    rw [nmE]
    refine wp_bnd1 (wp_mono (eX_step hw (KX_7 h (i := 7) (j := 6) (I (fdI n tp np idn (ps n tp k) m - 7)) (by decide) (by decide))) ?_)
    rintro τ ⟨f, c⟩
    rw [chk_t (by decide)]
    refine wp_some ⟨rdX_tr (rdX_7 rdX_refl _ (by omega)) (rdX_tk f), Or.inl ⟨a, rfl, c, ?_⟩⟩
    show τ.1 7 6 = _
    rw [f.1 7 (by decide), gI_same]
  · show wp (brc (¬ (0 : Int32) = 0) _ _) _
    rw [brc_f (by decide), chk_t (by decide)]
    exact wp_some ⟨rdX_7 rdX_refl _ (by omega), Or.inr ⟨a, b, rfl, gI_same _ _ _ _⟩⟩
/-- the reference finds: a number below 13, or none -/
theorem eM_found {n : Nat} {tp : Nat → Nat} {N k S C m : Nat} {np idn : Nat → Nat} {σ : St} (h : RM n tp N k 0 σ) (hN : Nm n tp S C m np idn) (hM : MNm n tp m np idn σ) (ht : nmT n tp (ps n tp k)) : wp (rM_find σ) (fun r => r = (if fdI n tp np idn (ps n tp k) m < 13 then I (fdI n tp np idn (ps n tp k) m) else -1, σ)) := by
  refine wp_mono (eM_find h hN hM ht) ?_
  rintro ⟨r, τ⟩ ⟨rfl, ⟨q, a, b, c⟩ | ⟨a, b⟩⟩
  · have c' : r = I (idn q) := c
    have hb := (hN.2.2.2.1 q a).2
    have hS := hN.1
    have hC := hN.2.1
    rw [c', fdI_yes (idn := idn) m hN.2.2.2.2.2.2 a b, if_pos (by omega)]
  · have b' : r = -1 := b
    rw [b', fdI_no m a, if_neg (by omega)]
theorem eM_nameHere {n : Nat} {tp : Nat → Nat} (hw : wfP n tp) {N k S C m : Nat} {np idn : Nat → Nat} {σ : St} (h : RM n tp N k 0 σ) (hN : Nm n tp S C m np idn) (hM : MNm n tp m np idn σ) {b l : Nat} (hbl : (b = 0 ∧ l = 7) ∨ (b = 7 ∧ l = 6)) (v3 : Int32) : wp (rM_nameHere (I b) (I l) v3 σ) (fun r => rdM σ r.2 ∧ ((tdF n tp m np idn k b l = 0 ∧ r.1 = I (fdI n tp np idn (ps n tp k) m - b) ∧ ((¬ r.1 = v3 ∧ r.2 = σ) ∨ (r.1 = v3 ∧ RM n tp N k (3 + 16 * ps n tp k) r.2))) ∨ (0 < tdF n tp m np idn k b l ∧ tdF n tp m np idn k b l ≤ 2 ∧ RM n tp N k (tdF n tp m np idn k b l + 16 * ps n tp k) r.2))) := by
  have hp := (RM_tok h).2.2.1
  unfold rM_nameHere rM_nameHere_40 rM_nameHere_59
  rw [nmE]
  refine wp_bnd2 (wp_mono (eM_isName hw h) ?_)
  rintro r rfl
  show wp (brc (¬ (if cnm (tW n tp k) = true then (1 : Int32) else 0) = 0) _ _) _
  by_cases e : cnm (tW n tp k) = true
  · have ht := cnm_T hw hp e
    rw [if_pos e, brc_t (by decide)]
    refine wp_bnd2 (wp_mono (eM_found h hN hM ht) ?_)
    rintro r rfl
    rw [nmE]
    refine wp_bnd2 (wp_mono (eM_found h hN hM ht) ?_)
    rintro r rfl
    show wp (brc ((if fdI n tp np idn (ps n tp k) m < 13 then I (fdI n tp np idn (ps n tp k) m) else -1) < I b) (bnd1 (rM_wrong 2 σ) fun σ_12 => some ((if fdI n tp np idn (ps n tp k) m < 13 then I (fdI n tp np idn (ps n tp k) m) else -1) - I b, σ_12)) (brc ((if fdI n tp np idn (ps n tp k) m < 13 then I (fdI n tp np idn (ps n tp k) m) else -1) - I b < I l) (brc (¬ (if fdI n tp np idn (ps n tp k) m < 13 then I (fdI n tp np idn (ps n tp k) m) else -1) - I b = v3) (some ((if fdI n tp np idn (ps n tp k) m < 13 then I (fdI n tp np idn (ps n tp k) m) else -1) - I b, σ)) (bnd1 (rM_wrong 3 σ) fun σ_14 => some ((if fdI n tp np idn (ps n tp k) m < 13 then I (fdI n tp np idn (ps n tp k) m) else -1) - I b, σ_14))) (bnd1 (rM_wrong 2 σ) fun σ_12 => some ((if fdI n tp np idn (ps n tp k) m < 13 then I (fdI n tp np idn (ps n tp k) m) else -1) - I b, σ_12)))) _
    have bad : ∀ x : Int32, tdF n tp m np idn k b l = 2 → wp (bnd1 (rM_wrong 2 σ) fun σ_12 => some (x, σ_12)) (fun r => rdM σ r.2 ∧ ((tdF n tp m np idn k b l = 0 ∧ r.1 = I (fdI n tp np idn (ps n tp k) m - b) ∧ ((¬ r.1 = v3 ∧ r.2 = σ) ∨ (r.1 = v3 ∧ RM n tp N k (3 + 16 * ps n tp k) r.2))) ∨ (0 < tdF n tp m np idn k b l ∧ tdF n tp m np idn k b l ≤ 2 ∧ RM n tp N k (tdF n tp m np idn k b l + 16 * ps n tp k) r.2))) := fun x hx => by
      rw [litN, eM_wrong h, bnd1S]
      exact wp_some ⟨frO_f frO_refl _ (by decide), Or.inr ⟨by omega, by omega, by rw [hx]; exact RM_F h _⟩⟩
    have eT : tdF n tp m np idn k b l = if b ≤ fdI n tp np idn (ps n tp k) m ∧ fdI n tp np idn (ps n tp k) m < b + l then 0 else 2 := by unfold tdF; rw [if_pos e]
    by_cases h13 : fdI n tp np idn (ps n tp k) m < 13
    · rw [if_pos h13]
      refine wp_brc (fun h1 => ?_) (fun h1 => ?_)
      · rw [I_lt (by omega) (by omega)] at h1
        exact bad _ (by rw [eT, if_neg (by omega)])
      · rw [I_lt (by omega) (by omega)] at h1
        rw [I_sub (by omega)]
        refine wp_brc (fun h2 => ?_) (fun h2 => ?_)
        · rw [I_lt (by omega) (by omega)] at h2
          have e0 : tdF n tp m np idn k b l = 0 := by rw [eT, if_pos (by omega)]
          refine wp_brc (fun h3 => ?_) (fun h3 => ?_)
          · exact wp_some ⟨frO_refl, Or.inl ⟨e0, rfl, Or.inl ⟨h3, rfl⟩⟩⟩
          · rw [litN, eM_wrong h, bnd1S]
            exact wp_some ⟨frO_f frO_refl _ (by decide), Or.inl ⟨e0, rfl, Or.inr ⟨Classical.not_not.mp h3, RM_F h _⟩⟩⟩
        · rw [I_lt (by omega) (by omega)] at h2
          exact bad _ (by rw [eT, if_neg (by omega)])
    · rw [if_neg h13, brc_t (by rcases hbl with ⟨rfl, -⟩ | ⟨rfl, -⟩ <;> decide)]
      exact bad _ (by rw [eT, if_neg (by omega)])
  · have e1 : tdF n tp m np idn k b l = 1 := by unfold tdF; rw [if_neg e]
    rw [if_neg e, brc_f (by decide)]
    show wp (bnd1 (rM_wrong 1 σ) _) _
    rw [I1, eM_wrong h, bnd1S]
    exact wp_some ⟨frO_f frO_refl _ (by decide), Or.inr ⟨by omega, by omega, by rw [e1]; exact RM_F h _⟩⟩
