/-! new names -/
def hasN (n : Nat) (tp : Nat → Nat) (m : Nat) (np : Nat → Nat) (i : Nat) : Bool := (List.range m).any fun q => decide (c8 n tp (np q) = c8 n tp i)
theorem hasN_t {n : Nat} {tp : Nat → Nat} {m : Nat} {np : Nat → Nat} {i q : Nat} (hq : q < m) (h : c8 n tp (np q) = c8 n tp i) : hasN n tp m np i = true :=
  List.any_eq_true.mpr ⟨q, List.mem_range.mpr hq, decide_eq_true h⟩
theorem hasN_f {n : Nat} {tp : Nat → Nat} {m : Nat} {np : Nat → Nat} {i : Nat} (h : ∀ q, q < m → ¬ c8 n tp (np q) = c8 n tp i) : hasN n tp m np i = false := by
  cases e : hasN n tp m np i with
  | false => rfl
  | true =>
    obtain ⟨q, h1, h2⟩ := List.any_eq_true.mp e
    exact absurd (of_decide_eq_true h2) (h q (List.mem_range.mp h1))
/-- what is wrong with a new name at token k -/
def nnF (n : Nat) (tp : Nat → Nat) (m : Nat) (np : Nat → Nat) (k : Nat) : Nat := if cnm (tW n tp k) = true then (if hasN n tp m np (ps n tp k) = true then 3 else 0) else 1
theorem eX_canName {W : Nat} (hW : W < 42) (σ : St) : rX_wcanName W σ = some (if cnm W = true then 1 else 0, σ) := by
  have h : ∀ W, W < 42 → (wdS.getD W 0 = (3 : Int32) ↔ cnm W = true) := by decide +kernel
  unfold rX_wcanName rX_wcanName_13
  rw [chk_t (decide_eq_true hW)]
  by_cases e : cnm W = true
  · rw [if_pos e, brc_f (fun h9 => h9 ((h W hW).mpr e)), chk_t (by decide)]
  · rw [if_neg e, brc_t (mt (h W hW).mp e), chk_t (by decide)]
theorem eX_isNewName {n : Nat} {tp : Nat → Nat} (hw : wfP n tp) {k S C m : Nat} {np idn : Nat → Nat} {σ : St} (h : KX n tp k σ) (hN : Nm n tp S C m np idn) (hX : XNm n tp m np idn σ) (h0 : σ.1 10 0 = I S) (h2 : σ.1 10 2 = I C) : wp (rX_isNewName σ) (fun r => (nnF n tp m np k = 0 ∧ cnm (tW n tp k) = true ∧ r = (1, σ)) ∨ (0 < nnF n tp m np k ∧ nnF n tp m np k ≤ 3 ∧ r = (0, setI σ 7 4 (I (nnF n tp m np k + 16 * ps n tp k))))) := by
  have hlt : tkW n tp (ps n tp k) < 42 := tkW_lt
  unfold rX_isNewName
  rw [h.2.2.2.2.1, chk_t (decide_eq_true hlt), eX_canName hlt, bnd2S]
  by_cases e : cnm (tkW n tp (ps n tp k)) = true
  · have ht := cnm_T hw h.2.1 e
    rw [if_pos e, brc_t (by decide), h0]
    have old : hasN n tp m np (ps n tp k) = true → wp (rX_isNewName_57 σ) (fun r => (nnF n tp m np k = 0 ∧ cnm (tW n tp k) = true ∧ r = (1, σ)) ∨ (0 < nnF n tp m np k ∧ nnF n tp m np k ≤ 3 ∧ r = (0, setI σ 7 4 (I (nnF n tp m np k + 16 * ps n tp k))))) := fun hh => by
      have e3 : nnF n tp m np k = 3 := by unfold nnF; rw [if_pos e, if_pos hh]
      unfold rX_isNewName_57
      rw [litN, eX_wrong h, bnd2S, chk_t (by decide), e3]
      exact wp_some (Or.inr ⟨by omega, by omega, rfl⟩)
    refine wp_bnd2 (wp_mono (eX_nameS h hN hX ht) ?_)
    rintro ⟨r, τ⟩ ⟨rfl, ⟨q, a, b, c, d⟩ | ⟨a, d⟩⟩
    · have d' : r = I (idn q) := d
      subst d'
      have hS := hN.1
      show wp (brc (¬ I (idn q) = -1) _ _) _
      rw [brc_t (by intro h9; have := congrArg Int32.toInt h9; rw [I_toInt (by omega)] at this; have h5 : (-1 : Int32).toInt = -1 := rfl; rw [h5] at this; omega)]
      exact old (hasN_t a c)
    · have d' : r = -1 := d
      subst d'
      show wp (brc (¬ (-1 : Int32) = -1) _ _) _
      rw [brc_f (fun h9 => h9 rfl), h2]
      refine wp_bnd2 (wp_mono (eX_nameC h hN hX ht) ?_)
      rintro ⟨r, υ⟩ ⟨rfl, ⟨q, a1, b1, c1, d1⟩ | ⟨a1, d1⟩⟩
      · have d' : r = I (idn q - 7) := d1
        subst d'
        have hb := (hN.2.2.2.1 q a1).2
        have hC := hN.2.1
        have hS := hN.1
        show wp (brc (I (idn q - 7) = -1) _ _) _
        rw [brc_f (by intro h9; have := congrArg Int32.toInt h9; rw [I_toInt (by omega)] at this; have h5 : (-1 : Int32).toInt = -1 := rfl; rw [h5] at this; omega)]
        exact old (hasN_t a1 c1)
      · have d' : r = -1 := d1
        subst d'
        show wp (brc ((-1 : Int32) = -1) _ _) _
        rw [brc_t rfl, chk_t (by decide)]
        refine wp_some (Or.inl ⟨?_, e, rfl⟩)
        unfold nnF
        rw [if_pos e, hasN_f (fun q hq => ?_), if_neg (by decide)]
        have hb := (hN.2.2.2.1 q hq).2
        rcases hb with hb | hb
        · exact a q hq hb
        · exact a1 q hq hb.1
  · have e1 : nnF n tp m np k = 1 := by unfold nnF; rw [if_neg e]
    rw [if_neg e, brc_f (by decide), I1, eX_wrong h, bnd2S, chk_t (by decide), e1]
    exact wp_some (Or.inr ⟨by omega, by omega, rfl⟩)
def nmM (σ τ : St) : Prop := (∀ i, i ≠ 0 → i ≠ 11 → τ.1 i = σ.1 i) ∧ (∀ j, j ≠ 7 → j ≠ 8 → j ≠ 17 → τ.1 0 j = σ.1 0 j) ∧ (∀ i, i ≠ 10 → τ.2.1 i = σ.2.1 i) ∧ τ.2.2 = σ.2.2
theorem RM_of {n : Nat} {tp : Nat → Nat} {N k F k' F' : Nat} {σ τ : St} (h : RM n tp N k F σ) (e2 : τ.1 2 = σ.1 2) (e3 : τ.1 3 = σ.1 3) (e4 : τ.2.1 4 = σ.2.1 4) (e5 : τ.2.1 5 = σ.2.1 5) (hk : k' ≤ N) (h7 : τ.1 0 7 = I k') (h8 : τ.1 0 8 = I F') : RM n tp N k' F' τ := by
  obtain ⟨⟨a1, a2, a3, a4, a5⟩, b1, b2, b3, b4⟩ := h
  refine ⟨⟨a1, fun q hq => ?_, a3, by rw [e3]; exact a4, by rw [e2]; exact a5⟩, hk, h7, h8, by rw [e5]; exact b4⟩
  rw [e3, e2, e4]
  exact a2 q hq
theorem eM_readName {n : Nat} {tp : Nat → Nat} (hw : wfP n tp) {N k S C m : Nat} {np idn : Nat → Nat} {σ : St} (h : RM n tp N k 0 σ) (hW : ¬ tW n tp k = 40) (hN : Nm n tp S C m np idn) (hM : MNm n tp m np idn σ) (hm : m < 13) {id : Nat} (hid : id < 13) : wp (rM_readName (I id) σ) (fun τ => nmM σ τ ∧ ((nnF n tp m np (k + 1) = 0 ∧ cnm (tW n tp (k + 1)) = true ∧ RM n tp N (k + 2) 0 τ ∧ MNm n tp (m + 1) (updN np m (ps n tp (k + 1))) (updN idn m id) τ) ∨ (0 < nnF n tp m np (k + 1) ∧ nnF n tp m np (k + 1) ≤ 3 ∧ RM n tp N (k + 1) (nnF n tp m np (k + 1) + 16 * ps n tp (k + 1)) τ ∧ MNm n tp m np idn τ))) := by
  have hk1 := wd_in h hW
  have h1 := RM_k h hk1
  have hM1 : MNm n tp m np idn (setI σ 0 7 (I (k + 1))) := ⟨by rw [gI_ne2 _ _ _ (by decide)]; exact hM.1, fun q hq => by rw [gI_ne1 _ _ _ (by decide)]; exact hM.2 q hq⟩
  have f1 : nmM σ (setI σ 0 7 (I (k + 1))) := ⟨fun i a _ => gI_ne1 _ _ _ a, fun j a _ _ => gI_ne2 _ _ _ a, fun _ _ => rfl, rfl⟩
  unfold rM_readName
  rw [nmE, h.2.2.1, I1, I_add]
  generalize setI σ 0 7 (I (k + 1)) = τ at h1 hM1 f1 ⊢
  have hn := hw.1
  have hp := (RM_tok h1).2.2.1
  have bad : ∀ v, 0 < v → v ≤ 3 → nnF n tp m np (k + 1) = v → wp (rM_readName_37 (I id) (setI τ 0 8 (I (v + 16 * ps n tp (k + 1))))) (fun τ => nmM σ τ ∧ ((nnF n tp m np (k + 1) = 0 ∧ cnm (tW n tp (k + 1)) = true ∧ RM n tp N (k + 2) 0 τ ∧ MNm n tp (m + 1) (updN np m (ps n tp (k + 1))) (updN idn m id) τ) ∨ (0 < nnF n tp m np (k + 1) ∧ nnF n tp m np (k + 1) ≤ 3 ∧ RM n tp N (k + 1) (nnF n tp m np (k + 1) + 16 * ps n tp (k + 1)) τ ∧ MNm n tp m np idn τ))) := fun v h0 h3 hv => by
    unfold rM_readName_37 rM_readName_92
    rw [gI_same, brc_t (by rw [I0, I_inj (by omega) (by omega)]; omega)]
    refine wp_some ⟨⟨fun i a b => (gI_ne1 _ _ _ a).trans (f1.1 i a b), fun j a b c => (gI_ne2 _ _ _ b).trans (f1.2.1 j a b c), f1.2.2.1, f1.2.2.2⟩, Or.inr ⟨by omega, by omega, by rw [hv]; exact RM_F h1 _, ?_⟩⟩
    exact ⟨by rw [gI_ne2 _ _ _ (by decide)]; exact hM1.1, fun q hq => by rw [gI_ne1 _ _ _ (by decide)]; exact hM1.2 q hq⟩
  refine wp_bnd2 (wp_mono (eM_isName hw h1) ?_)
  rintro r rfl
  show wp (brc (¬ (if cnm (tW n tp (k + 1)) = true then (1 : Int32) else 0) = 0) _ _) _
  by_cases e : cnm (tW n tp (k + 1)) = true
  · have ht := cnm_T hw hp e
    rw [if_pos e, brc_t (by decide)]
    refine wp_bnd2 (wp_mono (eM_find h1 hN hM1 ht) ?_)
    rintro ⟨r, υ⟩ ⟨rfl, ⟨q, a, b, c⟩ | ⟨a, b⟩⟩
    · have c' : r = I (idn q) := c
      subst c'
      have hb := (hN.2.2.2.1 q a).2
      have hC := hN.2.1
      have hS := hN.1
      show wp (brc (I (idn q) < 0) _ _) _
      rw [brc_f (by rw [I0, I_lt (by omega) (by omega)]; omega)]
      show wp (bnd1 (rM_wrong 3 υ) _) _
      rw [litN, eM_wrong h1, bnd1S]
      exact bad 3 (by omega) (by omega) (by unfold nnF; rw [if_pos e, if_pos (hasN_t a b)])
    · have b' : r = -1 := b
      subst b'
      have e0 : nnF n tp m np (k + 1) = 0 := by unfold nnF; rw [if_pos e, hasN_f a, if_neg (by decide)]
      have hb := (RM_tok h1).2.2.2 ht.1
      have hN1 := h1.1.1
      show wp (brc ((-1 : Int32) < 0) _ _) _
      rw [brc_t (by decide)]
      show wp (rM_readName_37 (I id) υ) _
      unfold rM_readName_37 rM_readName_92
      rw [h1.2.2.2.1, brc_f (by rw [I0]; exact fun h => h rfl), h1.2.2.1, chk_t (ib_I (by omega) (by omega)), hM1.1, chk_t (ib_I hm (by omega)), I_cl (by omega), I_cl (by omega), nmE]
      have z1 : ∀ j, (setJ υ 10 m (υ.2.1 4 (k + 1))).1 0 j = υ.1 0 j := fun j => rfl
      rw [z1, hM1.1, chk_t (ib_I hm (by omega)), I_cl (by omega), nmE, nmE, gI_ne1 _ _ _ (show (0 : Nat) ≠ 11 by decide), z1, hM1.1, I1, I_add, nmE, gI_ne2 _ _ _ (show (7 : Nat) ≠ 17 by decide), gI_ne1 _ _ _ (show (0 : Nat) ≠ 11 by decide), z1, h1.2.2.1, I_add]
      refine wp_some ⟨⟨fun i a b => ?_, fun j a b c => ?_, fun i a => ?_, f1.2.2.2⟩, Or.inl ⟨e0, e, ?_, ?_, fun q hq => ?_⟩⟩
      · rw [gI_ne1 _ _ _ a, gI_ne1 _ _ _ a, gI_ne1 _ _ _ b]; exact f1.1 i a b
      · rw [gI_ne2 _ _ _ a, gI_ne2 _ _ _ c, gI_ne1 _ _ _ (by decide)]; exact f1.2.1 j a b c
      · exact (gJ_ne1 _ _ _ a).trans (f1.2.2.1 i a)
      · refine RM_of (k' := k + 2) (F' := 0) h1 ?_ ?_ ?_ ?_ (by omega) (gI_same _ _ _ _) ?_
        · rw [gI_ne1 _ _ _ (by decide), gI_ne1 _ _ _ (by decide), gI_ne1 _ _ _ (by decide), gJ_1]
        · rw [gI_ne1 _ _ _ (by decide), gI_ne1 _ _ _ (by decide), gI_ne1 _ _ _ (by decide), gJ_1]
        · exact gJ_ne1 _ _ _ (by decide)
        · exact gJ_ne1 _ _ _ (by decide)
        · rw [gI_ne2 _ _ _ (by decide), gI_ne2 _ _ _ (by decide), gI_ne1 _ _ _ (by decide), gJ_1]; exact h1.2.2.2.1
      · rw [gI_ne2 _ _ _ (by decide), gI_same]
      · rw [gI_ne1 _ _ _ (show (11 : Nat) ≠ 0 by decide), gI_ne1 _ _ _ (show (11 : Nat) ≠ 0 by decide)]
        show (setJ υ 10 m (υ.2.1 4 (k + 1))).2.1 10 q = _ ∧ _
        by_cases eq : q = m
        · subst eq
          rw [gJ_same, gI_same, updN_s, updN_s]
          exact ⟨hb.2, rfl⟩
        · rw [gJ_ne2 _ _ _ eq, gI_ne2 _ _ _ eq, updN_n _ _ eq, updN_n _ _ eq, gJ_1]
          exact hM1.2 q (by omega)
  · rw [if_neg e, brc_f (by decide)]
    show wp (bnd1 (rM_wrong 1 τ) _) _
    rw [I1, eM_wrong h1, bnd1S]
    exact bad 1 (by omega) (by omega) (by unfold nnF; rw [if_neg e])
