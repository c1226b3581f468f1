/-! all tokens of the reference -/
def ctM (σ τ : St) : Prop := (∀ i, i ≠ 0 → i ≠ 2 → i ≠ 3 → τ.1 i = σ.1 i) ∧ (∀ j, j ≠ 2 → j ≠ 3 → j ≠ 7 → j ≠ 8 → τ.1 0 j = σ.1 0 j) ∧ (∀ i, i ≠ 4 → τ.2.1 i = σ.2.1 i) ∧ τ.2.2 = σ.2.2
theorem ctM_refl {σ : St} : ctM σ σ := ⟨fun _ _ _ _ => rfl, fun _ _ _ _ _ => rfl, fun _ _ => rfl, rfl⟩
theorem ctM_tr {σ τ υ : St} (h1 : ctM σ τ) (h2 : ctM τ υ) : ctM σ υ :=
  ⟨fun i a b c => (h2.1 i a b c).trans (h1.1 i a b c), fun j a b c d => (h2.2.1 j a b c d).trans (h1.2.1 j a b c d), fun i h => (h2.2.2.1 i h).trans (h1.2.2.1 i h), h2.2.2.2.trans h1.2.2.2⟩
theorem ctM_0 {σ τ : St} (h : ctM σ τ) {j : Nat} (v : Int32) (hj : j = 2 ∨ j = 3 ∨ j = 7 ∨ j = 8) : ctM σ (setI τ 0 j v) :=
  ctM_tr h ⟨fun i a b c => gI_ne1 _ _ _ a, fun q a b c d => gI_ne2 _ _ _ (by omega), fun _ _ => rfl, rfl⟩
theorem ctM_c {σ τ : St} (h : ctM σ τ) {i j : Nat} (v : Int32) (hj : i = 2 ∨ i = 3) : ctM σ (setI τ i j v) :=
  ctM_tr h ⟨fun q a b c => gI_ne1 _ _ _ (by omega), fun q a b c d => by rw [gI_ne1 _ _ _ (by omega)], fun _ _ => rfl, rfl⟩
theorem ctM_J {σ τ : St} (h : ctM σ τ) {j : Nat} (v : Int64) : ctM σ (setJ τ 4 j v) :=
  ctM_tr h ⟨fun _ _ _ _ => rfl, fun _ _ _ _ _ => rfl, fun i hi => gJ_ne1 _ _ _ hi, rfl⟩
theorem tkE_gt {n : Nat} {tp : Nat → Nat} {i : Nat} (h : i < n) : i < tkE n tp i := by
  unfold tkE
  rw [if_pos h]
  split
  · rename_i h1
    rw [tkR_in h h1]
    have := tkR_b (p := pL tp) (n := n) (i := i + 1) (by omega)
    omega
  · split
    · rename_i h1
      rw [tkR_in h h1]
      have := tkR_b (p := pD tp) (n := n) (i := i + 1) (by omega)
      omega
    · omega
/-- k tokens are laid down -/
def MS (n : Nat) (tp : Nat → Nat) (k : Nat) (σ : St) : Prop := ∀ q, q < k → σ.1 3 q = I (ps n tp q) ∧ σ.1 2 q = I (tkS n tp (ps n tp q)) ∧ σ.2.1 4 q = Int64.ofNat (tkV n tp (ps n tp q)) ∧ ps n tp q < n
def MTk (n : Nat) (tp : Nat → Nat) (N : Nat) (σ : St) : Prop := N ≤ 1000 ∧ MS n tp N σ ∧ ps n tp N = n ∧ σ.1 3 N = I n ∧ σ.1 2 N = I 0
theorem MS_s {n : Nat} {tp : Nat → Nat} {k v : Nat} {τ : St} (h : MS n tp k τ) (hv : ps n tp k = v) (hvn : v < n) : MS n tp (k + 1) (setJ (setI (setI τ 3 k (I v)) 2 k (I (tkS n tp v))) 4 k (Int64.ofNat (tkV n tp v))) := by
  intro q hq
  rw [gJ_1]
  by_cases e : q = k
  · subst e
    rw [hv, gI_same, gJ_same, gI_ne1 _ _ _ (show (3 : Nat) ≠ 2 by decide), gI_same]
    exact ⟨rfl, rfl, rfl, hvn⟩
  · have h' := h q (by omega)
    rw [gJ_ne2 _ _ _ e, gI_ne2 _ _ _ e, gI_ne1 _ _ _ (show (3 : Nat) ≠ 2 by decide), gI_ne2 _ _ _ e, gI_ne1 _ _ _ (show (2 : Nat) ≠ 3 by decide)]
    exact h'
theorem eM_cutAll {n : Nat} {tp : Nat → Nat} {σ : St} (hw : wfP n tp) (hx : MP n tp σ) : wp (rM_cutAll σ) (fun τ => (∃ N, MTk n tp N τ) ∧ τ.1 0 2 = I 0 ∧ τ.1 0 3 = I n ∧ τ.1 0 7 = I 0 ∧ τ.1 0 8 = I 0 ∧ ctM σ τ) := by
  have hn := hw.1
  unfold rM_cutAll
  rw [nmE, nmE, nmE, nmE, hx.1]
  have f0 : ctM σ (setI (setI σ 0 3 (I n)) 0 2 0) := ctM_0 (ctM_0 ctM_refl _ (by omega)) _ (by omega)
  have c0 : CP n tp (setI (setI σ 0 3 (I n)) 0 2 0) := ⟨by rw [gI_ne2 _ _ _ (by decide), gI_same], fun i hi => by rw [gI_ne1 _ _ _ (by decide), gI_ne1 _ _ _ (by decide)]; exact hx.2 i hi⟩
  have z0 : (setI (setI σ 0 3 (I n)) 0 2 0).1 0 2 = I 0 := by rw [gI_same, I0]
  refine wp_lp (fun m a => ∃ k v τ, v + m = n ∧ k ≤ v ∧ tkR (pB tp) n v = ps n tp k ∧ MS n tp k τ ∧ CP n tp τ ∧ τ.1 0 2 = I 0 ∧ ctM σ τ ∧ a = (I k, I v, τ)) ?_ fu n _ (by unfold fu; omega) ⟨0, 0, _, by omega, by omega, rfl, fun q hq => absurd hq (by omega), c0, z0, f0, by rw [I0]⟩
  rintro m a kk ⟨k, v, τ, hvm, hkv, hps, hms, hcp, hz, f, rfl⟩ hgo
  show wp (rM_cutAll_17 (fun v1 v2 σ => kk (v1, v2, σ)) (I k) (I v) τ) _
  unfold rM_cutAll_17
  rw [hcp.1]
  refine wp_brc (fun h => ?_) (fun h => ?_)
  · rw [I_le (by omega) (by omega)] at h
    have hv : v = n := by omega
    rw [tkR_out (by omega)] at hps
    rw [chk_t (ib_I (by omega) (by omega)), I_cl (by omega), nmE, chk_t (ib_I (by omega) (by omega)), nmE, nmE, nmE, gI_ne1 _ _ _ (show (0 : Nat) ≠ 2 by decide), hcp.1]
    refine wp_some ⟨⟨k, by omega, fun q hq => ?_, by omega, ?_, ?_⟩, ?_, ?_, ?_, ?_, ?_⟩
    · have h' := hms q hq
      rw [gI_ne1 _ _ _ (show (3 : Nat) ≠ 0 by decide), gI_ne1 _ _ _ (show (3 : Nat) ≠ 0 by decide), gI_ne1 _ _ _ (show (2 : Nat) ≠ 0 by decide), gI_ne1 _ _ _ (show (2 : Nat) ≠ 0 by decide), gI_ne2 _ _ _ (show q ≠ k by omega), gI_ne1 _ _ _ (show (3 : Nat) ≠ 2 by decide), gI_ne1 _ _ _ (show (2 : Nat) ≠ 3 by decide), gI_ne2 _ _ _ (show q ≠ k by omega)]
      exact h'
    · rw [gI_ne1 _ _ _ (show (3 : Nat) ≠ 0 by decide), gI_ne1 _ _ _ (show (3 : Nat) ≠ 0 by decide), gI_same]
    · rw [gI_ne1 _ _ _ (show (2 : Nat) ≠ 0 by decide), gI_ne1 _ _ _ (show (2 : Nat) ≠ 0 by decide), gI_ne1 _ _ _ (show (2 : Nat) ≠ 3 by decide), gI_same, I0]
    · rw [gI_ne2 _ _ _ (show (2 : Nat) ≠ 8 by decide), gI_ne2 _ _ _ (show (2 : Nat) ≠ 7 by decide), gI_ne1 _ _ _ (show (0 : Nat) ≠ 3 by decide), gI_ne1 _ _ _ (show (0 : Nat) ≠ 2 by decide)]
      exact hz
    · rw [gI_ne2 _ _ _ (show (3 : Nat) ≠ 8 by decide), gI_ne2 _ _ _ (show (3 : Nat) ≠ 7 by decide), gI_ne1 _ _ _ (show (0 : Nat) ≠ 3 by decide), gI_ne1 _ _ _ (show (0 : Nat) ≠ 2 by decide)]
      exact hcp.1
    · rw [gI_ne2 _ _ _ (show (7 : Nat) ≠ 8 by decide), gI_same, I0]
    · rw [gI_same, I0]
    · exact ctM_0 (ctM_0 (ctM_c (ctM_c f _ (by omega)) _ (by omega)) _ (by omega)) _ (by omega)
  · rw [I_le (by omega) (by omega)] at h
    have hv : v < n := by omega
    have hb := tp_lt hw hv
    rw [chk_t (ib_I (by omega) (by omega)), I_cl (by omega), hcp.2 v hv, nmE]
    have skip : pB tp v = true → wp (rM_cutAll_44 (fun v1 v2 σ => kk (v1, v2, σ)) (I k) (I v) τ) (fun τ => (∃ N, MTk n tp N τ) ∧ τ.1 0 2 = I 0 ∧ τ.1 0 3 = I n ∧ τ.1 0 7 = I 0 ∧ τ.1 0 8 = I 0 ∧ ctM σ τ) := fun hp => by
      unfold rM_cutAll_44
      rw [nmE, oi1, I_add]
      exact hgo (m - 1) _ (by omega) ⟨k, v + 1, τ, by omega, by omega, by rw [← tkR_in hv hp]; exact hps, hms, hcp, hz, f, rfl⟩
    refine wp_brc (fun h1 => ?_) (fun h1 => ?_)
    · rw [litN, I_inj (by omega) (by omega)] at h1
      exact skip (decide_eq_true (Or.inr h1))
    · rw [litN, I_inj (by omega) (by omega)] at h1
      refine wp_brc (fun h2 => ?_) (fun h2 => ?_)
      · rw [litN, I_inj (by omega) (by omega)] at h2
        have hnb : ¬ (v < n ∧ pB tp v = true) := fun h9 => by have := of_decide_eq_true h9.2; omega
        rw [tkR_out hnb] at hps
        rw [nmE, nmE, chk_t (ib_I (by omega) (by omega)), nmE, I_cl (by omega)]
        have ms1 := MS_s hms hps.symm hv
        have f1 : ctM σ (setI τ 3 k (I v)) := ctM_c f _ (by omega)
        have cp1 : CP n tp (setI τ 3 k (I v)) := ⟨by rw [gI_ne1 _ _ _ (by decide)]; exact hcp.1, fun i hi => by rw [gI_ne1 _ _ _ (by decide)]; exact hcp.2 i hi⟩
        have fin : wp (kk (I (k + 1), I (tkE n tp v), setJ (setI (setI τ 3 k (I v)) 2 k (I (tkS n tp v))) 4 k (Int64.ofNat (tkV n tp v)))) (fun τ => (∃ N, MTk n tp N τ) ∧ τ.1 0 2 = I 0 ∧ τ.1 0 3 = I n ∧ τ.1 0 7 = I 0 ∧ τ.1 0 8 = I 0 ∧ ctM σ τ) := by
          have g1 := tkE_gt (tp := tp) hv
          have g2 := (tkE_b (tp := tp) (show v ≤ n by omega)).2
          refine hgo (n - tkE n tp v) _ (by omega) ⟨k + 1, tkE n tp v, _, by omega, by omega, ?_, ms1, ⟨?_, fun i hi => ?_⟩, ?_, ctM_J (ctM_c f1 _ (by omega)) _, rfl⟩
          · show _ = nxt n tp (ps n tp k)
            rw [← hps]; rfl
          · rw [gJ_1, gI_ne1 _ _ _ (by decide)]; exact cp1.1
          · rw [gJ_1, gI_ne1 _ _ _ (by decide)]; exact cp1.2 i hi
          · rw [gJ_1, gI_ne1 _ _ _ (by decide), gI_ne1 _ _ _ (by decide)]; exact hz
        rw [eM_isLetter hb, bnd2S]
        by_cases hl : pL tp v = true
        · rw [if_pos hl, brc_f (by decide)]
          exact eM_c70 hw cp1 hv (by omega) hl fin
        · rw [if_neg hl, brc_t rfl, eM_isDigit hb, bnd2S]
          by_cases hd : pD tp v = true
          · rw [if_pos hd, brc_f (by decide)]
            exact eM_c159 hw cp1 hv (by omega) hl hd fin
          · have hJ : (I (tp v)).toInt64 = Int64.ofNat (tp v) := by
              have h : ∀ b, b < 200 → (I b).toInt64 = Int64.ofNat b := by decide +kernel
              exact h _ hb
            rw [if_neg hd, brc_t rfl, nmE, eM_isSignOf hb, bnd2S, hJ]
            have eE : tkE n tp v = v + 1 := by unfold tkE; rw [if_pos hv, if_neg hl, if_neg hd]
            have eV : tkV n tp v = tp v := by unfold tkV; rw [if_neg hl, if_neg hd]
            have eS : tkS n tp v = if sgn (tp v) = true then 3 else 4 := by unfold tkS; rw [if_pos hv, if_neg hl, if_neg hd]
            rw [eE, eV, eS] at fin
            unfold rM_cutAll_261 rM_cutAll_265
            by_cases hs : sgn (tp v) = true
            · rw [if_pos hs] at fin
              rw [if_pos hs, brc_f (by decide), chk_t (ib_I (by omega) (by omega)), nmE, nmE, chk_t (ib_I (by omega) (by omega)), nmE, nmE, I_cl (by omega), oi1, I_add, I_add]
              exact fin
            · rw [if_neg hs] at fin
              rw [if_neg hs, brc_t rfl, chk_t (ib_I (by omega) (by omega)), nmE, nmE, chk_t (ib_I (by omega) (by omega)), nmE, nmE, I_cl (by omega), oi1, I_add, I_add]
              exact fin
      · have h3 := Classical.not_not.mp h2
        rw [litN, I_inj (by omega) (by omega)] at h3
        exact skip (decide_eq_true (Or.inl h3))
