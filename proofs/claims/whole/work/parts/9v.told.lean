/-! names that were told -/
def fdI (n : Nat) (tp : Nat → Nat) (np idn : Nat → Nat) (i : Nat) : Nat → Nat
  | 0 => 13
  | m + 1 => if c8 n tp (np m) = c8 n tp i then idn m else fdI n tp np idn i m
theorem fdI_no {n : Nat} {tp : Nat → Nat} {np idn : Nat → Nat} {i : Nat} : ∀ (m : Nat), (∀ q, q < m → ¬ c8 n tp (np q) = c8 n tp i) → fdI n tp np idn i m = 13
  | 0, _ => rfl
  | m + 1, h => by
    show (if c8 n tp (np m) = c8 n tp i then idn m else fdI n tp np idn i m) = 13
    rw [if_neg (h m (by omega))]
    exact fdI_no m (fun q hq => h q (by omega))
theorem fdI_yes {n : Nat} {tp : Nat → Nat} {np idn : Nat → Nat} {i q : Nat} : ∀ (m : Nat), (∀ q, q < m → ∀ q', q' < m → c8 n tp (np q) = c8 n tp (np q') → q = q') → q < m → c8 n tp (np q) = c8 n tp i → fdI n tp np idn i m = idn q
  | 0, _, h, _ => absurd h (by omega)
  | m + 1, hu, hq, he => by
    show (if c8 n tp (np m) = c8 n tp i then idn m else fdI n tp np idn i m) = idn q
    by_cases e : c8 n tp (np m) = c8 n tp i
    · rw [if_pos e, hu m (by omega) q hq (e.trans he.symm)]
    · rw [if_neg e]
      by_cases e2 : q = m
      · rw [e2] at he; exact absurd he e
      · exact fdI_yes m (fun a ha b hb => hu a (by omega) b (by omega)) (by omega) he
/-- what is wrong with a told name at token k: base b, at most l of them -/
def tdF (n : Nat) (tp : Nat → Nat) (m : Nat) (np idn : Nat → Nat) (k b l : Nat) : Nat := if cnm (tW n tp k) = true then (if b ≤ fdI n tp np idn (ps n tp k) m ∧ fdI n tp np idn (ps n tp k) m < b + l then 0 else 2) else 1
theorem m1_ne {v : Nat} (hv : v < 2147483648) : ¬ I v = -1 := by
  intro h9
  have := congrArg Int32.toInt h9
  rw [I_toInt hv] at this
  have h5 : (-1 : Int32).toInt = -1 := rfl
  rw [h5] at this
  omega
theorem eX_toldS {n : Nat} {tp : Nat → Nat} (hw : wfP n tp) {k S C m : Nat} {np idn : Nat → Nat} {σ : St} (h : KX n tp k σ) (hN : Nm n tp S C m np idn) (hX : XNm n tp m np idn σ) : wp (rX_isToldS (I S) σ) (fun r => (tdF n tp m np idn k 0 7 = 0 ∧ cnm (tW n tp k) = true ∧ r = (1, σ)) ∨ (0 < tdF n tp m np idn k 0 7 ∧ tdF n tp m np idn k 0 7 ≤ 2 ∧ r = (0, setI σ 7 4 (I (tdF n tp m np idn k 0 7 + 16 * ps n tp k))))) := by
  have hlt : tkW n tp (ps n tp k) < 42 := tkW_lt
  have hS := hN.1
  unfold rX_isToldS
  rw [h.2.2.2.2.1, chk_t (decide_eq_true hlt), eX_canName hlt, bnd2S]
  by_cases e : cnm (tkW n tp (ps n tp k)) = true
  · have ht := cnm_T hw h.2.1 e
    rw [if_pos e, brc_t (by decide)]
    refine wp_bnd2 (wp_mono (eX_nameS h hN hX ht) ?_)
    rintro ⟨r, τ⟩ ⟨rfl, ⟨q, a, b, c, d⟩ | ⟨a, d⟩⟩
    · have d' : r = I (idn q) := d
      subst d'
      have ef := fdI_yes (idn := idn) m hN.2.2.2.2.2.2 a c
      show wp (brc (¬ I (idn q) = -1) _ _) _
      rw [brc_t (m1_ne (by omega)), chk_t (by decide)]
      exact wp_some (Or.inl ⟨by unfold tdF; rw [if_pos e, ef, if_pos (by omega)], e, rfl⟩)
    · have d' : r = -1 := d
      subst d'
      have ef : ¬ fdI n tp np idn (ps n tp k) m < 7 := by
        intro h9
        by_cases hh : ∀ q, q < m → ¬ c8 n tp (np q) = c8 n tp (ps n tp k)
        · rw [fdI_no m hh] at h9; omega
        · apply hh
          intro q hq hc
          have e1 := fdI_yes (idn := idn) m hN.2.2.2.2.2.2 hq hc
          rw [e1] at h9
          have := (hN.2.2.2.1 q hq).2
          exact a q hq (by omega) hc
      have e2 : tdF n tp m np idn k 0 7 = 2 := by unfold tdF; rw [if_pos e, if_neg (by omega)]
      show wp (brc (¬ (-1 : Int32) = -1) _ _) _
      rw [brc_f (fun h9 => h9 rfl)]
      show wp (bnd2 (rX_wrong 2 τ) _) _
      rw [litN, eX_wrong h, bnd2S, chk_t (by decide), e2]
      exact wp_some (Or.inr ⟨by omega, by omega, rfl⟩)
  · have e1 : tdF n tp m np idn k 0 7 = 1 := by unfold tdF; rw [if_neg e]
    rw [if_neg e, brc_f (by decide), I1, eX_wrong h, bnd2S, chk_t (by decide), e1]
    exact wp_some (Or.inr ⟨by omega, by omega, rfl⟩)
theorem eX_toldC {n : Nat} {tp : Nat → Nat} (hw : wfP n tp) {k S C m : Nat} {np idn : Nat → Nat} {σ : St} (h : KX n tp k σ) (hN : Nm n tp S C m np idn) (hX : XNm n tp m np idn σ) : wp (rX_isToldC (I C) σ) (fun r => (tdF n tp m np idn k 7 6 = 0 ∧ cnm (tW n tp k) = true ∧ r = (1, σ)) ∨ (0 < tdF n tp m np idn k 7 6 ∧ tdF n tp m np idn k 7 6 ≤ 2 ∧ r = (0, setI σ 7 4 (I (tdF n tp m np idn k 7 6 + 16 * ps n tp k))))) := by
  have hlt : tkW n tp (ps n tp k) < 42 := tkW_lt
  have hS := hN.1
  have hC := hN.2.1
  unfold rX_isToldC
  rw [h.2.2.2.2.1, chk_t (decide_eq_true hlt), eX_canName hlt, bnd2S]
  by_cases e : cnm (tkW n tp (ps n tp k)) = true
  · have ht := cnm_T hw h.2.1 e
    rw [if_pos e, brc_t (by decide)]
    refine wp_bnd2 (wp_mono (eX_nameC h hN hX ht) ?_)
    rintro ⟨r, τ⟩ ⟨rfl, ⟨q, a, b, c, d⟩ | ⟨a, d⟩⟩
    · have d' : r = I (idn q - 7) := d
      subst d'
      have hb := (hN.2.2.2.1 q a).2
      have ef := fdI_yes (idn := idn) m hN.2.2.2.2.2.2 a c
      show wp (brc (¬ I (idn q - 7) = -1) _ _) _
      rw [brc_t (m1_ne (by omega)), chk_t (by decide)]
      exact wp_some (Or.inl ⟨by unfold tdF; rw [if_pos e, ef, if_pos (by omega)], e, rfl⟩)
    · have d' : r = -1 := d
      subst d'
      have ef : ¬ (7 ≤ fdI n tp np idn (ps n tp k) m ∧ fdI n tp np idn (ps n tp k) m < 13) := by
        intro h9
        by_cases hh : ∀ q, q < m → ¬ c8 n tp (np q) = c8 n tp (ps n tp k)
        · rw [fdI_no m hh] at h9; omega
        · apply hh
          intro q hq hc
          have e1 := fdI_yes (idn := idn) m hN.2.2.2.2.2.2 hq hc
          rw [e1] at h9
          exact a q hq (by omega) hc
      have e2 : tdF n tp m np idn k 7 6 = 2 := by unfold tdF; rw [if_pos e, if_neg ef]
      show wp (brc (¬ (-1 : Int32) = -1) _ _) _
      rw [brc_f (fun h9 => h9 rfl)]
      show wp (bnd2 (rX_wrong 2 τ) _) _
      rw [litN, eX_wrong h, bnd2S, chk_t (by decide), e2]
      exact wp_some (Or.inr ⟨by omega, by omega, rfl⟩)
  · have e1 : tdF n tp m np idn k 7 6 = 1 := by unfold tdF; rw [if_neg e]
    rw [if_neg e, brc_f (by decide), I1, eX_wrong h, bnd2S, chk_t (by decide), e1]
    exact wp_some (Or.inr ⟨by omega, by omega, rfl⟩)
