/-! names: q-th name told stands at np q on the tape and names station idn q or carrier idn q - 7 -/
def nmT (n : Nat) (tp : Nat → Nat) (i : Nat) : Prop := i < n ∧ pL tp i = true ∧ tkM n tp i ≤ 8
def c7 (n : Nat) (tp : Nat → Nat) (i : Nat) : Int64 := Int64.ofNat (tkV n tp i)
def c8 (n : Nat) (tp : Nat → Nat) (i : Nat) : Int64 := Int64.ofNat (cdF 128 tp i (tkM n tp i))
theorem nmT_V {n : Nat} {tp : Nat → Nat} {i : Nat} (h : nmT n tp i) : tkV n tp i = cdF 37 (fun q => tp q - 96) i (tkM n tp i) := by
  unfold tkV
  rw [if_pos h.2.1, Nat.min_eq_left h.2.2]
theorem c7_iff {n : Nat} {tp : Nat → Nat} {i j : Nat} (hi : nmT n tp i) (hj : nmT n tp j) : c7 n tp i = c7 n tp j ↔ c8 n tp i = c8 n tp j := by
  unfold c7 c8
  rw [nmT_V hi, nmT_V hj]
  exact tk_same hi.2.2 hj.2.2
/-- a token that can be a name -/
theorem cnm_T {n : Nat} {tp : Nat → Nat} (hw : wfP n tp) {i : Nat} (hi : i ≤ n) (h : cnm (tkW n tp i) = true) : nmT n tp i := by
  have h9 := of_decide_eq_true h
  rcases tk_cases hw hi with ⟨a1, a2, a3⟩ | ⟨a1, a2, a3, a4, a5, a6⟩ | ⟨a1, a2, a3, a4, a5, a6, a7⟩ | ⟨a1, a2, a3, a4, a5⟩ | ⟨a1, a2, a3⟩
  · omega
  · exact ⟨a2, a3, a4⟩
  · omega
  · have := sgo_b (tp i)
    omega
  · omega
def Nm (n : Nat) (tp : Nat → Nat) (S C m : Nat) (np idn : Nat → Nat) : Prop := S ≤ 7 ∧ C ≤ 6 ∧ m = S + C ∧ (∀ q, q < m → nmT n tp (np q) ∧ (idn q < S ∨ (7 ≤ idn q ∧ idn q < 7 + C))) ∧ (∀ s, s < S → ∃ q, q < m ∧ idn q = s) ∧ (∀ c, c < C → ∃ q, q < m ∧ idn q = 7 + c) ∧ (∀ q, q < m → ∀ q', q' < m → c8 n tp (np q) = c8 n tp (np q') → q = q')
def XNm (n : Nat) (tp : Nat → Nat) (m : Nat) (np idn : Nat → Nat) (σ : St) : Prop := ∀ q, q < m → (idn q < 7 → σ.2.1 8 (idn q) = c8 n tp (np q)) ∧ (7 ≤ idn q → σ.2.1 9 (idn q - 7) = c8 n tp (np q))
def MNm (n : Nat) (tp : Nat → Nat) (m : Nat) (np idn : Nat → Nat) (σ : St) : Prop := σ.1 0 17 = I m ∧ ∀ q, q < m → σ.2.1 10 q = c7 n tp (np q) ∧ σ.1 11 q = I (idn q)
theorem eM_find {n : Nat} {tp : Nat → Nat} {N k S C m : Nat} {np idn : Nat → Nat} {σ : St} (h : RM n tp N k 0 σ) (hN : Nm n tp S C m np idn) (hM : MNm n tp m np idn σ) (ht : nmT n tp (ps n tp k)) : wp (rM_find σ) (fun r => r.2 = σ ∧ ((∃ q, q < m ∧ c8 n tp (np q) = c8 n tp (ps n tp k) ∧ r.1 = I (idn q)) ∨ ((∀ q, q < m → ¬ c8 n tp (np q) = c8 n tp (ps n tp k)) ∧ r.1 = -1))) := by
  have hb := (RM_tok h).2.2.2 ht.1
  have hk := h.1.1
  have hm : m ≤ 13 := by have := hN.1; have := hN.2.1; have := hN.2.2.1; omega
  unfold rM_find
  rw [nmE]
  refine wp_for (fun d a => ∃ v, v + d = m ∧ (∀ q, q < v → ¬ c8 n tp (np q) = c8 n tp (ps n tp k)) ∧ a = (I v, σ)) ?_ ?_ m fu _ ⟨0, by omega, fun q hq => absurd hq (by omega), by rw [I0]⟩ (by unfold fu; omega)
  · rintro d a kk ⟨v, hv, hno, rfl⟩ hgo
    show wp (rM_find_2 (fun v1 σ => kk (v1, σ)) (I v) σ) _
    unfold rM_find_2
    have hq := hM.2 v (by omega)
    have e := c7_iff (hN.2.2.2.1 v (by omega)).1 ht
    have e4 : σ.2.1 4 k = c7 n tp (ps n tp k) := hb.2
    rw [hM.1, brc_f (by rw [I_le (by omega) (by omega)]; omega), chk_t (ib_I (by omega) (by omega)), h.2.2.1, chk_t (ib_I (by omega) (by omega)), I_cl (by omega), I_cl (by omega), hq.1, e4]
    refine wp_brc (fun h1 => ?_) (fun h1 => ?_)
    · rw [nmE, oi1, I_add]
      refine hgo _ ⟨v + 1, by omega, fun q hq => ?_, rfl⟩
      by_cases e9 : q = v
      · rw [e9]; exact fun h9 => h1 ((lg0 _ _).mpr (e.mpr h9))
      · exact hno q (by omega)
    · rw [chk_t (ib_I (by omega) (by omega)), hq.2]
      exact wp_some ⟨rfl, Or.inl ⟨v, by omega, e.mp ((lg0 _ _).mp (Classical.not_not.mp h1)), rfl⟩⟩
  · rintro a kk ⟨v, hv, hno, rfl⟩
    show wp (rM_find_2 (fun v1 σ => kk (v1, σ)) (I v) σ) _
    unfold rM_find_2
    rw [hM.1, brc_t (by rw [I_le (by omega) (by omega)]; omega)]
    exact wp_some ⟨rfl, Or.inr ⟨fun q hq => hno q (by omega), rfl⟩⟩
theorem eX_plS {S : Nat} (hS : S ≤ 7) (σ : St) : wp (rX_placeOfS (I S) σ) (fun r => r.2 = σ ∧ ((∃ s, s < S ∧ σ.2.1 8 s = σ.2.1 5 6 ∧ r.1 = I s) ∨ ((∀ s, s < S → ¬ σ.2.1 8 s = σ.2.1 5 6) ∧ r.1 = -1))) := by
  unfold rX_placeOfS
  rw [nmE]
  refine wp_for (fun d a => ∃ v, v + d = S ∧ (∀ q, q < v → ¬ σ.2.1 8 q = σ.2.1 5 6) ∧ a = (I S, I v, σ)) ?_ ?_ S fu _ ⟨0, by omega, fun q hq => absurd hq (by omega), by rw [I0]⟩ (by unfold fu; omega)
  · rintro d a kk ⟨v, hv, hno, rfl⟩ hgo
    show wp (rX_placeOfS_2 (fun v2 v3 σ => kk (v2, v3, σ)) (I S) (I v) σ) _
    unfold rX_placeOfS_2
    rw [nI_I, brc_f (by rw [I_le (by omega) (by omega)]; omega), brc_f (by rw [I_le (by omega) (by omega)]; omega), chk_t (ib_I (by omega) (by omega)), I_cl (by omega)]
    refine wp_brc (fun h1 => ?_) (fun h1 => ?_)
    · rw [nmE, oi1, I_add]
      refine hgo _ ⟨v + 1, by omega, fun q hq => ?_, rfl⟩
      by_cases e9 : q = v
      · rw [e9]; exact fun h9 => h1 ((lg0 _ _).mpr h9)
      · exact hno q (by omega)
    · exact wp_some ⟨rfl, Or.inl ⟨v, by omega, (lg0 _ _).mp (Classical.not_not.mp h1), rfl⟩⟩
  · rintro a kk ⟨v, hv, hno, rfl⟩
    show wp (rX_placeOfS_2 (fun v2 v3 σ => kk (v2, v3, σ)) (I S) (I v) σ) _
    unfold rX_placeOfS_2 rX_placeOfS_35
    rw [brc_t (by rw [I_le (by omega) (by omega)]; omega)]
    exact wp_some ⟨rfl, Or.inr ⟨fun q hq => hno q (by omega), rfl⟩⟩
theorem eX_plC {S : Nat} (hS : S ≤ 6) (σ : St) : wp (rX_placeOfC (I S) σ) (fun r => r.2 = σ ∧ ((∃ s, s < S ∧ σ.2.1 9 s = σ.2.1 5 6 ∧ r.1 = I s) ∨ ((∀ s, s < S → ¬ σ.2.1 9 s = σ.2.1 5 6) ∧ r.1 = -1))) := by
  unfold rX_placeOfC
  rw [nmE]
  refine wp_for (fun d a => ∃ v, v + d = S ∧ (∀ q, q < v → ¬ σ.2.1 9 q = σ.2.1 5 6) ∧ a = (I S, I v, σ)) ?_ ?_ S fu _ ⟨0, by omega, fun q hq => absurd hq (by omega), by rw [I0]⟩ (by unfold fu; omega)
  · rintro d a kk ⟨v, hv, hno, rfl⟩ hgo
    show wp (rX_placeOfC_2 (fun v2 v3 σ => kk (v2, v3, σ)) (I S) (I v) σ) _
    unfold rX_placeOfC_2
    rw [nI_I, brc_f (by rw [I_le (by omega) (by omega)]; omega), brc_f (by rw [I_le (by omega) (by omega)]; omega), chk_t (ib_I (by omega) (by omega)), I_cl (by omega)]
    refine wp_brc (fun h1 => ?_) (fun h1 => ?_)
    · rw [nmE, oi1, I_add]
      refine hgo _ ⟨v + 1, by omega, fun q hq => ?_, rfl⟩
      by_cases e9 : q = v
      · rw [e9]; exact fun h9 => h1 ((lg0 _ _).mpr h9)
      · exact hno q (by omega)
    · exact wp_some ⟨rfl, Or.inl ⟨v, by omega, (lg0 _ _).mp (Classical.not_not.mp h1), rfl⟩⟩
  · rintro a kk ⟨v, hv, hno, rfl⟩
    show wp (rX_placeOfC_2 (fun v2 v3 σ => kk (v2, v3, σ)) (I S) (I v) σ) _
    unfold rX_placeOfC_2 rX_placeOfC_35
    rw [brc_t (by rw [I_le (by omega) (by omega)]; omega)]
    exact wp_some ⟨rfl, Or.inr ⟨fun q hq => hno q (by omega), rfl⟩⟩
theorem KX_nm {n : Nat} {tp : Nat → Nat} {k : Nat} {σ : St} (h : KX n tp k σ) (ht : nmT n tp (ps n tp k)) : σ.2.1 5 6 = c8 n tp (ps n tp k) := h.2.2.2.2.2.1 ht.1 ht.2.1
/-- the class finds a station by its name -/
theorem eX_nameS {n : Nat} {tp : Nat → Nat} {k S C m : Nat} {np idn : Nat → Nat} {σ : St} (h : KX n tp k σ) (hN : Nm n tp S C m np idn) (hX : XNm n tp m np idn σ) (ht : nmT n tp (ps n tp k)) : wp (rX_placeOfS (I S) σ) (fun r => r.2 = σ ∧ ((∃ q, q < m ∧ idn q < S ∧ c8 n tp (np q) = c8 n tp (ps n tp k) ∧ r.1 = I (idn q)) ∨ ((∀ q, q < m → idn q < S → ¬ c8 n tp (np q) = c8 n tp (ps n tp k)) ∧ r.1 = -1))) := by
  have hS := hN.1
  refine wp_mono (eX_plS hN.1 σ) ?_
  rintro r ⟨e, ⟨s, a, b, c⟩ | ⟨a, b⟩⟩
  · refine ⟨e, Or.inl ?_⟩
    obtain ⟨q, hq, rfl⟩ := hN.2.2.2.2.1 s a
    exact ⟨q, hq, a, by rw [← (hX q hq).1 (by omega), b, KX_nm h ht], c⟩
  · refine ⟨e, Or.inr ⟨fun q hq hs h9 => a (idn q) hs ?_, b⟩⟩
    rw [(hX q hq).1 (by omega), h9, KX_nm h ht]
theorem eX_nameC {n : Nat} {tp : Nat → Nat} {k S C m : Nat} {np idn : Nat → Nat} {σ : St} (h : KX n tp k σ) (hN : Nm n tp S C m np idn) (hX : XNm n tp m np idn σ) (ht : nmT n tp (ps n tp k)) : wp (rX_placeOfC (I C) σ) (fun r => r.2 = σ ∧ ((∃ q, q < m ∧ 7 ≤ idn q ∧ c8 n tp (np q) = c8 n tp (ps n tp k) ∧ r.1 = I (idn q - 7)) ∨ ((∀ q, q < m → 7 ≤ idn q → ¬ c8 n tp (np q) = c8 n tp (ps n tp k)) ∧ r.1 = -1))) := by
  have hS := hN.1
  refine wp_mono (eX_plC hN.2.1 σ) ?_
  rintro r ⟨e, ⟨s, a, b, c⟩ | ⟨a, b⟩⟩
  · refine ⟨e, Or.inl ?_⟩
    obtain ⟨q, hq, he⟩ := hN.2.2.2.2.2.1 s a
    have e1 := (hX q hq).2 (by omega)
    rw [he, Nat.add_sub_cancel_left] at e1
    exact ⟨q, hq, by omega, by rw [← e1, b, KX_nm h ht], by rw [he, Nat.add_sub_cancel_left]; exact c⟩
  · refine ⟨e, Or.inr ⟨fun q hq hs h9 => a (idn q - 7) ?_ ?_, b⟩⟩
    · have := (hN.2.2.2.1 q hq).2
      omega
    · rw [(hX q hq).2 hs, h9, KX_nm h ht]
