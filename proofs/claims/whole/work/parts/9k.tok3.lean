/-! one step of the class -/
def tkE (n : Nat) (tp : Nat → Nat) (i : Nat) : Nat := if i < n then (if pL tp i = true then tkR (pL tp) n i else if pD tp i = true then tkR (pD tp) n i else i + 1) else i
def tkW (n : Nat) (tp : Nat → Nat) (i : Nat) : Nat := if i < n then (if pL tp i = true then (if tkR (pL tp) n i - i ≤ 8 then wfd (lts tp i (tkR (pL tp) n i - i)) else 41) else if pD tp i = true then (if tkR (pD tp) n i - i ≤ 4 then 39 else 41) else (if wfd (lts tp i 1) = 38 then 41 else wfd (lts tp i 1))) else 40
/-- the class stands at the token that begins at i -/
def TX (n : Nat) (tp : Nat → Nat) (i : Nat) (σ : St) : Prop := i ≤ n ∧ σ.1 5 1 = I (tkE n tp i) ∧ σ.1 5 4 = I i ∧ σ.2.2.1 5 3 = tkW n tp i ∧ (i < n → pL tp i = true → σ.2.1 5 6 = Int64.ofNat (cdF 128 tp i (tkR (pL tp) n i - i))) ∧ (i < n → pL tp i = false → pD tp i = true → σ.1 5 5 = I (cdF 10 (fun q => tp q - 48) i (tkR (pD tp) n i - i)))
theorem tkE_b {n : Nat} {tp : Nat → Nat} {i : Nat} (h : i ≤ n) : i ≤ tkE n tp i ∧ tkE n tp i ≤ n := by
  unfold tkE
  by_cases e : i < n
  · rw [if_pos e]
    split
    · exact tkR_b h
    · split
      · exact tkR_b h
      · omega
  · rw [if_neg e]; omega
theorem tkW_lt {n : Nat} {tp : Nat → Nat} {i : Nat} : tkW n tp i < 42 := by
  unfold tkW
  have h1 := wfd_lt (lts tp i (tkR (pL tp) n i - i))
  have h2 := wfd_lt (lts tp i 1)
  split
  · split
    · split <;> omega
    · split
      · split <;> omega
      · split <;> omega
  · omega
theorem eX_tstep {n : Nat} {tp : Nat → Nat} {σ : St} (hw : wfP n tp) (hx : XP n tp σ) {i0 : Nat} (hi : i0 ≤ n) (h1 : σ.1 5 1 = I i0) : wp (rX_tstep σ) (fun τ => TX n tp (tkR (pB tp) n i0) τ ∧ tkX σ τ) := by
  have hn := hw.1
  unfold rX_tstep
  have fin : ∀ (τ : St) (i : Nat), i ≤ n → tkR (pB tp) n i0 = i → τ.1 5 1 = I i → tkX σ τ → wp (rX_tstep_52 τ) (fun τ => TX n tp (tkR (pB tp) n i0) τ ∧ tkX σ τ) := fun τ i hin hi9 g1 f => by
    rw [hi9]
    unfold rX_tstep_52
    rw [nmE, g1]
    have hx1 : XP n tp (setI τ 5 4 (I i)) := tkX_XP (tkX_I f _ (by omega)) hx
    have f1 : tkX σ (setI τ 5 4 (I i)) := tkX_I f _ (by omega)
    have e1 : (setI τ 5 4 (I i)).1 5 1 = I i := by rw [gI_ne2 _ _ _ (by decide)]; exact g1
    have e4 : (setI τ 5 4 (I i)).1 5 4 = I i := gI_same _ _ _ _
    generalize setI τ 5 4 (I i) = υ at hx1 f1 e1 e4 ⊢
    rw [e1, hx1.1]
    refine wp_brc (fun h => ?_) (fun h => ?_)
    · rw [I_lt (by omega) (by omega)] at h
      rw [chk_t (ib_I (by omega) (by omega)), I_cl (by omega), hx1.2 i h, eX_isLetter (tp_lt hw h), bnd2S]
      by_cases hl : pL tp i = true
      · rw [if_pos hl, brc_f (by decide)]
        refine wp_bnd1 (wp_mono (eX_word hw hx1 h e1 e4) ?_)
        rintro r ⟨a1, a2, a3, a4, a5⟩
        refine wp_some ⟨⟨hin, ?_, a2, ?_, fun _ _ => a4, fun _ h9 => absurd hl (by rw [h9]; decide)⟩, tkX_tr f1 a5⟩
        · unfold tkE
          rw [if_pos h, if_pos hl]; exact a1
        · unfold tkW
          rw [if_pos h, if_pos hl]; exact a3
      · rw [if_neg hl, brc_t rfl, e1, chk_t (ib_I (by omega) (by omega)), I_cl (by omega), hx1.2 i h, eX_isDigit (tp_lt hw h), bnd2S]
        by_cases hd : pD tp i = true
        · rw [if_pos hd, brc_f (by decide)]
          refine wp_bnd1 (wp_mono (eX_numb hw hx1 h e1 e4) ?_)
          rintro r ⟨a1, a2, a3, a4, a5⟩
          refine wp_some ⟨⟨hin, ?_, a2, ?_, fun _ h9 => absurd h9 hl, fun _ _ _ => a4⟩, tkX_tr f1 a5⟩
          · unfold tkE
            rw [if_pos h, if_neg hl, if_pos hd]; exact a1
          · unfold tkW
            rw [if_pos h, if_neg hl, if_pos hd]; exact a3
        · rw [if_neg hd, brc_t rfl, nmE, e1, I1, I_add]
          have hx2 : XP n tp (setI υ 5 1 (I (i + 1))) := tkX_XP (tkX_I f1 _ (by omega)) hx
          have f2 : tkX σ (setI υ 5 1 (I (i + 1))) := tkX_I f1 _ (by omega)
          have k1 : (setI υ 5 1 (I (i + 1))).1 5 1 = I (i + 1) := gI_same _ _ _ _
          have k4 : (setI υ 5 1 (I (i + 1))).1 5 4 = I i := by rw [gI_ne2 _ _ _ (by decide)]; exact e4
          generalize setI υ 5 1 (I (i + 1)) = ω at hx2 f2 k1 k4 ⊢
          rw [k1, k4]
          refine wp_bnd2 (wp_mono (eX_wfind hx2 hn (by omega) (by omega)) ?_)
          rintro r rfl
          rw [show i + 1 - i = 1 by omega]
          have hlt := wfd_lt (lts tp i 1)
          rw [chk_t (decide_eq_true ⟨hlt, by decide⟩)]
          unfold rX_tstep_166 rX_tstep_169
          have eE : tkE n tp i = i + 1 := by
            unfold tkE
            rw [if_pos h, if_neg hl, if_neg hd]
          have eW : tkW n tp i = if wfd (lts tp i 1) = 38 then 41 else wfd (lts tp i 1) := by
            unfold tkW
            rw [if_pos h, if_neg hl, if_neg hd]
          refine wp_brc (fun h5 => ?_) (fun h5 => ?_)
          · rw [nmE]
            exact wp_some ⟨⟨hin, by rw [eE]; exact k1, k4, by rw [gP_same, eW, if_neg h5], fun _ h9 => absurd h9 hl, fun _ _ h9 => absurd h9 hd⟩, tkX_P f2 _ _⟩
          · rw [nmE]
            exact wp_some ⟨⟨hin, by rw [eE]; exact k1, k4, by rw [gP_same, eW, if_pos (Classical.not_not.mp h5)], fun _ h9 => absurd h9 hl, fun _ _ h9 => absurd h9 hd⟩, tkX_P f2 _ _⟩
    · rw [I_lt (by omega) (by omega)] at h
      unfold rX_tstep_169
      rw [nmE]
      refine wp_some ⟨⟨hin, ?_, e4, ?_, fun h9 => absurd h9 h, fun h9 => absurd h9 h⟩, tkX_P f1 _ _⟩
      · unfold tkE
        rw [if_neg h]; exact e1
      · unfold tkW
        rw [if_neg h, gP_same]
  refine wp_for (fun m a => ∃ j, j + m = n ∧ tkR (pB tp) n i0 = tkR (pB tp) n j ∧ a.1 5 1 = I j ∧ tkX σ a) ?_ ?_ (n - i0) fu _ ⟨i0, by omega, rfl, h1, tkX_refl⟩ (by unfold fu; omega)
  · rintro m τ k ⟨j, hjm, hj, g1, f⟩ hk
    show wp (rX_tstep_0 (fun σ => k σ) τ) _
    have hxt := tkX_XP f hx
    have go : pB tp j = true → wp (rX_tstep_39 (fun σ => k σ) τ) (fun τ => TX n tp (tkR (pB tp) n i0) τ ∧ tkX σ τ) := fun hp => by
      unfold rX_tstep_39
      rw [nmE, g1, I1, I_add]
      exact hk _ ⟨j + 1, by omega, hj.trans (tkR_in (by omega) hp), gI_same _ _ _ _, tkX_I f _ (by omega)⟩
    have hb := tp_lt hw (show j < n by omega)
    unfold rX_tstep_0
    rw [hxt.1, g1, brc_f (by rw [I_le (by omega) (by omega)]; omega), chk_t (ib_I (by omega) (by omega)), I_cl (by omega), hxt.2 j (by omega)]
    refine wp_brc (fun h => ?_) (fun h => ?_)
    · rw [litN, I_inj (by omega) (by omega)] at h
      exact go (decide_eq_true (Or.inl h))
    · rw [litN, I_inj (by omega) (by omega)] at h
      rw [chk_t (ib_I (by omega) (by omega))]
      refine wp_brc (fun h2 => ?_) (fun h2 => ?_)
      · rw [litN, I_inj (by omega) (by omega)] at h2
        exact fin τ j (by omega) (hj.trans (tkR_out (fun h9 => by have := of_decide_eq_true h9.2; omega))) g1 f
      · have h3 : tp j = 10 := by
          have h4 := Classical.not_not.mp h2
          rw [litN, I_inj (by omega) (by omega)] at h4
          exact h4
        exact go (decide_eq_true (Or.inr h3))
  · rintro τ k ⟨j, hjm, hj, g1, f⟩
    show wp (rX_tstep_0 (fun σ => k σ) τ) _
    have hxt := tkX_XP f hx
    unfold rX_tstep_0
    rw [hxt.1, g1, brc_t (by rw [I_le (by omega) (by omega)]; omega)]
    exact fin τ j (by omega) (hj.trans (tkR_out (by omega))) g1 f
/-- from one token to the next -/
def nxt (n : Nat) (tp : Nat → Nat) (i : Nat) : Nat := tkR (pB tp) n (tkE n tp i)
theorem eX_next {n : Nat} {tp : Nat → Nat} {σ : St} (hw : wfP n tp) (hx : XP n tp σ) {i : Nat} (ht : TX n tp i σ) : wp (rX_tstep σ) (fun τ => TX n tp (nxt n tp i) τ ∧ tkX σ τ) :=
  eX_tstep hw hx (tkE_b ht.1).2 ht.2.1
theorem eX_first {n : Nat} {tp : Nat → Nat} {σ : St} (hw : wfP n tp) (hx : XP n tp σ) : wp (rX_ttoStart σ) (fun τ => TX n tp (tkR (pB tp) n 0) τ ∧ tkX σ τ) := by
  unfold rX_ttoStart
  rw [nmE]
  have f : tkX σ (setI σ 5 1 0) := tkX_I tkX_refl _ (by omega)
  refine wp_bnd1 (wp_mono (eX_tstep hw (tkX_XP f hx) (Nat.zero_le _) (by rw [gI_same, I0])) ?_)
  rintro r ⟨a, b⟩
  exact wp_some ⟨a, tkX_tr f b⟩
