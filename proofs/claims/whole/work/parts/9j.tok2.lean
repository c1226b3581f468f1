/-! the class steps to the next token -/
theorem gP_same (σ : St) (i j v : Nat) : (setP σ i j v).2.2.1 i j = v := if_pos (⟨rfl, rfl⟩ : i = i ∧ j = j)
def tkX (σ τ : St) : Prop := (∀ i, i ≠ 5 → τ.1 i = σ.1 i) ∧ (∀ j, j ≠ 1 → j ≠ 4 → j ≠ 5 → τ.1 5 j = σ.1 5 j) ∧ (∀ i, i ≠ 5 → τ.2.1 i = σ.2.1 i) ∧ (∀ i, i ≠ 5 → τ.2.2.1 i = σ.2.2.1 i) ∧ τ.2.2.2 = σ.2.2.2
theorem tkX_refl {σ : St} : tkX σ σ := ⟨fun _ _ => rfl, fun _ _ _ _ => rfl, fun _ _ => rfl, fun _ _ => rfl, rfl⟩
theorem tkX_tr {σ τ υ : St} (h1 : tkX σ τ) (h2 : tkX τ υ) : tkX σ υ :=
  ⟨fun i h => (h2.1 i h).trans (h1.1 i h), fun j a b c => (h2.2.1 j a b c).trans (h1.2.1 j a b c), fun i h => (h2.2.2.1 i h).trans (h1.2.2.1 i h), fun i h => (h2.2.2.2.1 i h).trans (h1.2.2.2.1 i h), h2.2.2.2.2.trans h1.2.2.2.2⟩
theorem tkX_I {σ τ : St} (h : tkX σ τ) {j : Nat} (v : Int32) (hj : j = 1 ∨ j = 4 ∨ j = 5) : tkX σ (setI τ 5 j v) :=
  tkX_tr h ⟨fun i hi => gI_ne1 _ _ _ hi, fun q a b c => gI_ne2 _ _ _ (by omega), fun _ _ => rfl, fun _ _ => rfl, rfl⟩
theorem tkX_J {σ τ : St} (h : tkX σ τ) (j : Nat) (v : Int64) : tkX σ (setJ τ 5 j v) :=
  tkX_tr h ⟨fun _ _ => rfl, fun _ _ _ _ => rfl, fun i hi => gJ_ne1 _ _ _ hi, fun _ _ => rfl, rfl⟩
theorem tkX_P {σ τ : St} (h : tkX σ τ) (j v : Nat) : tkX σ (setP τ 5 j v) :=
  tkX_tr h ⟨fun _ _ => rfl, fun _ _ _ _ => rfl, fun _ _ => rfl, fun i hi => by funext b; exact if_neg (fun h => hi h.1), rfl⟩
theorem tkX_XP {n : Nat} {tp : Nat → Nat} {σ τ : St} (h : tkX σ τ) (hx : XP n tp σ) : XP n tp τ := by
  refine ⟨by rw [h.2.1 2 (by decide) (by decide) (by decide)]; exact hx.1, fun i hi => by rw [h.1 6 (by decide)]; exact hx.2 i hi⟩
theorem eX_isLetter {tp : Nat → Nat} {i : Nat} (hb : tp i < 200) (σ : St) : rX_isLetter (I (tp i)) σ = some (if pL tp i = true then 1 else 0, σ) := by
  unfold rX_isLetter rX_isLetter_16 rX_isLetter_17 pL
  by_cases h1 : tp i < 97
  · rw [brc_t (by rw [litN, I_lt (by omega) (by omega)]; exact h1), chk_t (by decide), decide_eq_false (by omega), if_neg (by decide)]
  · rw [brc_f (by rw [litN, I_lt (by omega) (by omega)]; exact h1)]
    by_cases h2 : 122 < tp i
    · rw [brc_t (by rw [litN, I_lt (by omega) (by omega)]; exact h2), chk_t (by decide), decide_eq_false (by omega), if_neg (by decide)]
    · rw [brc_f (by rw [litN, I_lt (by omega) (by omega)]; exact h2), chk_t (by decide), decide_eq_true (by omega), if_pos rfl]
theorem eX_isDigit {tp : Nat → Nat} {i : Nat} (hb : tp i < 200) (σ : St) : rX_isDigit (I (tp i)) σ = some (if pD tp i = true then 1 else 0, σ) := by
  unfold rX_isDigit rX_isDigit_16 rX_isDigit_17 pD
  by_cases h1 : tp i < 48
  · rw [brc_t (by rw [litN, I_lt (by omega) (by omega)]; exact h1), chk_t (by decide), decide_eq_false (by omega), if_neg (by decide)]
  · rw [brc_f (by rw [litN, I_lt (by omega) (by omega)]; exact h1)]
    by_cases h2 : 57 < tp i
    · rw [brc_t (by rw [litN, I_lt (by omega) (by omega)]; exact h2), chk_t (by decide), decide_eq_false (by omega), if_neg (by decide)]
    · rw [brc_f (by rw [litN, I_lt (by omega) (by omega)]; exact h2), chk_t (by decide), decide_eq_true (by omega), if_pos rfl]
theorem tp_lt {n : Nat} {tp : Nat → Nat} (hw : wfP n tp) {i : Nat} (hi : i < n) : tp i < 200 := by
  have := hw.2 i hi
  omega
theorem J_step (a b : Nat) (hb : b < 200) : Int64.ofNat a * 128 + (I b).toInt64 = Int64.ofNat (a * 128 + b) := by
  have h : ∀ b, b < 200 → (I b).toInt64 = Int64.ofNat b := by decide +kernel
  rw [h b hb, Int64.ofNat_add, Int64.ofNat_mul]
  rfl
theorem eX_word {n : Nat} {tp : Nat → Nat} {σ : St} (hw : wfP n tp) (hx : XP n tp σ) {i : Nat} (hi : i < n) (h1 : σ.1 5 1 = I i) (h4 : σ.1 5 4 = I i) : wp (rX_treadWord σ) (fun τ => τ.1 5 1 = I (tkR (pL tp) n i) ∧ τ.1 5 4 = I i ∧ τ.2.2.1 5 3 = (if tkR (pL tp) n i - i ≤ 8 then wfd (lts tp i (tkR (pL tp) n i - i)) else 41) ∧ τ.2.1 5 6 = Int64.ofNat (cdF 128 tp i (tkR (pL tp) n i - i)) ∧ tkX σ τ) := by
  have hn := hw.1
  unfold rX_treadWord
  rw [nmE]
  have fin : ∀ (τ : St) (j : Nat), i ≤ j → j ≤ n → tkR (pL tp) n i = j → τ.1 5 1 = I j → τ.1 5 4 = I i → τ.2.1 5 6 = Int64.ofNat (cdF 128 tp i (j - i)) → tkX σ τ → wp (rX_treadWord_67 τ) (fun τ => τ.1 5 1 = I (tkR (pL tp) n i) ∧ τ.1 5 4 = I i ∧ τ.2.2.1 5 3 = (if tkR (pL tp) n i - i ≤ 8 then wfd (lts tp i (tkR (pL tp) n i - i)) else 41) ∧ τ.2.1 5 6 = Int64.ofNat (cdF 128 tp i (tkR (pL tp) n i - i)) ∧ tkX σ τ) := fun τ j hij hjn hj g1 g4 g6 f => by
    rw [hj]
    unfold rX_treadWord_67 rX_treadWord_103
    rw [g1, g4, I_sub hij]
    refine wp_brc (fun h => ?_) (fun h => ?_)
    · rw [litN, I_le (by omega) (by omega)] at h
      refine wp_bnd2 (wp_mono (eX_wfind (tkX_XP f hx) hn hij hjn) ?_)
      rintro r rfl
      rw [nmE, if_pos h]
      exact wp_some ⟨g1, g4, gP_same _ _ _ _, g6, tkX_P f _ _⟩
    · rw [litN, I_le (by omega) (by omega)] at h
      rw [nmE, if_neg h]
      exact wp_some ⟨g1, g4, gP_same _ _ _ _, g6, tkX_P f _ _⟩
  refine wp_for (fun m a => ∃ j, j + m = n ∧ i ≤ j ∧ tkR (pL tp) n i = tkR (pL tp) n j ∧ a.1 5 1 = I j ∧ a.1 5 4 = I i ∧ a.2.1 5 6 = Int64.ofNat (cdF 128 tp i (j - i)) ∧ tkX σ a) ?_ ?_ (n - i) fu _ ⟨i, by omega, by omega, rfl, h1, h4, by rw [gJ_same, Nat.sub_self]; rfl, tkX_J tkX_refl _ _⟩ (by unfold fu; omega)
  · rintro m τ k ⟨j, hjm, hij, hj, g1, g4, g6, f⟩ hk
    show wp (rX_treadWord_5 (fun σ => k σ) τ) _
    have hxt := tkX_XP f hx
    unfold rX_treadWord_5
    rw [hxt.1, g1, brc_f (by rw [I_le (by omega) (by omega)]; omega), chk_t (ib_I (by omega) (by omega)), I_cl (by omega), hxt.2 j (by omega), eX_isLetter (tp_lt hw (by omega)), bnd2S]
    by_cases hp : pL tp j = true
    · rw [if_pos hp, brc_f (by decide), g1, chk_t (ib_I (by omega) (by omega)), nmE, nmE, I_cl (by omega), hxt.2 j (by omega), g6, J_step _ _ (tp_lt hw (by omega)), gJ_1, g1, I1, I_add]
      exact hk _ ⟨j + 1, by omega, by omega, hj.trans (tkR_in (by omega) hp), gI_same _ _ _ _, by rw [gI_ne2 _ _ _ (by decide)]; exact g4, by rw [show j + 1 - i = (j - i) + 1 by omega]; show (setJ τ 5 6 _).2.1 5 6 = _; rw [gJ_same]; show _ = Int64.ofNat (cdF 128 tp i (j - i) * 128 + tp (i + (j - i))); rw [show i + (j - i) = j by omega], tkX_I (tkX_J f _ _) _ (by omega)⟩
    · rw [if_neg hp, brc_t rfl]
      exact fin τ j hij (by omega) (hj.trans (tkR_out (fun h => hp h.2))) g1 g4 g6 f
  · rintro τ k ⟨j, hjm, hij, hj, g1, g4, g6, f⟩
    show wp (rX_treadWord_5 (fun σ => k σ) τ) _
    have hxt := tkX_XP f hx
    unfold rX_treadWord_5
    rw [hxt.1, g1, brc_t (by rw [I_le (by omega) (by omega)]; omega)]
    exact fin τ j hij (by omega) (hj.trans (tkR_out (by omega))) g1 g4 g6 f
theorem eX_numb {n : Nat} {tp : Nat → Nat} {σ : St} (hw : wfP n tp) (hx : XP n tp σ) {i : Nat} (hi : i < n) (h1 : σ.1 5 1 = I i) (h4 : σ.1 5 4 = I i) : wp (rX_treadNumber σ) (fun τ => τ.1 5 1 = I (tkR (pD tp) n i) ∧ τ.1 5 4 = I i ∧ τ.2.2.1 5 3 = (if tkR (pD tp) n i - i ≤ 4 then 39 else 41) ∧ τ.1 5 5 = I (cdF 10 (fun q => tp q - 48) i (tkR (pD tp) n i - i)) ∧ tkX σ τ) := by
  have hn := hw.1
  unfold rX_treadNumber
  rw [nmE]
  have fin : ∀ (τ : St) (j : Nat), i ≤ j → j ≤ n → tkR (pD tp) n i = j → τ.1 5 1 = I j → τ.1 5 4 = I i → τ.1 5 5 = I (cdF 10 (fun q => tp q - 48) i (j - i)) → tkX σ τ → wp (rX_treadNumber_68 τ) (fun τ => τ.1 5 1 = I (tkR (pD tp) n i) ∧ τ.1 5 4 = I i ∧ τ.2.2.1 5 3 = (if tkR (pD tp) n i - i ≤ 4 then 39 else 41) ∧ τ.1 5 5 = I (cdF 10 (fun q => tp q - 48) i (tkR (pD tp) n i - i)) ∧ tkX σ τ) := fun τ j hij hjn hj g1 g4 g6 f => by
    rw [hj]
    unfold rX_treadNumber_68 rX_treadNumber_91
    rw [g1, g4, I_sub hij]
    refine wp_brc (fun h => ?_) (fun h => ?_)
    · rw [litN, I_le (by omega) (by omega)] at h
      rw [nmE, if_pos h]
      exact wp_some ⟨g1, g4, gP_same _ _ _ _, g6, tkX_P f _ _⟩
    · rw [litN, I_le (by omega) (by omega)] at h
      rw [nmE, if_neg h]
      exact wp_some ⟨g1, g4, gP_same _ _ _ _, g6, tkX_P f _ _⟩
  refine wp_for (fun m a => ∃ j, j + m = n ∧ i ≤ j ∧ tkR (pD tp) n i = tkR (pD tp) n j ∧ a.1 5 1 = I j ∧ a.1 5 4 = I i ∧ a.1 5 5 = I (cdF 10 (fun q => tp q - 48) i (j - i)) ∧ tkX σ a) ?_ ?_ (n - i) fu _ ⟨i, by omega, by omega, rfl, by rw [gI_ne2 _ _ _ (by decide)]; exact h1, by rw [gI_ne2 _ _ _ (by decide)]; exact h4, by rw [gI_same, Nat.sub_self]; rfl, tkX_I tkX_refl _ (by omega)⟩ (by unfold fu; omega)
  · rintro m τ k ⟨j, hjm, hij, hj, g1, g4, g6, f⟩ hk
    show wp (rX_treadNumber_5 (fun σ => k σ) τ) _
    have hxt := tkX_XP f hx
    unfold rX_treadNumber_5
    rw [hxt.1, g1, brc_f (by rw [I_le (by omega) (by omega)]; omega), chk_t (ib_I (by omega) (by omega)), I_cl (by omega), hxt.2 j (by omega), eX_isDigit (tp_lt hw (by omega)), bnd2S]
    by_cases hp : pD tp j = true
    · have hd : 48 ≤ tp j := (of_decide_eq_true hp).1
      rw [if_pos hp, brc_f (by decide), g1, chk_t (ib_I (by omega) (by omega)), nmE, nmE, I_cl (by omega), hxt.2 j (by omega), g6, gI_ne2 _ _ _ (show (1 : Nat) ≠ 5 by decide), g1, litN 10, litN 48, I_mul, I_sub hd, I_add, I1, I_add]
      exact hk _ ⟨j + 1, by omega, by omega, hj.trans (tkR_in (by omega) hp), gI_same _ _ _ _, by rw [gI_ne2 _ _ _ (by decide), gI_ne2 _ _ _ (by decide)]; exact g4, by rw [show j + 1 - i = (j - i) + 1 by omega, gI_ne2 _ _ _ (by decide), gI_same]; show _ = I (cdF 10 (fun q => tp q - 48) i (j - i) * 10 + (tp (i + (j - i)) - 48)); rw [show i + (j - i) = j by omega], tkX_I (tkX_I f _ (by omega)) _ (by omega)⟩
    · rw [if_neg hp, brc_t rfl]
      exact fin τ j hij (by omega) (hj.trans (tkR_out (fun h => hp h.2))) g1 g4 g6 f
  · rintro τ k ⟨j, hjm, hij, hj, g1, g4, g6, f⟩
    show wp (rX_treadNumber_5 (fun σ => k σ) τ) _
    have hxt := tkX_XP f hx
    unfold rX_treadNumber_5
    rw [hxt.1, g1, brc_t (by rw [I_le (by omega) (by omega)]; omega)]
    exact fin τ j hij (by omega) (hj.trans (tkR_out (by omega))) g1 g4 g6 f
