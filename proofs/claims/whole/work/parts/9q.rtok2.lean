/-! how the reference goes from token to token -/
abbrev rdM (σ τ : St) : Prop := frO [] 0 [7, 8] σ τ
theorem RM_set {n : Nat} {tp : Nat → Nat} {N k F k' F' : Nat} {σ τ : St} (h : RM n tp N k F σ) (f : rdM σ τ) (hk : k' ≤ N) (h7 : τ.1 0 7 = I k') (h8 : τ.1 0 8 = I F') : RM n tp N k' F' τ := by
  obtain ⟨⟨a1, a2, a3, a4, a5⟩, b1, b2, b3, b4⟩ := h
  have e3 : τ.1 3 = σ.1 3 := f.1 3 (by decide) (by decide)
  have e2 : τ.1 2 = σ.1 2 := f.1 2 (by decide) (by decide)
  have eJ : τ.2 = σ.2 := f.2.2
  refine ⟨⟨a1, fun q hq => ?_, a3, by rw [e3]; exact a4, by rw [e2]; exact a5⟩, hk, h7, h8, by rw [eJ]; exact b4⟩
  rw [e3, e2, eJ]
  exact a2 q hq
theorem RM_F {n : Nat} {tp : Nat → Nat} {N k F : Nat} {σ : St} (h : RM n tp N k F σ) (v : Nat) : RM n tp N k v (setI σ 0 8 (I v)) :=
  RM_set h (frO_f frO_refl _ (by decide)) h.2.1 (by rw [gI_ne2 _ _ _ (by decide)]; exact h.2.2.1) (gI_same _ _ _ _)
theorem RM_k {n : Nat} {tp : Nat → Nat} {N k F : Nat} {σ : St} (h : RM n tp N k F σ) {k' : Nat} (hk : k' ≤ N) : RM n tp N k' F (setI σ 0 7 (I k')) :=
  RM_set h (frO_f frO_refl _ (by decide)) hk (gI_same _ _ _ _) (by rw [gI_ne2 _ _ _ (by decide)]; exact h.2.2.2.1)
theorem eM_wrong {n : Nat} {tp : Nat → Nat} {N k : Nat} {σ : St} (h : RM n tp N k 0 σ) (v : Nat) : rM_wrong (I v) σ = some (setI σ 0 8 (I (v + 16 * ps n tp k))) := by
  have t1 := (RM_tok h).1
  unfold rM_wrong rM_wrong_25
  rw [h.2.2.2.1, brc_f (by rw [I0]; exact fun h => h rfl), h.2.2.1, chk_t (ib_I (by have := h.1.1; have := h.2.1; omega) (by omega)), I_cl (by have := h.1.1; have := h.2.1; omega), t1, nmE, litN, I_mul, I_add]
theorem eM_wrongF {n : Nat} {tp : Nat → Nat} {N k F : Nat} {σ : St} (h : RM n tp N k F σ) (hF : 0 < F ∧ F < 2147483648) (v : Int32) : rM_wrong v σ = some σ := by
  unfold rM_wrong rM_wrong_25
  rw [h.2.2.2.1, brc_t (by rw [I0, I_inj (by omega) (by omega)]; omega)]
theorem eM_isWordF {n : Nat} {tp : Nat → Nat} {N k F : Nat} {σ : St} (h : RM n tp N k F σ) (hF : 0 < F ∧ F < 2147483648) (v : Int32) : rM_isWord v σ = some (0, σ) := by
  unfold rM_isWord rM_isWord_43 rM_isWord_44
  rw [h.2.2.2.1, brc_t (by rw [I0, I_inj (by omega) (by omega)]; omega), chk_t (by decide)]
theorem eM_isSignF {n : Nat} {tp : Nat → Nat} {N k F : Nat} {σ : St} (h : RM n tp N k F σ) (hF : 0 < F ∧ F < 2147483648) (v : Int32) : rM_isSign v σ = some (0, σ) := by
  unfold rM_isSign rM_isSign_39 rM_isSign_40
  rw [h.2.2.2.1, brc_t (by rw [I0, I_inj (by omega) (by omega)]; omega), chk_t (by decide)]
theorem wd_in {n : Nat} {tp : Nat → Nat} {N k F : Nat} {σ : St} (h : RM n tp N k F σ) (hW : ¬ tW n tp k = 40) : k + 1 ≤ N := by
  by_cases e : k = N
  · exfalso
    apply hW
    subst e
    show tkW n tp (ps n tp k) = 40
    rw [h.1.2.2.1]
    unfold tkW
    rw [if_neg (by omega)]
  · have := h.2.1
    omega
theorem eM_hasWord {n : Nat} {tp : Nat → Nat} (hw : wfP n tp) {N k : Nat} {σ : St} (h : RM n tp N k 0 σ) {w : Nat} (hw9 : w < 30) : wp (rM_hasWord (I w) σ) (fun r => rdM σ r.2 ∧ ((tW n tp k = wcl w ∧ r.1 = 1 ∧ RM n tp N (k + 1) 0 r.2) ∨ (¬ tW n tp k = wcl w ∧ r.1 = 0 ∧ RM n tp N k 0 r.2))) := by
  unfold rM_hasWord rM_hasWord_20
  rw [eM_isWord hw h hw9, bnd2S, nmE]
  have hr := wcl_r hw9
  by_cases e : tW n tp k = wcl w
  · rw [if_pos e, brc_f (by decide), nmE, chk_t (by decide), h.2.2.1, I1, I_add]
    exact wp_some ⟨frO_f frO_refl _ (by decide), Or.inl ⟨e, I1, RM_k h (wd_in h (by omega))⟩⟩
  · rw [if_neg e, brc_t rfl, nmE, chk_t (by decide), h.2.2.1, Int32.add_zero]
    exact wp_some ⟨frO_f frO_refl _ (by decide), Or.inr ⟨e, rfl, RM_k h h.2.1⟩⟩
theorem eM_hasSign {n : Nat} {tp : Nat → Nat} (hw : wfP n tp) {N k : Nat} {σ : St} (h : RM n tp N k 0 σ) {c : Nat} (hc : sgn c = true) : wp (rM_hasSign (I c) σ) (fun r => rdM σ r.2 ∧ ((tW n tp k = sgo c ∧ r.1 = 1 ∧ RM n tp N (k + 1) 0 r.2) ∨ (¬ tW n tp k = sgo c ∧ r.1 = 0 ∧ RM n tp N k 0 r.2))) := by
  unfold rM_hasSign rM_hasSign_20
  rw [eM_isSign hw h hc, bnd2S, nmE]
  have hr := sgo_b c
  by_cases e : tW n tp k = sgo c
  · rw [if_pos e, brc_f (by decide), nmE, chk_t (by decide), h.2.2.1, I1, I_add]
    exact wp_some ⟨frO_f frO_refl _ (by decide), Or.inl ⟨e, I1, RM_k h (wd_in h (by omega))⟩⟩
  · rw [if_neg e, brc_t rfl, nmE, chk_t (by decide), h.2.2.1, Int32.add_zero]
    exact wp_some ⟨frO_f frO_refl _ (by decide), Or.inr ⟨e, rfl, RM_k h h.2.1⟩⟩
theorem eM_hasWordF {n : Nat} {tp : Nat → Nat} {N k F : Nat} {σ : St} (h : RM n tp N k F σ) (hF : 0 < F ∧ F < 2147483648) (v : Int32) : wp (rM_hasWord v σ) (fun r => r.1 = 0 ∧ rdM σ r.2 ∧ RM n tp N k F r.2) := by
  unfold rM_hasWord rM_hasWord_20
  rw [eM_isWordF h hF, bnd2S, nmE, brc_t rfl, nmE, chk_t (by decide), h.2.2.1, Int32.add_zero]
  exact wp_some ⟨rfl, frO_f frO_refl _ (by decide), RM_k h h.2.1⟩
theorem eM_hasSignF {n : Nat} {tp : Nat → Nat} {N k F : Nat} {σ : St} (h : RM n tp N k F σ) (hF : 0 < F ∧ F < 2147483648) (v : Int32) : wp (rM_hasSign v σ) (fun r => r.1 = 0 ∧ rdM σ r.2 ∧ RM n tp N k F r.2) := by
  unfold rM_hasSign rM_hasSign_20
  rw [eM_isSignF h hF, bnd2S, nmE, brc_t rfl, nmE, chk_t (by decide), h.2.2.1, Int32.add_zero]
  exact wp_some ⟨rfl, frO_f frO_refl _ (by decide), RM_k h h.2.1⟩
theorem eM_takeWord {n : Nat} {tp : Nat → Nat} (hw : wfP n tp) {N k : Nat} {σ : St} (h : RM n tp N k 0 σ) {w : Nat} (hw9 : w < 30) : wp (rM_takeWord (I w) σ) (fun τ => rdM σ τ ∧ ((tW n tp k = wcl w ∧ RM n tp N (k + 1) 0 τ) ∨ (¬ tW n tp k = wcl w ∧ RM n tp N k (1 + 16 * ps n tp k) τ))) := by
  unfold rM_takeWord rM_takeWord_13
  refine wp_bnd2 (wp_mono (eM_hasWord hw h hw9) ?_)
  rintro ⟨r, τ⟩ ⟨f, ⟨a, b, c⟩ | ⟨a, b, c⟩⟩
  · have b' : r = 1 := b
    subst b'
    show wp (brc (¬ (1 : Int32) = 0) _ _) _
    rw [brc_t (by decide)]
    exact wp_some ⟨f, Or.inl ⟨a, c⟩⟩
  · have b' : r = 0 := b
    subst b'
    show wp (brc (¬ (0 : Int32) = 0) _ _) _
    rw [brc_f (by decide), I1, eM_wrong c, bnd1S]
    exact wp_some ⟨frO_f f _ (by decide), Or.inr ⟨a, RM_F c _⟩⟩
theorem eM_takeWordF {n : Nat} {tp : Nat → Nat} {N k F : Nat} {σ : St} (h : RM n tp N k F σ) (hF : 0 < F ∧ F < 2147483648) (v : Int32) : wp (rM_takeWord v σ) (fun τ => rdM σ τ ∧ RM n tp N k F τ) := by
  unfold rM_takeWord rM_takeWord_13
  refine wp_bnd2 (wp_mono (eM_hasWordF h hF v) ?_)
  rintro ⟨r, τ⟩ ⟨a, f, c⟩
  have a' : r = 0 := a
  subst a'
  show wp (brc (¬ (0 : Int32) = 0) _ _) _
  rw [brc_f (by decide), eM_wrongF c hF, bnd1S]
  exact wp_some ⟨f, c⟩
theorem eM_takeSign {n : Nat} {tp : Nat → Nat} (hw : wfP n tp) {N k : Nat} {σ : St} (h : RM n tp N k 0 σ) {c : Nat} (hc : sgn c = true) : wp (rM_takeSign (I c) σ) (fun τ => rdM σ τ ∧ ((tW n tp k = sgo c ∧ RM n tp N (k + 1) 0 τ) ∨ (¬ tW n tp k = sgo c ∧ RM n tp N k (1 + 16 * ps n tp k) τ))) := by
  have hr := sgo_b c
  unfold rM_takeSign rM_takeSign_26
  rw [eM_isSign hw h hc, bnd2S]
  by_cases e : tW n tp k = sgo c
  · rw [if_pos e, brc_f (by decide), nmE, h.2.2.1, I1, I_add]
    exact wp_some ⟨frO_f frO_refl _ (by decide), Or.inl ⟨e, RM_k h (wd_in h (by omega))⟩⟩
  · rw [if_neg e, brc_t rfl, I1, eM_wrong h, bnd1S]
    exact wp_some ⟨frO_f frO_refl _ (by decide), Or.inr ⟨e, RM_F h _⟩⟩
theorem eM_takeSignF {n : Nat} {tp : Nat → Nat} {N k F : Nat} {σ : St} (h : RM n tp N k F σ) (hF : 0 < F ∧ F < 2147483648) (v : Int32) : rM_takeSign v σ = some σ := by
  unfold rM_takeSign rM_takeSign_26
  rw [eM_isSignF h hF, bnd2S, brc_t rfl, eM_wrongF h hF, bnd1S]
/-! numbers -/
theorem lgn (x y : Int64) : (lg_cmp x y < 0 ↔ x < y) ∧ (lg_cmp x y ≤ 0 ↔ x ≤ y) := by
  unfold lg_cmp
  by_cases h1 : x > y
  · rw [if_pos h1]
    have h2 := Int64.lt_iff_toInt_lt.mp h1
    refine ⟨⟨fun h => absurd h (by decide), fun h => ?_⟩, ⟨fun h => absurd h (by decide), fun h => ?_⟩⟩
    · have := Int64.lt_iff_toInt_lt.mp h; omega
    · have := Int64.le_iff_toInt_le.mp h; omega
  · rw [if_neg h1]
    have h1' : ¬ y.toInt < x.toInt := fun h => h1 (Int64.lt_iff_toInt_lt.mpr h)
    by_cases h2 : x = y
    · rw [if_pos h2]
      refine ⟨⟨fun h => absurd h (by decide), fun h => ?_⟩, ⟨fun _ => ?_, fun _ => by decide⟩⟩
      · have := Int64.lt_iff_toInt_lt.mp h; rw [h2] at this; omega
      · rw [Int64.le_iff_toInt_le, h2]; omega
    · rw [if_neg h2]
      have h3 : ¬ x.toInt = y.toInt := fun h => h2 (Int64.toInt_inj.mp h)
      refine ⟨⟨fun _ => ?_, fun _ => by decide⟩, ⟨fun _ => ?_, fun _ => by decide⟩⟩
      · rw [Int64.lt_iff_toInt_lt]; omega
      · rw [Int64.le_iff_toInt_le]; omega
