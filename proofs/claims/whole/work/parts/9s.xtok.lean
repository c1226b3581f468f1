/-! the class takes tokens -/
def rdX (σ τ : St) : Prop := (∀ i, i ≠ 5 → i ≠ 7 → τ.1 i = σ.1 i) ∧ (∀ j, j ≠ 1 → j ≠ 4 → j ≠ 5 → τ.1 5 j = σ.1 5 j) ∧ (∀ j, j ≠ 4 → j ≠ 6 → τ.1 7 j = σ.1 7 j) ∧ (∀ i, i ≠ 5 → τ.2.1 i = σ.2.1 i) ∧ (∀ i, i ≠ 5 → τ.2.2.1 i = σ.2.2.1 i) ∧ τ.2.2.2 = σ.2.2.2
theorem rdX_refl {σ : St} : rdX σ σ := ⟨fun _ _ _ => rfl, fun _ _ _ _ => rfl, fun _ _ _ => rfl, fun _ _ => rfl, fun _ _ => rfl, rfl⟩
theorem rdX_tr {σ τ υ : St} (h1 : rdX σ τ) (h2 : rdX τ υ) : rdX σ υ :=
  ⟨fun i a b => (h2.1 i a b).trans (h1.1 i a b), fun j a b c => (h2.2.1 j a b c).trans (h1.2.1 j a b c), fun j a b => (h2.2.2.1 j a b).trans (h1.2.2.1 j a b), fun i h => (h2.2.2.2.1 i h).trans (h1.2.2.2.1 i h), fun i h => (h2.2.2.2.2.1 i h).trans (h1.2.2.2.2.1 i h), h2.2.2.2.2.2.trans h1.2.2.2.2.2⟩
theorem rdX_tk {σ τ : St} (h : tkX σ τ) : rdX σ τ := ⟨fun i a _ => h.1 i a, h.2.1, fun j _ _ => by rw [h.1 7 (by decide)], h.2.2.1, h.2.2.2.1, h.2.2.2.2⟩
theorem rdX_7 {σ τ : St} (h : rdX σ τ) {j : Nat} (v : Int32) (hj : j = 4 ∨ j = 6) : rdX σ (setI τ 7 j v) :=
  rdX_tr h ⟨fun i a b => gI_ne1 _ _ _ b, fun q a b c => by rw [gI_ne1 _ _ _ (by decide)], fun q a b => gI_ne2 _ _ _ (by omega), fun _ _ => rfl, fun _ _ => rfl, rfl⟩
theorem rdX_XP {n : Nat} {tp : Nat → Nat} {σ τ : St} (h : rdX σ τ) (hx : XP n tp σ) : XP n tp τ := by
  refine ⟨by rw [h.2.1 2 (by decide) (by decide) (by decide)]; exact hx.1, fun i hi => by rw [h.1 6 (by decide) (by decide)]; exact hx.2 i hi⟩
/-- the class stands at token k -/
def KX (n : Nat) (tp : Nat → Nat) (k : Nat) (σ : St) : Prop := XP n tp σ ∧ TX n tp (ps n tp k) σ
theorem KX_7 {n : Nat} {tp : Nat → Nat} {k : Nat} {σ : St} (h : KX n tp k σ) {i j : Nat} (v : Int32) (h5 : i ≠ 5) (h6 : i ≠ 6) : KX n tp k (setI σ i j v) := by
  refine ⟨⟨by rw [gI_ne1 _ _ _ (Ne.symm h5)]; exact h.1.1, fun q hq => by rw [gI_ne1 _ _ _ (Ne.symm h6)]; exact h.1.2 q hq⟩, ?_⟩
  obtain ⟨a1, a2, a3, a4, a5, a6⟩ := h.2
  exact ⟨a1, by rw [gI_ne1 _ _ _ (Ne.symm h5)]; exact a2, by rw [gI_ne1 _ _ _ (Ne.symm h5)]; exact a3, a4, a5, fun x y z => by rw [gI_ne1 _ _ _ (Ne.symm h5)]; exact a6 x y z⟩
theorem eX_step {n : Nat} {tp : Nat → Nat} (hw : wfP n tp) {k : Nat} {σ : St} (h : KX n tp k σ) : wp (rX_tstep σ) (fun τ => tkX σ τ ∧ KX n tp (k + 1) τ) := by
  refine wp_mono (eX_next hw h.1 h.2) ?_
  rintro τ ⟨a, b⟩
  exact ⟨b, tkX_XP b h.1, a⟩
theorem eX_wrong {n : Nat} {tp : Nat → Nat} {k : Nat} {σ : St} (h : KX n tp k σ) (v : Nat) : rX_wrong (I v) σ = some (0, setI σ 7 4 (I (v + 16 * ps n tp k))) := by
  unfold rX_wrong
  have e : (16 : Int32) * I (ps n tp k) = I (16 * ps n tp k) := by rw [litN, I_mul]
  rw [nmE, chk_t (by decide), h.2.2.2.1, e, I_add]
theorem eX_take {n : Nat} {tp : Nat → Nat} (hw : wfP n tp) {k : Nat} {σ : St} (h : KX n tp k σ) {v : Nat} (hv : v < 42) : wp (rX_take v σ) (fun r => rdX σ r.2 ∧ ((tW n tp k = v ∧ r.1 = 1 ∧ KX n tp (k + 1) r.2) ∨ (¬ tW n tp k = v ∧ r.1 = 0 ∧ r.2.1 7 4 = I (1 + 16 * ps n tp k)))) := by
  unfold rX_take
  have hlt : tkW n tp (ps n tp k) < 42 := tkW_lt
  rw [h.2.2.2.2.1, chk_t (decide_eq_true ⟨hlt, hv⟩)]
  refine wp_brc (fun h1 => ?_) (fun h1 => ?_)
  · refine wp_bnd1 (wp_mono (eX_step hw h) ?_)
    rintro τ ⟨a, b⟩
    rw [chk_t (by decide)]
    exact wp_some ⟨rdX_tk a, Or.inl ⟨h1, rfl, b⟩⟩
  · rw [I1, eX_wrong h, bnd2S, chk_t (by decide)]
    exact wp_some ⟨rdX_7 rdX_refl _ (by omega), Or.inr ⟨h1, rfl, gI_same _ _ _ _⟩⟩
theorem eX_takeNumber {n : Nat} {tp : Nat → Nat} (hw : wfP n tp) {k : Nat} {σ : St} (h : KX n tp k σ) {lo hi : Nat} (hlo : lo < 10000) (hhi : hi < 10000) : wp (rX_takeNumber (I lo) (I hi) σ) (fun r => rdX σ r.2 ∧ ((nF n tp k lo hi = 0 ∧ r.1 = 1 ∧ KX n tp (k + 1) r.2 ∧ r.2.1 7 6 = I (tV n tp k)) ∨ (0 < nF n tp k lo hi ∧ nF n tp k lo hi ≤ 4 ∧ r.1 = 0 ∧ r.2.1 7 4 = I (nF n tp k lo hi + 16 * ps n tp k)))) := by
  have hlt : tkW n tp (ps n tp k) < 42 := tkW_lt
  have bad : ∀ v, 0 < v → v ≤ 4 → nF n tp k lo hi = v → wp (bnd2 (rX_wrong (I v) σ) fun r_9 σ_7 => chk (decide (r_9 = 0 ∨ r_9 = 1)) (some (r_9, σ_7))) (fun r => rdX σ r.2 ∧ ((nF n tp k lo hi = 0 ∧ r.1 = 1 ∧ KX n tp (k + 1) r.2 ∧ r.2.1 7 6 = I (tV n tp k)) ∨ (0 < nF n tp k lo hi ∧ nF n tp k lo hi ≤ 4 ∧ r.1 = 0 ∧ r.2.1 7 4 = I (nF n tp k lo hi + 16 * ps n tp k)))) := fun v h0 h4 hv => by
    rw [eX_wrong h, bnd2S, chk_t (by decide)]
    exact wp_some ⟨rdX_7 rdX_refl _ (by omega), Or.inr ⟨by omega, by omega, rfl, by rw [hv]; exact gI_same _ _ _ _⟩⟩
  unfold rX_takeNumber rX_takeNumber_41
  rw [h.2.2.2.2.1, chk_t (decide_eq_true ⟨hlt, by decide⟩)]
  refine wp_brc (fun h1 => ?_) (fun h1 => ?_)
  · obtain ⟨a1, a2, a3, a4, a5, a6⟩ := tk_num hw h.2.1 h1
    have e5 : σ.1 5 5 = I (tV n tp k) := by
      rw [h.2.2.2.2.2.2 a2 a3 a4, ← a6]
    have a5' : tV n tp k < 10000 := a5
    rw [e5]
    refine wp_brc (fun h2 => ?_) (fun h2 => ?_)
    · rw [I_lt (by omega) (by omega)] at h2
      rw [litN]
      exact bad 4 (by omega) (by omega) (by unfold nF; rw [if_pos h1, if_neg (by omega)])
    · rw [I_lt (by omega) (by omega)] at h2
      refine wp_brc (fun h3 => ?_) (fun h3 => ?_)
      · rw [I_le (by omega) (by omega)] at h3
        rw [nmE]
        refine wp_bnd1 (wp_mono (eX_step hw (KX_7 h (i := 7) (j := 6) (I (tV n tp k)) (by decide) (by decide))) ?_)
        rintro τ ⟨a, b⟩
        rw [chk_t (by decide)]
        refine wp_some ⟨rdX_tr (rdX_7 rdX_refl _ (by omega)) (rdX_tk a), Or.inl ⟨by unfold nF; rw [if_pos h1, if_pos (by omega)], rfl, b, ?_⟩⟩
        show τ.1 7 6 = _
        rw [a.1 7 (by decide), gI_same]
      · rw [I_le (by omega) (by omega)] at h3
        rw [litN]
        exact bad 4 (by omega) (by omega) (by unfold nF; rw [if_pos h1, if_neg (by omega)])
  · rw [I1]
    exact bad 1 (by omega) (by omega) (by unfold nF; rw [if_neg h1])
/-- a word and a number after it: what is wrong, and 0 -/
def afF (n : Nat) (tp : Nat → Nat) (k w lo hi : Nat) : Nat := if tW n tp k = w then (if nF n tp (k + 1) lo hi = 0 then 0 else nF n tp (k + 1) lo hi + 16 * ps n tp (k + 1)) else 1 + 16 * ps n tp k
theorem eX_after {β : Type} {n : Nat} {tp : Nat → Nat} (hw : wfP n tp) {k : Nat} {σ : St} (h : KX n tp k σ) {w lo hi : Nat} (hw9 : w < 42) (hlo : lo < 10000) (hhi : hi < 10000) {A A' B : St → Option β} {Q : β → Prop}
    (hB : ∀ τ, rdX σ τ → KX n tp (k + 2) τ → τ.1 7 6 = I (tV n tp (k + 1)) → afF n tp k w lo hi = 0 → nF n tp (k + 1) lo hi = 0 → wp (B τ) Q)
    (hA : ∀ τ, rdX σ τ → τ.1 7 4 = I (afF n tp k w lo hi) → 0 < afF n tp k w lo hi → wp (A τ) Q)
    (hA' : ∀ τ, rdX σ τ → τ.1 7 4 = I (afF n tp k w lo hi) → 0 < afF n tp k w lo hi → wp (A' τ) Q) :
    wp (bnd2 (rX_take w σ) fun r σ1 => brc (r = 0) (A σ1) (bnd2 (rX_takeNumber (I lo) (I hi) σ1) fun r σ2 => brc (¬ r = 0) (B σ2) (A' σ2))) Q := by
  refine wp_bnd2 (wp_mono (eX_take hw h hw9) ?_)
  rintro ⟨r, τ⟩ ⟨f, ⟨a, b, c⟩ | ⟨a, b, c⟩⟩
  · have b' : r = 1 := b
    subst b'
    show wp (brc ((1 : Int32) = 0) _ _) _
    rw [brc_f (by decide)]
    refine wp_bnd2 (wp_mono (eX_takeNumber hw c hlo hhi) ?_)
    rintro ⟨r, υ⟩ ⟨f2, ⟨a2, b2, c2, d2⟩ | ⟨a2, b2, c2, d2⟩⟩
    · have b' : r = 1 := b2
      subst b'
      show wp (brc (¬ (1 : Int32) = 0) _ _) _
      rw [brc_t (by decide)]
      exact hB _ (rdX_tr f f2) c2 d2 (by unfold afF; rw [if_pos a, if_pos a2]) a2
    · have b' : r = 0 := c2
      subst b'
      show wp (brc (¬ (0 : Int32) = 0) _ _) _
      rw [brc_f (by decide)]
      have e : afF n tp k w lo hi = nF n tp (k + 1) lo hi + 16 * ps n tp (k + 1) := by unfold afF; rw [if_pos a, if_neg (by omega)]
      exact hA' _ (rdX_tr f f2) (by rw [e]; exact d2) (by omega)
  · have b' : r = 0 := b
    subst b'
    show wp (brc ((0 : Int32) = 0) _ _) _
    rw [brc_t rfl]
    have e : afF n tp k w lo hi = 1 + 16 * ps n tp k := by unfold afF; rw [if_neg a]
    exact hA _ f (by rw [e]; exact c) (by omega)
theorem eM_after {n : Nat} {tp : Nat → Nat} (hw : wfP n tp) {N k : Nat} {σ : St} (h : RM n tp N k 0 σ) {w lo hi : Nat} (hw9 : w < 30) (hlo : lo < 10000) (hhi : hi < 10000) : wp (rM_takeAfter (I w) (I lo) (I hi) σ) (fun r => rdM σ r.2 ∧ ((afF n tp k (wcl w) lo hi = 0 ∧ r.1 = I (tV n tp (k + 1)) ∧ RM n tp N (k + 2) 0 r.2) ∨ (0 < afF n tp k (wcl w) lo hi ∧ afF n tp k (wcl w) lo hi < 20000 ∧ r.1 = 0 ∧ ∃ k', RM n tp N k' (afF n tp k (wcl w) lo hi) r.2))) := by
  have hn := hw.1
  have hp := (RM_tok h).2.2.1
  unfold rM_takeAfter
  refine wp_bnd1 (wp_mono (eM_takeWord hw h hw9) ?_)
  rintro τ ⟨f, ⟨a, b⟩ | ⟨a, b⟩⟩
  · refine wp_bnd2 (wp_mono (eM_takeNumber hw b hlo hhi) ?_)
    have hp2 := (RM_tok b).2.2.1
    rintro ⟨r, υ⟩ ⟨f2, ⟨a2, b2, c2⟩ | ⟨a2, b2, c2, d2⟩⟩
    · exact wp_some ⟨frO_tr f f2, Or.inl ⟨by unfold afF; rw [if_pos a, if_pos a2], b2, c2⟩⟩
    · have e : afF n tp k (wcl w) lo hi = nF n tp (k + 1) lo hi + 16 * ps n tp (k + 1) := by unfold afF; rw [if_pos a, if_neg (by omega)]
      exact wp_some ⟨frO_tr f f2, Or.inr ⟨by omega, by omega, c2, k + 1, by rw [e]; exact d2⟩⟩
  · have e : afF n tp k (wcl w) lo hi = 1 + 16 * ps n tp k := by unfold afF; rw [if_neg a]
    rw [eM_takeNumberF b (by omega), bnd2S]
    exact wp_some ⟨f, Or.inr ⟨by omega, by omega, rfl, k, by rw [e]; exact b⟩⟩
theorem eM_afterF {n : Nat} {tp : Nat → Nat} {N k F : Nat} {σ : St} (h : RM n tp N k F σ) (hF : 0 < F ∧ F < 2147483648) (v lo hi : Int32) : wp (rM_takeAfter v lo hi σ) (fun r => rdM σ r.2 ∧ r.1 = 0 ∧ RM n tp N k F r.2) := by
  unfold rM_takeAfter
  refine wp_bnd1 (wp_mono (eM_takeWordF h hF v) ?_)
  rintro τ ⟨f, b⟩
  rw [eM_takeNumberF b hF, bnd2S]
  exact wp_some ⟨f, rfl, b⟩
