/-! fog, spring, noon: once each -/
def seLo (e : Nat) : Nat := if e = 2 then 1 else 0
def seHi (e : Nat) : Nat := if e = 0 then 99 else if e = 1 then 200 else 999
def seF (n : Nat) (tp : Nat → Nat) (o e k : Nat) : Nat := if o / 2 ^ (e + 2) % 2 = 0 then (if nF n tp (k + 1) (seLo e) (seHi e) = 0 then 0 else nF n tp (k + 1) (seLo e) (seHi e) + 16 * ps n tp (k + 1)) else 3 + 16 * ps n tp k
def seT (T : Vw) (e v : Nat) : Vw := fun a b => if a = 0 ∧ b = 3 + e then v else T a b
theorem seT_n (T : Vw) (e v : Nat) {a b : Nat} (h : ¬ (a = 0 ∧ b = 3 + e)) : seT T e v a b = T a b := if_neg h
theorem seT_s (T : Vw) (e v : Nat) : seT T e v 0 (3 + e) = v := if_pos ⟨rfl, rfl⟩
theorem ob_X {o j : Nat} (ho : o < 32) (hj : j < 5) : (I o &&& I (2 ^ j) = 0 ↔ o / 2 ^ j % 2 = 0) ∧ I o ||| I (2 ^ j) = I (o ||| 2 ^ j) ∧ o ||| 2 ^ j < 32 := by
  have h : ∀ o, o < 32 → ∀ j, j < 5 → ((I o &&& I (2 ^ j) = 0 ↔ o / 2 ^ j % 2 = 0) ∧ I o ||| I (2 ^ j) = I (o ||| 2 ^ j) ∧ o ||| 2 ^ j < 32) := by decide +kernel
  exact h o ho j hj
theorem ob_M {o e : Nat} (ho : o < 32) (he : e < 3) : ((I (o / 4) >>> (I e &&& 31)) &&& (1 : Int32) = 1 ↔ ¬ o / 2 ^ (e + 2) % 2 = 0) ∧ I (o / 4) ||| ((1 : Int32) <<< (I e &&& 31)) = I ((o ||| 2 ^ (e + 2)) / 4) := by
  have h : ∀ o, o < 32 → ∀ e, e < 3 → (((I (o / 4) >>> (I e &&& 31)) &&& (1 : Int32) = 1 ↔ ¬ o / 2 ^ (e + 2) % 2 = 0) ∧ I (o / 4) ||| ((1 : Int32) <<< (I e &&& 31)) = I ((o ||| 2 ^ (e + 2)) / 4)) := by decide +kernel
  exact h o ho e he
theorem XDr_se {T : Vw} {σ τ : St} {e v : Nat} (he : e < 3) (hx : XDr T σ) (e10 : τ.1 10 (14 + e) = I v) (er10 : ∀ j, j ≠ 14 + e → τ.1 10 j = σ.1 10 j) (er : ∀ i, 11 ≤ i → i ≤ 18 → τ.1 i = σ.1 i) : XDr (seT T e v) τ := by
  obtain ⟨a0, a1, a2, a3, a4, a5, a6, a7, a8⟩ := hx
  have g : ∀ d, d < 3 → σ.1 10 (14 + d) = I (T 0 (3 + d)) → τ.1 10 (14 + d) = I (seT T e v 0 (3 + d)) := fun d _ hd => by
    by_cases h : d = e
    · rw [h, seT_s]; exact e10
    · rw [seT_n _ _ _ (by omega), er10 _ (by omega)]; exact hd
  refine ⟨?_, ?_, ?_, g 0 (by omega) a3, g 1 (by omega) a4, g 2 (by omega) a5, fun s hs => ?_, fun q hq => ?_, fun c hc => ?_⟩
  · rw [seT_n _ _ _ (by omega)]; exact (er10 0 (by omega)).trans a0
  · rw [seT_n _ _ _ (by omega)]; exact (er10 1 (by omega)).trans a1
  · rw [seT_n _ _ _ (by omega)]; exact (er10 2 (by omega)).trans a2
  · rw [seT_n _ _ _ (by omega)] at hs
    rw [seT_n _ _ _ (by omega), seT_n _ _ _ (by omega)]
    show τ.1 11 s = _ ∧ τ.1 12 s = _
    rw [er 11 (by omega) (by omega), er 12 (by omega) (by omega)]
    exact a6 s hs
  · rw [seT_n _ _ _ (by omega), seT_n _ _ _ (by omega)]
    show τ.1 13 q = _ ∧ (_ → τ.1 14 q = _)
    rw [er 13 (by omega) (by omega), er 14 (by omega) (by omega)]
    exact a7 q hq
  · rw [seT_n _ _ _ (by omega)] at hc
    rw [seT_n _ _ _ (by omega), seT_n _ _ _ (by omega), seT_n _ _ _ (by omega), seT_n _ _ _ (by omega)]
    show τ.1 15 c = _ ∧ τ.1 16 c = _ ∧ τ.1 17 c = _ ∧ τ.1 18 c = _
    rw [er 15 (by omega) (by omega), er 16 (by omega) (by omega), er 17 (by omega) (by omega), er 18 (by omega) (by omega)]
    exact a8 c hc
theorem MDr_se {T : Vw} {σ τ : St} {e v : Nat} (he : e < 3) (hx : MDr T σ) (e6 : τ.1 6 (163 + e) = I v) (er : ∀ j, j ≠ 163 + e → τ.1 6 j = σ.1 6 j) : MDr (seT T e v) τ := by
  obtain ⟨a0, a1, a2, a3, a4, a5, a6, a7, a8⟩ := hx
  have g : ∀ d, d < 3 → σ.1 6 (160 + (3 + d)) = I (T 0 (3 + d)) → τ.1 6 (160 + (3 + d)) = I (seT T e v 0 (3 + d)) := fun d _ hd => by
    by_cases h : d = e
    · rw [h, seT_s, show 160 + (3 + e) = 163 + e by omega]; exact e6
    · rw [seT_n _ _ _ (by omega), er _ (by omega)]; exact hd
  refine ⟨?_, ?_, ?_, g 0 (by omega) a3, g 1 (by omega) a4, g 2 (by omega) a5, fun s hs => ?_, fun q hq => ?_, fun c hc => ?_⟩
  · rw [seT_n _ _ _ (by omega)]; exact (er 160 (by omega)).trans a0
  · rw [seT_n _ _ _ (by omega)]; exact (er 161 (by omega)).trans a1
  · rw [seT_n _ _ _ (by omega)]; exact (er 162 (by omega)).trans a2
  · rw [seT_n _ _ _ (by omega)] at hs
    rw [seT_n _ _ _ (by omega), seT_n _ _ _ (by omega)]
    show τ.1 6 (160 + (8 + 2 * s)) = _ ∧ τ.1 6 (160 + (8 + 2 * s + 1)) = _
    rw [er _ (by omega), er _ (by omega)]
    exact a6 s hs
  · rw [seT_n _ _ _ (by omega), seT_n _ _ _ (by omega)]
    show τ.1 6 (160 + (22 + 2 * q)) = _ ∧ (_ → τ.1 6 (160 + (22 + 2 * q + 1)) = _)
    rw [er _ (by omega), er _ (by omega)]
    exact a7 q hq
  · rw [seT_n _ _ _ (by omega)] at hc
    rw [seT_n _ _ _ (by omega), seT_n _ _ _ (by omega), seT_n _ _ _ (by omega), seT_n _ _ _ (by omega)]
    show τ.1 6 (160 + (120 + 4 * c)) = _ ∧ τ.1 6 (160 + (120 + 4 * c + 1)) = _ ∧ τ.1 6 (160 + (120 + 4 * c + 2)) = _ ∧ τ.1 6 (160 + (120 + 4 * c + 3)) = _
    rw [er _ (by omega), er _ (by omega), er _ (by omega), er _ (by omega)]
    exact a8 c hc
/-- the class has changed no more than the tape's marks, the reader's fields and the draft's own -/
def seX (σ τ : St) : Prop := (∀ i, i ≠ 5 → i ≠ 7 → i ≠ 10 → τ.1 i = σ.1 i) ∧ (∀ j, j ≠ 1 → j ≠ 4 → j ≠ 5 → τ.1 5 j = σ.1 5 j) ∧ (∀ i, i ≠ 5 → τ.2.1 i = σ.2.1 i) ∧ (∀ i, i ≠ 5 → τ.2.2.1 i = σ.2.2.1 i) ∧ τ.2.2.2 = σ.2.2.2
theorem seX_rd {σ τ : St} (h : rdX σ τ) : seX σ τ := ⟨fun i a b _ => h.1 i a b, h.2.1, h.2.2.2.1, h.2.2.2.2.1, h.2.2.2.2.2⟩
theorem seX_tr {σ τ υ : St} (h1 : seX σ τ) (h2 : seX τ υ) : seX σ υ :=
  ⟨fun i a b c => (h2.1 i a b c).trans (h1.1 i a b c), fun j a b c => (h2.2.1 j a b c).trans (h1.2.1 j a b c), fun i h => (h2.2.2.1 i h).trans (h1.2.2.1 i h), fun i h => (h2.2.2.2.1 i h).trans (h1.2.2.2.1 i h), h2.2.2.2.2.trans h1.2.2.2.2⟩
theorem seX_I {σ τ : St} (h : seX σ τ) {i j : Nat} (v : Int32) (hi : i = 7 ∨ i = 10) : seX σ (setI τ i j v) :=
  seX_tr h ⟨fun q a b c => gI_ne1 _ _ _ (by omega), fun q a b c => by rw [gI_ne1 _ _ _ (by omega)], fun _ _ => rfl, fun _ _ => rfl, rfl⟩
theorem eX_isFirst {n : Nat} {tp : Nat → Nat} {k o j : Nat} {σ : St} (h : KX n tp k σ) (ho : o < 32) (hj : j < 5) (h5 : σ.1 7 5 = I o) : rX_isFirst (I (2 ^ j)) σ = some (if o / 2 ^ j % 2 = 0 then ((1 : Int32), setI σ 7 5 (I (o ||| 2 ^ j))) else (0, setI σ 7 4 (I (3 + 16 * ps n tp k)))) := by
  obtain ⟨a, b, -⟩ := ob_X ho hj
  unfold rX_isFirst
  rw [h5]
  by_cases e : o / 2 ^ j % 2 = 0
  · rw [brc_t (a.mpr e), nmE, chk_t (by decide), if_pos e, b]
  · rw [brc_f (mt a.mp e), litN, eX_wrong h, bnd2S, chk_t (by decide), if_neg e]
abbrev XseQ (n : Nat) (tp : Nat → Nat) (T : Vw) (o e k : Nat) (σ : St) (r : Int32 × St) : Prop := seX σ r.2 ∧ ((seF n tp o e k = 0 ∧ r.1 = 1 ∧ KX n tp (k + 2) r.2 ∧ r.2.1 7 5 = I (o ||| 2 ^ (e + 2)) ∧ XDr (seT T e (tV n tp (k + 1))) r.2) ∨ (0 < seF n tp o e k ∧ r.1 = 0 ∧ r.2.1 7 4 = I (seF n tp o e k)))
theorem eX_set82 {n : Nat} {tp : Nat → Nat} (hw : wfP n tp) {k o e : Nat} {T : Vw} {σ σ0 : St} (he : e < 3) (h : KX n tp (k + 1) σ) (f0 : seX σ0 σ) (h5 : σ.1 7 5 = I (o ||| 2 ^ (e + 2))) (hT : XDr T σ) (h0 : o / 2 ^ (e + 2) % 2 = 0) : wp (rX_readSetting_82 (13 + e) (I (seLo e)) (I (seHi e)) σ) (XseQ n tp T o e k σ0) := by
  unfold rX_readSetting_82 rX_readSetting_147
  rw [nmE]
  refine wp_bnd2 (wp_mono (eX_takeNumber hw h (by unfold seLo; split <;> omega) (by unfold seHi; split <;> (try split) <;> omega)) ?_)
  rintro ⟨r, τ⟩ ⟨f, ⟨a, b, c, d⟩ | ⟨a, a', b, d⟩⟩
  · have b' : r = 1 := b
    subst b'
    have d' : τ.1 7 6 = I (tV n tp (k + 1)) := d
    have es : seF n tp o e k = 0 := by unfold seF; rw [if_pos h0, if_pos a]
    have fin : ∀ q, q = 14 + e → wp (chk (decide ((1 : Int32) = 0 ∨ (1 : Int32) = 1)) (some ((1 : Int32), setI τ 10 q (τ.1 7 6)))) (XseQ n tp T o e k σ0) := fun q hq => by
      subst hq
      rw [chk_t (by decide), d']
      refine wp_some ⟨seX_I (seX_tr f0 (seX_rd f)) _ (by omega), Or.inl ⟨es, rfl, KX_7 c _ (by decide) (by decide), ?_, ?_⟩⟩
      · rw [gI_ne1 _ _ _ (by decide), f.2.2.1 5 (by decide) (by decide)]; exact h5
      · exact XDr_se he hT (gI_same _ _ _ _) (fun j hj => by rw [gI_ne2 _ _ _ hj, f.1 10 (by decide) (by decide)]) (fun i h1 h2 => by rw [gI_ne1 _ _ _ (by omega), f.1 i (by omega) (by omega)])
    show wp (brc (¬ (1 : Int32) = 0) _ _) _
    rw [brc_t (by decide), chk_t (decide_eq_true (by omega))]
    refine wp_brc (fun c1 => ?_) (fun c1 => ?_)
    · rw [chk_t (decide_eq_true (by omega))]
      refine wp_brc (fun c2 => ?_) (fun c2 => ?_)
      · rw [nmE]; exact fin 16 (by omega)
      · rw [nmE]; exact fin 15 (by omega)
    · rw [nmE]; exact fin 14 (by omega)
  · have b' : r = 0 := b
    subst b'
    have es : seF n tp o e k = nF n tp (k + 1) (seLo e) (seHi e) + 16 * ps n tp (k + 1) := by unfold seF; rw [if_pos h0, if_neg (by omega)]
    show wp (brc (¬ (0 : Int32) = 0) _ _) _
    rw [brc_f (by decide), chk_t (by decide)]
    exact wp_some ⟨seX_tr f0 (seX_rd f), Or.inr ⟨by omega, rfl, by rw [es]; exact d⟩⟩
theorem eX_readSetting {n : Nat} {tp : Nat → Nat} (hw : wfP n tp) {k o e : Nat} {T : Vw} {σ : St} (he : e < 3) (h : KX n tp k σ) (ho : o < 32) (h5 : σ.1 7 5 = I o) (hT : XDr T σ) : wp (rX_readSetting (13 + e) σ) (XseQ n tp T o e k σ) := by
  have s26 : ∀ s0, s0 = I (2 ^ (e + 2)) → wp (rX_readSetting_26 (13 + e) s0 σ) (XseQ n tp T o e k σ) := fun s0 hs => by
    subst hs
    unfold rX_readSetting_26
    rw [eX_isFirst h ho (by omega) h5]
    by_cases h0 : o / 2 ^ (e + 2) % 2 = 0
    · rw [if_pos h0, bnd2S, brc_t (by decide)]
      refine wp_bnd1 (wp_mono (eX_step hw (KX_7 h (i := 7) (j := 5) (I (o ||| 2 ^ (e + 2))) (by decide) (by decide))) ?_)
      rintro τ ⟨f, c⟩
      have f0 : seX σ τ := seX_tr (seX_I ⟨fun _ _ _ _ => rfl, fun _ _ _ _ => rfl, fun _ _ => rfl, fun _ _ => rfl, rfl⟩ _ (by omega)) (seX_rd (rdX_tk f))
      have h5' : τ.1 7 5 = I (o ||| 2 ^ (e + 2)) := by rw [f.1 7 (by decide), gI_same]
      have hT' : XDr T τ := by
        unfold XDr at *
        exact XMt_fr (fun i h1 h2 => by show τ.1 (i - 13) = σ.1 (i - 13); rw [f.1 _ (by omega), gI_ne1 _ _ _ (by omega)]) hT
      rw [chk_t (decide_eq_true (by omega))]
      have go : wp (rX_readSetting_53 (13 + e) (I (seLo e)) τ) (XseQ n tp T o e k σ) := by
        unfold rX_readSetting_53
        rw [nmE, chk_t (decide_eq_true (by omega))]
        refine wp_brc (fun c1 => ?_) (fun c1 => ?_)
        · rw [chk_t (decide_eq_true (by omega))]
          refine wp_brc (fun c2 => ?_) (fun c2 => ?_)
          · have := eX_set82 hw he c f0 h5' hT' h0
            rw [show seHi e = 999 by unfold seHi; rw [if_neg (by omega), if_neg (by omega)]] at this
            exact this
          · have := eX_set82 hw he c f0 h5' hT' h0
            rw [show seHi e = 200 by unfold seHi; rw [if_neg (by omega), if_pos (by omega)]] at this
            exact this
        · have := eX_set82 hw he c f0 h5' hT' h0
          rw [show seHi e = 99 by unfold seHi; rw [if_pos (by omega)]] at this
          exact this
      refine wp_brc (fun c1 => ?_) (fun c1 => ?_)
      · rw [show seLo e = 0 by unfold seLo; rw [if_neg (by omega)]] at go
        exact go
      · rw [show seLo e = 1 by unfold seLo; rw [if_pos (by omega)]] at go
        exact go
    · rw [if_neg h0, bnd2S, brc_f (by decide), chk_t (by decide)]
      have es : seF n tp o e k = 3 + 16 * ps n tp k := by unfold seF; rw [if_neg h0]
      exact wp_some ⟨seX_rd (rdX_7 rdX_refl _ (by omega)), Or.inr ⟨by omega, rfl, by rw [es]; exact gI_same _ _ _ _⟩⟩
  unfold rX_readSetting
  rw [chk_t (decide_eq_true (by omega))]
  refine wp_brc (fun c1 => ?_) (fun c1 => ?_)
  · rw [chk_t (decide_eq_true (by omega))]
    refine wp_brc (fun c2 => ?_) (fun c2 => ?_)
    · exact s26 16 (by rw [show e = 2 by omega]; decide)
    · exact s26 8 (by rw [show e = 1 by omega]; decide)
  · exact s26 4 (by rw [show e = 0 by omega]; decide)
