/-! a carrier is told: the drafts -/
theorem XNm_C {n : Nat} {tp : Nat → Nat} {S C m i : Nat} {np idn : Nat → Nat} {σ : St} (hN : Nm n tp S C m np idn) (hC : C < 6) (hX : XNm n tp m np idn σ) : XNm n tp (m + 1) (updN np m i) (updN idn m (7 + C)) (setJ σ 9 C (c8 n tp i)) := by
  intro q hq
  by_cases e : q = m
  · subst e
    rw [updN_s, updN_s]
    exact ⟨fun h => absurd h (by omega), fun _ => by rw [Nat.add_sub_cancel_left]; exact gJ_same _ _ _ _⟩
  · rw [updN_n _ _ e, updN_n _ _ e]
    have h1 := hX q (by omega)
    refine ⟨fun h7 => ?_, fun h7 => ?_⟩
    · rw [gJ_ne1 _ _ _ (by decide)]
      exact h1.1 h7
    · have hb := (hN.2.2.2.1 q (by omega)).2
      have hS := hN.1
      rw [gJ_ne2 _ _ _ (by omega)]
      exact h1.2 h7
theorem Nm_C {n : Nat} {tp : Nat → Nat} {S C m i : Nat} {np idn : Nat → Nat} (hN : Nm n tp S C m np idn) (hC : C < 6) (ht : nmT n tp i) (hno : hasN n tp m np i = false) : Nm n tp S (C + 1) (m + 1) (updN np m i) (updN idn m (7 + C)) := by
  obtain ⟨a1, a2, a3, a4, a5, a6, a7⟩ := hN
  have hne : ∀ q, q < m → ¬ c8 n tp (np q) = c8 n tp i := fun q hq h => by rw [hasN_t hq h] at hno; exact absurd hno (by decide)
  refine ⟨a1, by omega, by omega, fun q hq => ?_, fun s hs => ?_, fun c hc => ?_, fun q hq q' hq' h => ?_⟩
  · by_cases e : q = m
    · subst e
      rw [updN_s, updN_s]
      exact ⟨ht, by omega⟩
    · rw [updN_n _ _ e, updN_n _ _ e]
      have := a4 q (by omega)
      exact ⟨this.1, by omega⟩
  · obtain ⟨q, hq, he⟩ := a5 s hs
    exact ⟨q, by omega, by rw [updN_n _ _ (by omega)]; exact he⟩
  · by_cases e : c = C
    · exact ⟨m, by omega, by rw [updN_s, e]⟩
    · obtain ⟨q, hq, he⟩ := a6 c (by omega)
      exact ⟨q, by omega, by rw [updN_n _ _ (by omega)]; exact he⟩
  · by_cases e : q = m
    · by_cases e' : q' = m
      · omega
      · rw [e, updN_s, updN_n _ _ e'] at h
        exact absurd h.symm (hne q' (by omega))
    · by_cases e' : q' = m
      · rw [e', updN_s, updN_n _ _ e] at h
        exact absurd h (hne q (by omega))
      · rw [updN_n _ _ e, updN_n _ _ e'] at h
        exact a7 q (by omega) q' (by omega) h
def crF (n : Nat) (tp : Nat → Nat) (m : Nat) (np : Nat → Nat) (C k : Nat) : Nat := if C < 6 then (if nnF n tp m np (k + 1) = 0 then (if 16 ≤ tW n tp (k + 2) ∧ tW n tp (k + 2) ≤ 21 then (if afF n tp (k + 3) 7 1 60 = 0 then (if afF n tp (k + 5) 8 0 20 = 0 then afF n tp (k + 7) 9 0 9 else afF n tp (k + 5) 8 0 20) else afF n tp (k + 3) 7 1 60) else 1 + 16 * ps n tp (k + 2)) else nnF n tp m np (k + 1) + 16 * ps n tp (k + 1)) else 5 + 16 * ps n tp k
def crT (T : Vw) (kd sk lk th : Nat) : Vw := fun a b => if a = 0 ∧ b = 2 then T 0 2 + 1 else if a = 5 ∧ b = T 0 2 then kd else if a = 6 ∧ b = T 0 2 then sk else if a = 7 ∧ b = T 0 2 then lk else if a = 8 ∧ b = T 0 2 then th else T a b
theorem crT_n (T : Vw) (kd sk lk th : Nat) {x y : Nat} (h1 : ¬ (x = 0 ∧ y = 2)) (h2 : x ≤ 4) : crT T kd sk lk th x y = T x y := by
  unfold crT
  rw [if_neg h1, if_neg (by omega), if_neg (by omega), if_neg (by omega), if_neg (by omega)]
theorem crT_2 (T : Vw) (kd sk lk th : Nat) : crT T kd sk lk th 0 2 = T 0 2 + 1 := if_pos ⟨rfl, rfl⟩
theorem crT_5 (T : Vw) (kd sk lk th c : Nat) : crT T kd sk lk th 5 c = if c = T 0 2 then kd else T 5 c := by
  unfold crT
  by_cases e : c = T 0 2
  · rw [if_neg (by omega), if_pos ⟨rfl, e⟩, if_pos e]
  · rw [if_neg (by omega), if_neg (by omega), if_neg (by omega), if_neg (by omega), if_neg (by omega), if_neg e]
theorem crT_6 (T : Vw) (kd sk lk th c : Nat) : crT T kd sk lk th 6 c = if c = T 0 2 then sk else T 6 c := by
  unfold crT
  by_cases e : c = T 0 2
  · rw [if_neg (by omega), if_neg (by omega), if_pos ⟨rfl, e⟩, if_pos e]
  · rw [if_neg (by omega), if_neg (by omega), if_neg (by omega), if_neg (by omega), if_neg (by omega), if_neg e]
theorem crT_7 (T : Vw) (kd sk lk th c : Nat) : crT T kd sk lk th 7 c = if c = T 0 2 then lk else T 7 c := by
  unfold crT
  by_cases e : c = T 0 2
  · rw [if_neg (by omega), if_neg (by omega), if_neg (by omega), if_pos ⟨rfl, e⟩, if_pos e]
  · rw [if_neg (by omega), if_neg (by omega), if_neg (by omega), if_neg (by omega), if_neg (by omega), if_neg e]
theorem crT_8 (T : Vw) (kd sk lk th c : Nat) : crT T kd sk lk th 8 c = if c = T 0 2 then th else T 8 c := by
  unfold crT
  by_cases e : c = T 0 2
  · rw [if_neg (by omega), if_neg (by omega), if_neg (by omega), if_neg (by omega), if_pos ⟨rfl, e⟩, if_pos e]
  · rw [if_neg (by omega), if_neg (by omega), if_neg (by omega), if_neg (by omega), if_neg (by omega), if_neg e]
theorem XDr_cr {T : Vw} {σ τ : St} {kd sk lk th : Nat} (hx : XDr T σ) (e2 : τ.1 10 2 = I (T 0 2 + 1)) (e10 : ∀ j, j ≠ 2 → τ.1 10 j = σ.1 10 j) (e15 : ∀ c, τ.1 15 c = if c = T 0 2 then I kd else σ.1 15 c) (e16 : ∀ c, τ.1 16 c = if c = T 0 2 then I sk else σ.1 16 c) (e17 : ∀ c, τ.1 17 c = if c = T 0 2 then I lk else σ.1 17 c) (e18 : ∀ c, τ.1 18 c = if c = T 0 2 then I th else σ.1 18 c) (er : ∀ i, 11 ≤ i → i ≤ 14 → τ.1 i = σ.1 i) : XDr (crT T kd sk lk th) τ := by
  obtain ⟨a0, a1, a2, a3, a4, a5, a6, a7, a8⟩ := hx
  refine ⟨?_, ?_, ?_, ?_, ?_, ?_, fun s hs => ?_, fun q hq => ?_, fun c hc => ?_⟩
  · rw [crT_n _ _ _ _ _ (by omega) (by omega)]; exact (e10 0 (by decide)).trans a0
  · rw [crT_n _ _ _ _ _ (by omega) (by omega)]; exact (e10 1 (by decide)).trans a1
  · rw [crT_2]; exact e2
  · rw [crT_n _ _ _ _ _ (by omega) (by omega)]; exact (e10 14 (by decide)).trans a3
  · rw [crT_n _ _ _ _ _ (by omega) (by omega)]; exact (e10 15 (by decide)).trans a4
  · rw [crT_n _ _ _ _ _ (by omega) (by omega)]; exact (e10 16 (by decide)).trans a5
  · rw [crT_n _ _ _ _ _ (by omega) (by omega)] at hs
    rw [crT_n _ _ _ _ _ (by omega) (by omega), crT_n _ _ _ _ _ (by omega) (by omega)]
    show τ.1 11 s = _ ∧ τ.1 12 s = _
    rw [er 11 (by omega) (by omega), er 12 (by omega) (by omega)]
    exact a6 s hs
  · rw [crT_n _ _ _ _ _ (by omega) (by omega), crT_n _ _ _ _ _ (by omega) (by omega)]
    show τ.1 13 q = _ ∧ (_ → τ.1 14 q = _)
    rw [er 13 (by omega) (by omega), er 14 (by omega) (by omega)]
    exact a7 q hq
  · rw [crT_2] at hc
    rw [crT_5, crT_6, crT_7, crT_8]
    show τ.1 15 c = _ ∧ τ.1 16 c = _ ∧ τ.1 17 c = _ ∧ τ.1 18 c = _
    rw [e15, e16, e17, e18]
    by_cases e : c = T 0 2
    · rw [if_pos e, if_pos e, if_pos e, if_pos e, if_pos e, if_pos e, if_pos e, if_pos e]
      exact ⟨rfl, rfl, rfl, rfl⟩
    · rw [if_neg e, if_neg e, if_neg e, if_neg e, if_neg e, if_neg e, if_neg e, if_neg e]
      exact a8 c (by omega)
theorem MDr_cr {T : Vw} {σ τ : St} {kd sk lk th : Nat} (h7 : T 0 0 ≤ 7) (h6 : T 0 2 < 6) (hx : MDr T σ) (e2 : τ.1 6 162 = I (T 0 2 + 1)) (ek : τ.1 6 (280 + 4 * T 0 2) = I kd) (es : τ.1 6 (280 + 4 * T 0 2 + 1) = I sk) (el : τ.1 6 (280 + 4 * T 0 2 + 2) = I lk) (et : τ.1 6 (280 + 4 * T 0 2 + 3) = I th) (er : ∀ j, 160 ≤ j → j ≠ 162 → (j < 280 + 4 * T 0 2 ∨ 280 + 4 * T 0 2 + 3 < j) → τ.1 6 j = σ.1 6 j) : MDr (crT T kd sk lk th) τ := by
  obtain ⟨a0, a1, a2, a3, a4, a5, a6, a7, a8⟩ := hx
  refine ⟨?_, ?_, ?_, ?_, ?_, ?_, fun s hs => ?_, fun q hq => ?_, fun c hc => ?_⟩
  · rw [crT_n _ _ _ _ _ (by omega) (by omega)]; exact (er 160 (by omega) (by omega) (by omega)).trans a0
  · rw [crT_n _ _ _ _ _ (by omega) (by omega)]; exact (er 161 (by omega) (by omega) (by omega)).trans a1
  · rw [crT_2]; exact e2
  · rw [crT_n _ _ _ _ _ (by omega) (by omega)]; exact (er 163 (by omega) (by omega) (by omega)).trans a3
  · rw [crT_n _ _ _ _ _ (by omega) (by omega)]; exact (er 164 (by omega) (by omega) (by omega)).trans a4
  · rw [crT_n _ _ _ _ _ (by omega) (by omega)]; exact (er 165 (by omega) (by omega) (by omega)).trans a5
  · rw [crT_n _ _ _ _ _ (by omega) (by omega)] at hs
    rw [crT_n _ _ _ _ _ (by omega) (by omega), crT_n _ _ _ _ _ (by omega) (by omega)]
    show τ.1 6 (160 + (8 + 2 * s)) = _ ∧ τ.1 6 (160 + (8 + 2 * s + 1)) = _
    rw [er _ (by omega) (by omega) (by omega), er _ (by omega) (by omega) (by omega)]
    exact a6 s hs
  · rw [crT_n _ _ _ _ _ (by omega) (by omega), crT_n _ _ _ _ _ (by omega) (by omega)]
    show τ.1 6 (160 + (22 + 2 * q)) = _ ∧ (_ → τ.1 6 (160 + (22 + 2 * q + 1)) = _)
    rw [er _ (by omega) (by omega) (by omega), er _ (by omega) (by omega) (by omega)]
    exact a7 q hq
  · rw [crT_2] at hc
    rw [crT_5, crT_6, crT_7, crT_8]
    show τ.1 6 (160 + (120 + 4 * c)) = _ ∧ τ.1 6 (160 + (120 + 4 * c + 1)) = _ ∧ τ.1 6 (160 + (120 + 4 * c + 2)) = _ ∧ τ.1 6 (160 + (120 + 4 * c + 3)) = _
    by_cases e : c = T 0 2
    · rw [if_pos e, if_pos e, if_pos e, if_pos e, e, show 160 + (120 + 4 * T 0 2) = 280 + 4 * T 0 2 by omega, show 160 + (120 + 4 * T 0 2 + 1) = 280 + 4 * T 0 2 + 1 by omega, show 160 + (120 + 4 * T 0 2 + 2) = 280 + 4 * T 0 2 + 2 by omega, show 160 + (120 + 4 * T 0 2 + 3) = 280 + 4 * T 0 2 + 3 by omega]
      exact ⟨ek, es, el, et⟩
    · rw [if_neg e, if_neg e, if_neg e, if_neg e, er _ (by omega) (by omega) (by omega), er _ (by omega) (by omega) (by omega), er _ (by omega) (by omega) (by omega), er _ (by omega) (by omega) (by omega)]
      exact a8 c (by omega)
theorem kd_iff {W : Nat} (hW : W < 42) : wdS.getD W 0 = (1 : Int32) ↔ 16 ≤ W ∧ W ≤ 21 := by
  have h : ∀ W, W < 42 → (wdS.getD W 0 = (1 : Int32) ↔ 16 ≤ W ∧ W ≤ 21) := by decide +kernel
  exact h W hW
theorem kd_num {W : Nat} (h1 : 16 ≤ W ∧ W ≤ 21) : wdM.getD W 0 = I (W - 16) := by
  have h : ∀ W, W < 22 → 16 ≤ W → wdM.getD W 0 = I (W - 16) := by decide +kernel
  exact h W (by omega) h1.1
