/-! the draft of the reference with a way -/
theorem MDr_wy {T : Vw} {σ τ : St} {a b l t : Nat} (hx : MDr T σ) (e1 : τ.1 6 161 = I (T 0 1 + 1)) (ew : ∀ q, q < 49 → τ.1 6 (182 + 2 * q) = (if q = 7 * a + b ∨ q = 7 * b + a then I l else σ.1 6 (182 + 2 * q)) ∧ τ.1 6 (182 + 2 * q + 1) = (if q = 7 * a + b ∨ q = 7 * b + a then I t else σ.1 6 (182 + 2 * q + 1))) (er : ∀ j, 160 ≤ j → j ≠ 161 → (j < 182 ∨ 280 ≤ j) → τ.1 6 j = σ.1 6 j) (h7 : T 0 0 ≤ 7) : MDr (wyT T a b l t) τ := by
  obtain ⟨a0, a1, a2, a3, a4, a5, a6, a7, a8⟩ := hx
  refine ⟨?_, ?_, ?_, ?_, ?_, ?_, fun s hs => ?_, fun q hq => ?_, fun c hc => ?_⟩
  · rw [wyT_n _ _ _ _ _ (by omega) (by omega) (by omega)]; exact (er 160 (by omega) (by omega) (by omega)).trans a0
  · exact e1
  · rw [wyT_n _ _ _ _ _ (by omega) (by omega) (by omega)]; exact (er 162 (by omega) (by omega) (by omega)).trans a2
  · rw [wyT_n _ _ _ _ _ (by omega) (by omega) (by omega)]; exact (er 163 (by omega) (by omega) (by omega)).trans a3
  · rw [wyT_n _ _ _ _ _ (by omega) (by omega) (by omega)]; exact (er 164 (by omega) (by omega) (by omega)).trans a4
  · rw [wyT_n _ _ _ _ _ (by omega) (by omega) (by omega)]; exact (er 165 (by omega) (by omega) (by omega)).trans a5
  · rw [wyT_n _ _ _ _ _ (by omega) (by omega) (by omega)] at hs
    rw [wyT_n _ _ _ _ _ (by omega) (by omega) (by omega), wyT_n _ _ _ _ _ (by omega) (by omega) (by omega)]
    show τ.1 6 (160 + (8 + 2 * s)) = _ ∧ τ.1 6 (160 + (8 + 2 * s + 1)) = _
    rw [er _ (by omega) (by omega) (by omega), er _ (by omega) (by omega) (by omega)]
    exact a6 s hs
  · rw [wyT_3, wyT_4]
    have h1 := ew q hq
    have h2 := a7 q hq
    show τ.1 6 (160 + (22 + 2 * q)) = _ ∧ (_ → τ.1 6 (160 + (22 + 2 * q + 1)) = _)
    rw [show 160 + (22 + 2 * q) = 182 + 2 * q by omega, show 160 + (22 + 2 * q + 1) = 182 + 2 * q + 1 by omega, h1.1, h1.2]
    by_cases e : q = 7 * a + b ∨ q = 7 * b + a
    · rw [if_pos e, if_pos e, if_pos e, if_pos e]; exact ⟨rfl, fun _ => rfl⟩
    · rw [if_neg e, if_neg e, if_neg e, if_neg e, show 182 + 2 * q = 160 + (22 + 2 * q) by omega, show 160 + (22 + 2 * q) + 1 = 160 + (22 + 2 * q + 1) by omega]; exact h2
  · rw [wyT_n _ _ _ _ _ (by omega) (by omega) (by omega)] at hc
    rw [wyT_n _ _ _ _ _ (by omega) (by omega) (by omega), wyT_n _ _ _ _ _ (by omega) (by omega) (by omega), wyT_n _ _ _ _ _ (by omega) (by omega) (by omega), wyT_n _ _ _ _ _ (by omega) (by omega) (by omega)]
    show τ.1 6 (160 + (120 + 4 * c)) = _ ∧ τ.1 6 (160 + (120 + 4 * c + 1)) = _ ∧ τ.1 6 (160 + (120 + 4 * c + 2)) = _ ∧ τ.1 6 (160 + (120 + 4 * c + 3)) = _
    rw [er _ (by omega) (by omega) (by omega), er _ (by omega) (by omega) (by omega), er _ (by omega) (by omega) (by omega), er _ (by omega) (by omega) (by omega)]
    exact a8 c hc
