/-! the draft of the class with a way -/
theorem wyT_n (T : Vw) (a b l t : Nat) {x y : Nat} (h1 : ¬ (x = 0 ∧ y = 1)) (h3 : ¬ x = 3) (h4 : ¬ x = 4) : wyT T a b l t x y = T x y := by
  show (if x = 0 ∧ y = 1 then T 0 1 + 1 else if x = 3 ∧ (y = 7 * a + b ∨ y = 7 * b + a) then l else if x = 4 ∧ (y = 7 * a + b ∨ y = 7 * b + a) then t else T x y) = T x y
  rw [if_neg h1, if_neg (fun h => h3 h.1), if_neg (fun h => h4 h.1)]
theorem wyT_4 (T : Vw) (a b l t q : Nat) : wyT T a b l t 4 q = if q = 7 * a + b ∨ q = 7 * b + a then t else T 4 q := by
  show (if 4 = 0 ∧ q = 1 then T 0 1 + 1 else if 4 = 3 ∧ (q = 7 * a + b ∨ q = 7 * b + a) then l else if 4 = 4 ∧ (q = 7 * a + b ∨ q = 7 * b + a) then t else T 4 q) = _
  by_cases e : q = 7 * a + b ∨ q = 7 * b + a
  · rw [if_neg (by omega), if_neg (by omega), if_pos ⟨rfl, e⟩, if_pos e]
  · rw [if_neg (by omega), if_neg (by omega), if_neg (fun h => e h.2), if_neg e]
theorem XDr_wy {T : Vw} {σ τ : St} {a b l t : Nat} (hx : XDr T σ) (e1 : τ.1 10 1 = I (T 0 1 + 1)) (e10 : ∀ j, j ≠ 1 → τ.1 10 j = σ.1 10 j) (e13 : ∀ q, τ.1 13 q = if q = 7 * a + b ∨ q = 7 * b + a then I l else σ.1 13 q) (e14 : ∀ q, τ.1 14 q = if q = 7 * a + b ∨ q = 7 * b + a then I t else σ.1 14 q) (er : ∀ i, i = 11 ∨ i = 12 ∨ (15 ≤ i ∧ i ≤ 18) → τ.1 i = σ.1 i) : XDr (wyT T a b l t) τ := by
  obtain ⟨a0, a1, a2, a3, a4, a5, a6, a7, a8⟩ := hx
  refine ⟨?_, ?_, ?_, ?_, ?_, ?_, fun s hs => ?_, fun q hq => ?_, fun c hc => ?_⟩
  · rw [wyT_n _ _ _ _ _ (by omega) (by omega) (by omega)]; exact (e10 0 (by decide)).trans a0
  · exact e1
  · rw [wyT_n _ _ _ _ _ (by omega) (by omega) (by omega)]; exact (e10 2 (by decide)).trans a2
  · rw [wyT_n _ _ _ _ _ (by omega) (by omega) (by omega)]; exact (e10 14 (by decide)).trans a3
  · rw [wyT_n _ _ _ _ _ (by omega) (by omega) (by omega)]; exact (e10 15 (by decide)).trans a4
  · rw [wyT_n _ _ _ _ _ (by omega) (by omega) (by omega)]; exact (e10 16 (by decide)).trans a5
  · rw [wyT_n _ _ _ _ _ (by omega) (by omega) (by omega)] at hs
    rw [wyT_n _ _ _ _ _ (by omega) (by omega) (by omega), wyT_n _ _ _ _ _ (by omega) (by omega) (by omega)]
    show τ.1 11 s = _ ∧ τ.1 12 s = _
    rw [er 11 (by omega), er 12 (by omega)]
    exact a6 s hs
  · rw [wyT_3, wyT_4]
    show τ.1 13 q = _ ∧ (_ → τ.1 14 q = _)
    rw [e13, e14]
    by_cases e : q = 7 * a + b ∨ q = 7 * b + a
    · rw [if_pos e, if_pos e, if_pos e, if_pos e]; exact ⟨rfl, fun _ => rfl⟩
    · rw [if_neg e, if_neg e, if_neg e, if_neg e]; exact a7 q hq
  · rw [wyT_n _ _ _ _ _ (by omega) (by omega) (by omega)] at hc
    rw [wyT_n _ _ _ _ _ (by omega) (by omega) (by omega), wyT_n _ _ _ _ _ (by omega) (by omega) (by omega), wyT_n _ _ _ _ _ (by omega) (by omega) (by omega), wyT_n _ _ _ _ _ (by omega) (by omega) (by omega)]
    show τ.1 15 c = _ ∧ τ.1 16 c = _ ∧ τ.1 17 c = _ ∧ τ.1 18 c = _
    rw [er 15 (by omega), er 16 (by omega), er 17 (by omega), er 18 (by omega)]
    exact a8 c hc
