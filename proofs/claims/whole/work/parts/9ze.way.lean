/-! a way is told: the draft -/
def wyT (T : Vw) (a b l t : Nat) : Vw := fun x y => if x = 0 ∧ y = 1 then T 0 1 + 1 else if x = 3 ∧ (y = 7 * a + b ∨ y = 7 * b + a) then l else if x = 4 ∧ (y = 7 * a + b ∨ y = 7 * b + a) then t else T x y
theorem wyT_3 (T : Vw) (a b l t q : Nat) : wyT T a b l t 3 q = if q = 7 * a + b ∨ q = 7 * b + a then l else T 3 q := by
  show (if 3 = 0 ∧ q = 1 then T 0 1 + 1 else if 3 = 3 ∧ (q = 7 * a + b ∨ q = 7 * b + a) then l else if 3 = 4 ∧ (q = 7 * a + b ∨ q = 7 * b + a) then t else T 3 q) = _
  by_cases e : q = 7 * a + b ∨ q = 7 * b + a
  · rw [if_neg (by omega), if_pos ⟨rfl, e⟩, if_pos e]
  · rw [if_neg (by omega), if_neg (fun h => e h.2), if_neg (by omega), if_neg e]
theorem wyT_sym {T : Vw} (hs : symT T) {a b l t : Nat} (ha : a < 7) (hb : b < 7) : symT (wyT T a b l t) := by
  intro x hx y hy
  rw [wyT_3, wyT_3]
  by_cases e : 7 * x + y = 7 * a + b ∨ 7 * x + y = 7 * b + a
  · rw [if_pos e, if_pos (by omega)]
  · rw [if_neg e, if_neg (by omega)]
    exact hs x hx y hy
theorem wb_wy {T : Vw} {a b l t : Nat} (hl : 0 < l) (x y : Nat) : wb (wyT T a b l t) x y = if 7 * x + y = 7 * a + b ∨ 7 * x + y = 7 * b + a then 1 else wb T x y := by
  unfold wb
  rw [wyT_3]
  by_cases e : 7 * x + y = 7 * a + b ∨ 7 * x + y = 7 * b + a
  · rw [if_pos e, if_pos e, if_neg (by omega)]
  · rw [if_neg e, if_neg e]
theorem wb_step {T : Vw} {a b l t : Nat} (hl : 0 < l) (x y : Nat) : wb (wyT T a b l t) x y ≤ wb T x y + (if 7 * x + y = 7 * a + b ∨ 7 * x + y = 7 * b + a then 1 else 0) := by
  rw [wb_wy hl]
  split <;> omega
