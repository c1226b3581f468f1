/-! one way more -/
theorem E21_wy {T : Vw} {a b l t : Nat} (hl : 0 < l) (ha : a < 7) (hb : b < 7) (hne : a ≠ b) : E21 (wyT T a b l t) ≤ E21 T + 1 := by
  rw [E21_eq, E21_eq]
  simp only [wb_wy hl]
  have ea : a = 0 ∨ a = 1 ∨ a = 2 ∨ a = 3 ∨ a = 4 ∨ a = 5 ∨ a = 6 := by omega
  have eb : b = 0 ∨ b = 1 ∨ b = 2 ∨ b = 3 ∨ b = 4 ∨ b = 5 ∨ b = 6 := by omega
  rcases ea with rfl | rfl | rfl | rfl | rfl | rfl | rfl <;> rcases eb with rfl | rfl | rfl | rfl | rfl | rfl | rfl <;> first | exact absurd rfl hne | (simp; omega)
