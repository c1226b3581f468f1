/-! answers that are read off -/
theorem set0_1 (σ : St) (v : Int32) {i j : Nat} (h : i ≠ 0) : (setI σ 0 0 v).1 i j = σ.1 i j := by
  rw [show (setI σ 0 0 v).1 i = σ.1 i from setR_ne σ _ h]
theorem inR_I {v : Int32} {n : Nat} (hn : n < 2147483648) (h : inR v (I n)) : ∃ k : Nat, v = I k ∧ k < n := by
  obtain ⟨k, rfl, hk⟩ := I_of h.1
  exact ⟨k, rfl, (I_lt hk hn).mp h.2⟩
theorem inR_of {k n : Nat} (hn : n < 2147483648) (h : k < n) : inR (I k) (I n) := by
  refine ⟨?_, (I_lt (by omega) hn).mpr h⟩
  rw [show (0 : Int32) = I 0 from rfl, I_le (by omega) (by omega)]
  omega
