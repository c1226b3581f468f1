theorem eM_isPatched (σ : St) (v : Int32) : rM_isPatched v σ = some (b01 ((σ.1 16 36 >>> (v &&& 31)) &&& 1 = 1), σ) := by
  unfold rM_isPatched rM_isPatched_20
  rw [show ib (36 : Int32) 6000 = true from rfl, chk_e, show (36 : Int32).toNatClampNeg = 36 from rfl, brc_e]
  unfold b01
  by_cases h : (σ.1 16 36 >>> (v &&& 31)) &&& 1 = 1
  · rw [if_neg (fun h9 => h9 h), if_pos h]; rfl
  · rw [if_pos h, if_neg h]; rfl
theorem within6 (v : Int32) : (0 ≤ v ∧ v ≤ 6) ↔ (v = 0 ∨ v = 1 ∨ v = 2 ∨ v = 3 ∨ v = 4 ∨ v = 5 ∨ v = 6) := by
  constructor
  · rintro ⟨h1, h2⟩
    rw [Int32.le_iff_toInt_le] at h1 h2
    have e0 : (0 : Int32).toInt = 0 := rfl
    have e2 : (6 : Int32).toInt = 6 := rfl
    rw [e0] at h1
    rw [e2] at h2
    have : v.toInt = 0 ∨ v.toInt = 1 ∨ v.toInt = 2 ∨ v.toInt = 3 ∨ v.toInt = 4 ∨ v.toInt = 5 ∨ v.toInt = 6 := by omega
    rcases this with h | h | h | h | h | h | h
    · exact Or.inl (Int32.toInt_inj.mp h)
    · exact Or.inr (Or.inl (Int32.toInt_inj.mp h))
    · exact Or.inr (Or.inr (Or.inl (Int32.toInt_inj.mp h)))
    · exact Or.inr (Or.inr (Or.inr (Or.inl (Int32.toInt_inj.mp h))))
    · exact Or.inr (Or.inr (Or.inr (Or.inr (Or.inl (Int32.toInt_inj.mp h)))))
    · exact Or.inr (Or.inr (Or.inr (Or.inr (Or.inr (Or.inl (Int32.toInt_inj.mp h))))))
    · exact Or.inr (Or.inr (Or.inr (Or.inr (Or.inr (Or.inr (Int32.toInt_inj.mp h))))))
  · rintro (rfl | rfl | rfl | rfl | rfl | rfl | rfl) <;> decide
