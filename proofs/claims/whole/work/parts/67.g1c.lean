theorem q_count {σx σm : St} (h : σx.1 23 0 = σm.1 6 0 ∧ σx.1 23 1 = σm.1 6 1 ∧ σx.1 23 2 = σm.1 6 2 ∧ σx.1 33 0 = σm.1 16 38 ∧ σx.1 33 2 = σm.1 16 39 ∧ σx.1 23 16 = σm.1 6 5 ∧ σx.1 33 4 = σm.1 16 42 ∧ σx.1 0 11 = σm.1 0 25 ∧ σx.1 5 2 = σm.1 0 2) (v : Int32) :
    ∃ r : Int32, rX_count v σx = some (r, σx) ∧ rM_count v σm = some (r, setI σm 0 0 0) := by
  obtain ⟨a0, a1, a2, a3, a4, a5, a6, a7, a8⟩ := h
  have z : ∀ j, j ≠ 0 → (setI σm 0 0 0).1 0 j = σm.1 0 j := fun j hj => by rw [setI_same]; exact if_neg hj
  unfold rX_count rM_count
  simp only [nmE, eM_stations, eM_carriers, bnd2_e, brc_e]
  rw [a0, a1, a2, a3, a4, a5, a6, a7, a8]
  rw [show ib (1 : Int32) 320 = true from rfl, show ib (38 : Int32) 6000 = true from rfl, show ib (39 : Int32) 6000 = true from rfl, show ib (5 : Int32) 320 = true from rfl, show ib (42 : Int32) 6000 = true from rfl]
  simp only [chk_e, set0_1 σm 0 (show (6 : Nat) ≠ 0 by decide), set0_1 σm 0 (show (16 : Nat) ≠ 0 by decide), z 25 (by decide), z 2 (by decide)]
  by_cases h0 : v.toInt = 0
  · simp only [if_pos h0]; exact ⟨_, rfl, rfl⟩
  · simp only [if_neg h0]
    by_cases h1 : v.toInt = 1
    · simp only [if_pos h1]; exact ⟨_, rfl, rfl⟩
    · simp only [if_neg h1]
      by_cases h2 : v.toInt = 2
      · simp only [if_pos h2]; exact ⟨_, rfl, rfl⟩
      · simp only [if_neg h2]
        by_cases h3 : v.toInt = 3
        · simp only [if_pos h3]; exact ⟨_, rfl, rfl⟩
        · simp only [if_neg h3]
          by_cases h4 : v.toInt = 4
          · simp only [if_pos h4]; exact ⟨_, rfl, rfl⟩
          · simp only [if_neg h4]
            by_cases h5 : v.toInt = 5
            · simp only [if_pos h5]; exact ⟨_, rfl, rfl⟩
            · simp only [if_neg h5]
              by_cases h6 : v.toInt = 6
              · simp only [if_pos h6]; exact ⟨_, rfl, rfl⟩
              · simp only [if_neg h6]
                by_cases h7 : v.toInt = 7
                · simp only [if_pos h7]; exact ⟨_, rfl, rfl⟩
                · simp only [if_neg h7]
                  by_cases h8 : v.toInt = 8
                  · simp only [if_pos h8]; exact ⟨_, rfl, rfl⟩
                  · simp only [if_neg h8]; exact ⟨_, rfl, rfl⟩
