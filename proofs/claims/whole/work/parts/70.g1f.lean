theorem q_paths {σx σm : St} (h : σx.1 42 3 = σm.1 0 27) : ∃ r : Int32, rX_paths σx = some (r, σx) ∧ rM_paths σm = some (r, setI σm 0 0 0) := by
  refine ⟨σx.1 42 3, rfl, ?_⟩
  unfold rM_paths
  rw [nmE, setI_same]
  have : upd (σm.1 0) 0 0 27 = σm.1 0 27 := if_neg (by decide)
  rw [this, h]
theorem q_drank {σx σm : St} {nB : Nat} (hn : nB ≤ 60) (h1 : σx.1 33 4 = I nB) (h2 : σm.1 16 42 = I nB) (hb : ∀ i, i < nB → σx.1 39 i = σm.1 16 (56 + 3 * i) ∧ σx.1 40 i = σm.1 16 (56 + 3 * i + 1) ∧ σx.1 41 i = σm.1 16 (56 + 3 * i + 2)) (v w : Int32) :
    ∃ r : Int32, rX_drank v w σx = some (r, σx) ∧ rM_drank v w σm = some (r, setI σm 0 0 0) := by
  unfold rX_drank rX_drank_15 rM_drank rM_drank_45 rM_drank_46
  rw [nmE, show ib (42 : Int32) 6000 = true from rfl, chk_e, show (42 : Int32).toNatClampNeg = 42 from rfl, set0_1 _ _ (by decide), h1, h2, eM_within, bnd2_e]
  by_cases h0 : v < 0
  · rw [brc_t h0, brc_t h0]; exact ⟨_, rfl, rfl⟩
  · rw [brc_f h0, brc_f h0]
    by_cases hv : v < I nB
    · obtain ⟨i, rfl, hi⟩ := inR_I (by omega) ⟨not_lt32.mp h0, hv⟩
      obtain ⟨e1, e2, e3⟩ := hb i hi
      rw [brc_t hv, brc_f (not_le32.mpr hv)]
      by_cases hw : 0 ≤ w ∧ w ≤ 2
      · rw [show b01 (0 ≤ w ∧ w ≤ 2) = 1 from if_pos hw, brc_f (show ¬ (1 : Int32) = 0 by decide)]
        rcases (within2 w).mp hw with rfl | rfl | rfl
        · refine ⟨σx.1 39 i, ?_, ?_⟩
          · rw [brc_t (by decide), chk_t (ib_I (by omega) (by omega)), I_cl (by omega)]
          · simp only [litI, I_mul, I_add]
            rw [chk_t (ib_I (by omega) (by omega)), I_cl (by omega), set0_1 _ _ (by decide), Nat.add_zero, ← e1]
        · refine ⟨σx.1 40 i, ?_, ?_⟩
          · rw [brc_f (by decide), brc_t (by decide), chk_t (ib_I (by omega) (by omega)), I_cl (by omega)]
          · simp only [litI, I_mul, I_add]
            rw [chk_t (ib_I (by omega) (by omega)), I_cl (by omega), set0_1 _ _ (by decide), ← e2]
        · refine ⟨σx.1 41 i, ?_, ?_⟩
          · rw [brc_f (by decide), brc_f (by decide), brc_t (by decide), chk_t (ib_I (by omega) (by omega)), I_cl (by omega)]
          · simp only [litI, I_mul, I_add]
            rw [chk_t (ib_I (by omega) (by omega)), I_cl (by omega), set0_1 _ _ (by decide), ← e3]
      · have hw' := fun h => hw ((within2 w).mpr h)
        rw [show b01 (0 ≤ w ∧ w ≤ 2) = 0 from if_neg hw, brc_t (show (0 : Int32) = 0 from rfl)]
        refine ⟨-1, ?_, rfl⟩
        rw [brc_f (show ¬ w.toInt = 0 from toInt_ne (k := 0) (fun h => hw' (Or.inl h))), brc_f (show ¬ w.toInt = 1 from toInt_ne (k := 1) (fun h => hw' (Or.inr (Or.inl h)))), brc_f (show ¬ w.toInt = 2 from toInt_ne (k := 2) (fun h => hw' (Or.inr (Or.inr h))))]
    · rw [brc_f hv, brc_t (not_lt32.mp hv)]; exact ⟨_, rfl, rfl⟩
