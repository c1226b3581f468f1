/-! answers that are read off -/
theorem set0_1 (σ : St) (v : Int32) {i j : Nat} (h : i ≠ 0) : (setI σ 0 0 v).1 i j = σ.1 i j := by
  rw [show (setI σ 0 0 v).1 i = σ.1 i from setR_ne σ _ h]
theorem inR_I {v : Int32} {n : Nat} (hn : n < 2147483648) (h : inR v (I n)) : ∃ k : Nat, v = I k ∧ k < n := by
  obtain ⟨k, rfl, hk⟩ := I_of h.1
  exact ⟨k, rfl, (I_lt hk hn).mp h.2⟩
theorem inR_of {k n : Nat} (hn : n < 2147483648) (h : k < n) : inR (I k) (I n) := by
  refine ⟨?_, (I_lt (by omega) hn).mpr h⟩
  rw [show (0 : Int32) = I 0 from rfl, I_le (by omega) (by omega)]
  omega
theorem within2 (v : Int32) : (0 ≤ v ∧ v ≤ 2) ↔ (v = 0 ∨ v = 1 ∨ v = 2) := by
  constructor
  · rintro ⟨h1, h2⟩
    rw [Int32.le_iff_toInt_le] at h1 h2
    have e0 : (0 : Int32).toInt = 0 := rfl
    have e2 : (2 : Int32).toInt = 2 := rfl
    rw [e0] at h1
    rw [e2] at h2
    have : v.toInt = 0 ∨ v.toInt = 1 ∨ v.toInt = 2 := by omega
    rcases this with h | h | h
    · exact Or.inl (Int32.toInt_inj.mp h)
    · exact Or.inr (Or.inl (Int32.toInt_inj.mp h))
    · exact Or.inr (Or.inr (Int32.toInt_inj.mp h))
  · rintro (rfl | rfl | rfl) <;> decide
theorem toInt_ne {v : Int32} {k : Int32} (h : v ≠ k) : ¬ v.toInt = k.toInt := fun e => h (Int32.toInt_inj.mp e)
theorem q_station {σx σm : St} {nS : Nat} (hn : nS ≤ 7) (h1 : σx.1 23 0 = I nS) (h2 : σm.1 6 0 = I nS) (hs : ∀ s, s < nS → σx.1 24 s = σm.1 6 (8 + 2 * s) ∧ σx.1 25 s = σm.1 6 (8 + 2 * s + 1) ∧ σx.1 34 s = σm.1 16 (43 + s)) (v w : Int32) :
    ∃ r : Int32, rX_station v w σx = some (r, σx) ∧ rM_station v w σm = some (r, setI σm 0 0 0) := by
  unfold rX_station rM_station rM_station_22 rM_station_54
  rw [eX_hasStation, bnd2_e, nmE, eM_isStation, bnd2_e, eM_within, bnd2_e, set0_1 _ _ (by decide), h1, h2]
  by_cases hv : inR v (I nS)
  · obtain ⟨s, rfl, hsn⟩ := inR_I (by omega) hv
    obtain ⟨e1, e2, e3⟩ := hs s hsn
    have hb : b01 (inR (I s) (I nS)) = 1 := if_pos hv
    rw [hb, brc_t (show ¬ (1 : Int32) = 0 by decide), brc_f (show ¬ (1 : Int32) = 0 by decide)]
    by_cases hw : 0 ≤ w ∧ w ≤ 2
    · rw [show b01 (0 ≤ w ∧ w ≤ 2) = 1 from if_pos hw, brc_t (show ¬ (1 : Int32) = 0 by decide)]
      rcases (within2 w).mp hw with rfl | rfl | rfl
      · refine ⟨σx.1 24 s, ?_, ?_⟩
        · rw [brc_t (by decide), chk_t (ib_I (by omega) (by omega)), I_cl (by omega)]
        · rw [brc_f (by decide), show (8 : Int32) + 2 * I s + 0 = I (8 + 2 * s + 0) by rw [show (8 : Int32) = I 8 from rfl, show (2 : Int32) = I 2 from rfl, show (0 : Int32) = I 0 from rfl, I_mul, I_add, I_add], chk_t (ib_I (by omega) (by omega)), I_cl (by omega), set0_1 _ _ (by decide), e1, Nat.add_zero]
      · refine ⟨σx.1 25 s, ?_, ?_⟩
        · rw [brc_f (by decide), brc_t (by decide), chk_t (ib_I (by omega) (by omega)), I_cl (by omega)]
        · rw [brc_f (by decide), show (8 : Int32) + 2 * I s + 1 = I (8 + 2 * s + 1) by rw [show (8 : Int32) = I 8 from rfl, show (2 : Int32) = I 2 from rfl, show (1 : Int32) = I 1 from rfl, I_mul, I_add, I_add], chk_t (ib_I (by omega) (by omega)), I_cl (by omega), set0_1 _ _ (by decide), e2]
      · refine ⟨σx.1 34 s, ?_, ?_⟩
        · rw [brc_f (by decide), brc_f (by decide), brc_t (by decide), chk_t (ib_I (by omega) (by omega)), I_cl (by omega)]
        · rw [brc_t (by decide), show (43 : Int32) + I s = I (43 + s) by rw [show (43 : Int32) = I 43 from rfl, I_add], chk_t (ib_I (by omega) (by omega)), I_cl (by omega), set0_1 _ _ (by decide), e3]
    · rw [show b01 (0 ≤ w ∧ w ≤ 2) = 0 from if_neg hw, brc_f (show ¬ ¬ (0 : Int32) = 0 by decide)]
      have hw' := fun h => hw ((within2 w).mpr h)
      refine ⟨-1, ?_, rfl⟩
      rw [brc_f (show ¬ w.toInt = 0 from toInt_ne (k := 0) (fun h => hw' (Or.inl h))), brc_f (show ¬ w.toInt = 1 from toInt_ne (k := 1) (fun h => hw' (Or.inr (Or.inl h)))), brc_f (show ¬ w.toInt = 2 from toInt_ne (k := 2) (fun h => hw' (Or.inr (Or.inr h))))]
  · have hb : b01 (inR v (I nS)) = 0 := if_neg hv
    rw [hb, brc_f (show ¬ ¬ (0 : Int32) = 0 by decide), brc_t (show (0 : Int32) = 0 from rfl)]
    exact ⟨-1, rfl, rfl⟩
