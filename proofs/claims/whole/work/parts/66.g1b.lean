theorem litI (n : Nat) : (@OfNat.ofNat Int32 n Int32.instOfNat) = I n := rfl
theorem q_way {σx σm : St} {nS : Nat} (hn : nS ≤ 7) (h1 : σx.1 23 0 = I nS) (h2 : σm.1 6 0 = I nS) (hw : ∀ q, q < 49 → σx.1 26 q = σm.1 6 (22 + 2 * q) ∧ (0 < σx.1 26 q → σx.1 27 q = σm.1 6 (22 + 2 * q + 1))) (a b w : Int32) :
    ∃ r : Int32, rX_way a b w σx = some (r, σx) ∧ rM_way a b w σm = some (r, setI σm 0 0 0) := by
  unfold rX_way rM_way rM_way_50 rM_way_51 rX_way_34
  rw [nmE, eX_hasStation, bnd2_e, eM_isStation, bnd2_e, set0_1 _ _ (by decide), h1, h2]
  by_cases ha : inR a (I nS)
  · rw [show b01 (inR a (I nS)) = 1 from if_pos ha, brc_f (show ¬ (1 : Int32) = 0 by decide), brc_f (show ¬ (1 : Int32) = 0 by decide), eX_hasStation, bnd2_e, eM_isStation, bnd2_e, set0_1 _ _ (by decide), h1, h2]
    by_cases hb : inR b (I nS)
    · obtain ⟨x, rfl, hx⟩ := inR_I (by omega) ha
      obtain ⟨y, rfl, hy⟩ := inR_I (by omega) hb
      rw [show b01 (inR (I y) (I nS)) = 1 from if_pos hb, brc_f (show ¬ (1 : Int32) = 0 by decide), brc_f (show ¬ (1 : Int32) = 0 by decide), eX_hasWay _ (by omega) (by omega), bnd2_e, eM_within, bnd2_e, show (0 : Int32) = I 0 from rfl, eM_wayOf _ (by omega) (by omega) (by omega), bnd2_e, set0_1 _ _ (by decide)]
      obtain ⟨e1, e2⟩ := hw (7 * x + y) (by omega)
      rw [Nat.add_zero, ← e1, show I 0 = (0 : Int32) from rfl]
      have ew : I x * 7 + I y = I (7 * x + y) := by
        simp only [litI, I_mul, I_add, Nat.mul_comm x 7]
      by_cases hp : 0 < σx.1 26 (7 * x + y)
      · rw [show b01 (0 < σx.1 26 (7 * x + y)) = 1 from if_pos hp, brc_t (show ¬ (1 : Int32) = 0 by decide), ew, brc_f (a := some (-1, setI σm 0 0 0)) (show ¬ σx.1 26 (7 * x + y) ≤ 0 from not_le32.mpr hp)]
        by_cases h01 : w = 0
        · subst h01
          refine ⟨σx.1 26 (7 * x + y), ?_, ?_⟩
          · rw [brc_t (by decide), chk_t (ib_I (by omega) (by omega)), I_cl (by omega)]
          · rw [show b01 ((0 : Int32) ≤ 0 ∧ (0 : Int32) ≤ 1) = 1 by decide, brc_f (show ¬ (1 : Int32) = 0 by decide), show (0 : Int32) = I 0 from rfl, eM_wayOf _ (by omega) (by omega) (by omega), bnd2_e, set0_1 _ _ (by decide), Nat.add_zero, ← e1]
        · by_cases h11 : w = 1
          · subst h11
            refine ⟨σx.1 27 (7 * x + y), ?_, ?_⟩
            · rw [brc_f (by decide), brc_t (by decide), chk_t (ib_I (by omega) (by omega)), I_cl (by omega)]
            · rw [show b01 ((0 : Int32) ≤ 1 ∧ (1 : Int32) ≤ 1) = 1 by decide, brc_f (show ¬ (1 : Int32) = 0 by decide), show (1 : Int32) = I 1 from rfl, eM_wayOf _ (by omega) (by omega) (by omega), bnd2_e, set0_1 _ _ (by decide), ← e2 hp]
          · refine ⟨-1, ?_, ?_⟩
            · rw [brc_f (show ¬ w.toInt = 0 from toInt_ne (k := 0) h01), brc_f (show ¬ w.toInt = 1 from toInt_ne (k := 1) h11)]
            · have hno : ¬ (0 ≤ w ∧ w ≤ 1) := fun h => by
                rcases (within2 w).mp ⟨h.1, Int32.le_trans h.2 (by decide)⟩ with e | e | e
                · exact h01 e
                · exact h11 e
                · rw [e] at h; exact absurd h.2 (by decide)
              rw [show b01 (0 ≤ w ∧ w ≤ 1) = 0 from if_neg hno, brc_t (show (0 : Int32) = 0 from rfl)]
      · refine ⟨-1, ?_, ?_⟩
        · rw [show b01 (0 < σx.1 26 (7 * x + y)) = 0 from if_neg hp, brc_f (show ¬ ¬ (0 : Int32) = 0 by decide)]
        · by_cases hno : (0 ≤ w ∧ w ≤ 1)
          · rw [show b01 (0 ≤ w ∧ w ≤ 1) = 1 from if_pos hno, brc_f (show ¬ (1 : Int32) = 0 by decide), brc_t (show σx.1 26 (7 * x + y) ≤ 0 from not_lt32.mp hp)]
          · rw [show b01 (0 ≤ w ∧ w ≤ 1) = 0 from if_neg hno, brc_t (show (0 : Int32) = 0 from rfl)]
    · rw [show b01 (inR b (I nS)) = 0 from if_neg hb, brc_t (show (0 : Int32) = 0 from rfl), brc_t (show (0 : Int32) = 0 from rfl)]
      exact ⟨-1, rfl, rfl⟩
  · rw [show b01 (inR a (I nS)) = 0 from if_neg ha, brc_t (show (0 : Int32) = 0 from rfl), brc_t (show (0 : Int32) = 0 from rfl)]
    exact ⟨-1, rfl, rfl⟩
