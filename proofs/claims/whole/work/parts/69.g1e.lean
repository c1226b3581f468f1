theorem eX_isPair (a b : Int32) (σ : St) : rX_isPair a b σ = some (b01 ((inR a (σ.1 23 2) ∧ inR b (σ.1 23 2)) ∧ ¬ a = b), σ) := by
  unfold rX_isPair rX_isPair_31 rX_isPair_32
  rw [eX_hasCarrier, bnd2_e]
  by_cases ha : inR a (σ.1 23 2)
  · rw [show b01 (inR a (σ.1 23 2)) = 1 from if_pos ha, brc_f (show ¬ (1 : Int32) = 0 by decide), eX_hasCarrier, bnd2_e]
    by_cases hb : inR b (σ.1 23 2)
    · rw [show b01 (inR b (σ.1 23 2)) = 1 from if_pos hb, brc_f (show ¬ (1 : Int32) = 0 by decide)]
      by_cases he : a = b
      · rw [brc_t he, show b01 ((inR a (σ.1 23 2) ∧ inR b (σ.1 23 2)) ∧ ¬ a = b) = 0 from if_neg (fun h => h.2 he)]; rfl
      · rw [brc_f he, show b01 ((inR a (σ.1 23 2) ∧ inR b (σ.1 23 2)) ∧ ¬ a = b) = 1 from if_pos ⟨⟨ha, hb⟩, he⟩]; rfl
    · rw [show b01 (inR b (σ.1 23 2)) = 0 from if_neg hb, brc_t rfl, show b01 ((inR a (σ.1 23 2) ∧ inR b (σ.1 23 2)) ∧ ¬ a = b) = 0 from if_neg (fun h => hb h.1.2)]; rfl
  · rw [show b01 (inR a (σ.1 23 2)) = 0 from if_neg ha, brc_t rfl, show b01 ((inR a (σ.1 23 2) ∧ inR b (σ.1 23 2)) ∧ ¬ a = b) = 0 from if_neg (fun h => ha h.1.1)]; rfl
theorem q_owes {σx σm : St} {nC : Nat} (hn : nC ≤ 6) (h1 : σx.1 23 2 = I nC) (h2 : σm.1 6 2 = I nC) (hd : ∀ q, q < 36 → σx.1 38 q = σm.1 16 q) (a b : Int32) :
    ∃ r : Int32, rX_owes a b σx = some (r, σx) ∧ rM_owes a b σm = some (r, setI σm 0 0 0) := by
  unfold rX_owes rX_owes_27 rM_owes rM_owes_40 rM_owes_41
  rw [eX_isPair, bnd2_e, nmE, eM_isCarrier, bnd2_e, set0_1 _ _ (by decide), h1, h2]
  by_cases ha : inR a (I nC)
  · rw [show b01 (inR a (I nC)) = 1 from if_pos ha, brc_f (show ¬ (1 : Int32) = 0 by decide), eM_isCarrier, bnd2_e, set0_1 _ _ (by decide), h2]
    by_cases hb : inR b (I nC)
    · rw [show b01 (inR b (I nC)) = 1 from if_pos hb, brc_f (show ¬ (1 : Int32) = 0 by decide)]
      by_cases he : a = b
      · rw [show b01 ((inR a (I nC) ∧ inR b (I nC)) ∧ ¬ a = b) = 0 from if_neg (fun h => h.2 he), brc_t rfl, brc_t he]
        exact ⟨_, rfl, rfl⟩
      · rw [show b01 ((inR a (I nC) ∧ inR b (I nC)) ∧ ¬ a = b) = 1 from if_pos ⟨⟨ha, hb⟩, he⟩, brc_f (show ¬ (1 : Int32) = 0 by decide), brc_f he]
        obtain ⟨x, rfl, hx⟩ := inR_I (by omega) ha
        obtain ⟨y, rfl, hy⟩ := inR_I (by omega) hb
        simp only [litI, I_mul, I_add]
        rw [chk_t (ib_I (by omega) (by omega)), chk_t (ib_I (by omega) (by omega)), I_cl (by omega), I_cl (by omega), Nat.mul_comm x 6, hd _ (by omega), set0_1 _ _ (by decide)]
        exact ⟨_, rfl, rfl⟩
    · rw [show b01 (inR b (I nC)) = 0 from if_neg hb, brc_t (show (0 : Int32) = 0 from rfl), show b01 ((inR a (I nC) ∧ inR b (I nC)) ∧ ¬ a = b) = 0 from if_neg (fun h => hb h.1.2), brc_t (show (0 : Int32) = 0 from rfl)]
      exact ⟨_, rfl, rfl⟩
  · rw [show b01 (inR a (I nC)) = 0 from if_neg ha, brc_t (show (0 : Int32) = 0 from rfl), show b01 ((inR a (I nC) ∧ inR b (I nC)) ∧ ¬ a = b) = 0 from if_neg (fun h => ha h.1.1), brc_t (show (0 : Int32) = 0 from rfl)]
    exact ⟨_, rfl, rfl⟩
