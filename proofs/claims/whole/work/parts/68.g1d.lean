theorem q_debt {σx σm : St} {nC : Nat} (hn : nC ≤ 6) (h1 : σx.1 23 2 = I nC) (h2 : σm.1 6 2 = I nC) (hd : ∀ q, q < 36 → σx.1 38 q = σm.1 16 q) (v : Int32) :
    (∃ r : Int32, rX_debt v σx = some (r, σx) ∧ rM_debt v σm = some (r, setI σm 0 0 0)) ∨ (rX_debtT v σx = some σx ∧ rM_debt v σm = some (0, setI σm 0 0 1)) := by
  unfold rX_debt rX_debtT rM_debt rM_debt_14 rM_debt_33
  rw [eX_hasCarrier, bnd2_e, bnd2_e, eM_isCarrier, bnd2_e, h1, h2]
  by_cases hv : inR v (I nC)
  · left
    obtain ⟨c, rfl, hc⟩ := inR_I (by omega) hv
    rw [show b01 (inR (I c) (I nC)) = 1 from if_pos hv, brc_t (show ¬ (1 : Int32) = 0 by decide), brc_f (show ¬ (1 : Int32) = 0 by decide), eX_balance _ (by omega), bnd2_e, nmE, setI_same, brc_t (by simp [upd]), eM_debtOf _ (by omega), bnd2_e]
    refine ⟨_, rfl, ?_⟩
    have e : balOf ((setI σm 0 0 0).1 16) c = balOf (σx.1 38) c := by
      have : ∀ j, j ≤ 6 → balUp ((setI σm 0 0 0).1 16) c j = balUp (σx.1 38) c j := by
        intro j
        induction j with
        | zero => intro _; rfl
        | succ j ih =>
          intro hj
          unfold balUp
          rw [ih (by omega), set0_1 _ _ (by decide), set0_1 _ _ (by decide), hd _ (by omega), hd _ (by omega)]
      exact this 6 (by omega)
    rw [e]
  · right
    rw [show b01 (inR v (I nC)) = 0 from if_neg hv, brc_f (show ¬ ¬ (0 : Int32) = 0 by decide), brc_t (show (0 : Int32) = 0 from rfl), nmE, setI_same, brc_f (by simp [upd])]
    exact ⟨rfl, rfl⟩
