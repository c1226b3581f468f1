theorem q_carrier {σx σm : St} {nC : Nat} (hn : nC ≤ 6) (h1 : σx.1 23 2 = I nC) (h2 : σm.1 6 2 = I nC)
    (hc : ∀ c, c < nC → σx.1 28 c = σm.1 6 (120 + 4 * c) ∧ σx.1 29 c = σm.1 6 (120 + 4 * c + 1) ∧ σx.1 30 c = σm.1 6 (120 + 4 * c + 2) ∧ σx.1 31 c = σm.1 6 (120 + 4 * c + 3))
    (hp : ∀ c, c < 6 → (σx.1 37 c = 0 ∨ σx.1 37 c = 1) ∧ (σm.1 16 36 >>> (I c &&& 31)) &&& 1 = σx.1 37 c) (hg : ∀ c, c < 6 → (σm.1 16 41 >>> (I c &&& 31)) &&& 1 = σx.1 35 c) (hq : ∀ c, c < 6 → σx.1 36 c = σm.1 16 (50 + c)) (v w : Int32) :
    (∃ r : Int32, rX_carrier v w σx = some (r, σx) ∧ rM_carrier v w σm = some (r, setI σm 0 0 0)) ∨ (rX_carrierT v w σx = some σx ∧ ∃ r : Int32, rM_carrier v w σm = some (r, setI σm 0 0 1)) := by
  have z0 : (setI σm 0 0 0).1 0 0 = 0 := by rw [setI_same]; simp [upd]
  have z1 : (setI σm 0 0 1).1 0 0 = 1 := by rw [setI_same]; simp [upd]
  unfold rX_carrier rX_carrierT rM_carrier rM_carrier_23 rM_carrier_24 rM_carrier_95
  rw [eX_hasCarrier, bnd2_e, bnd2_e, eM_isCarrier, bnd2_e, h1, h2, eM_within, bnd2_e]
  by_cases hv : inR v (I nC)
  · obtain ⟨c, rfl, hcn⟩ := inR_I (by omega) hv
    obtain ⟨e1, e2, e3, e4⟩ := hc c hcn
    rw [show b01 (inR (I c) (I nC)) = 1 from if_pos hv, brc_t (show ¬ (1 : Int32) = 0 by decide), brc_t (show ¬ (1 : Int32) = 0 by decide), brc_f (show ¬ (1 : Int32) = 0 by decide)]
    by_cases hw : 0 ≤ w ∧ w ≤ 6
    · left
      rw [show b01 (0 ≤ w ∧ w ≤ 6) = 1 from if_pos hw, brc_f (show ¬ (1 : Int32) = 0 by decide), nmE, z0, brc_t (show (0 : Int32) ≤ 0 by decide)]
      rcases (within6 w).mp hw with rfl | rfl | rfl | rfl | rfl | rfl | rfl
      · refine ⟨σx.1 28 c, ?_, ?_⟩
        · rw [brc_t (by decide), chk_t (ib_I (by omega) (by omega)), I_cl (by omega)]
        · rw [brc_f (by decide), brc_f (by decide), brc_f (by decide), brc_f (by decide), brc_f (by decide), brc_f (by decide), show (0 : Int32) = I 0 from rfl, eM_carrierOf _ (by omega) (by omega), bnd2_e, set0_1 _ _ (by decide), e1]; rfl
      · refine ⟨holdsOf (σx.1 28 c) (σx.1 29 c), ?_, ?_⟩
        · rw [brc_f (by decide), brc_t (by decide), eX_holds _ (by omega), bnd2_e]
        · rw [brc_t (by decide), eM_holds _ (by omega), bnd2_e, set0_1 _ _ (by decide), set0_1 _ _ (by decide), e1, e2]
      · refine ⟨σx.1 30 c, ?_, ?_⟩
        · rw [brc_f (by decide), brc_f (by decide), brc_t (by decide), chk_t (ib_I (by omega) (by omega)), I_cl (by omega)]
        · rw [brc_f (by decide), brc_t (by decide), show (2 : Int32) = I 2 from rfl, eM_carrierOf _ (by omega) (by omega), bnd2_e, set0_1 _ _ (by decide), e3]
      · refine ⟨σx.1 31 c, ?_, ?_⟩
        · rw [brc_f (by decide), brc_f (by decide), brc_f (by decide), brc_t (by decide), chk_t (ib_I (by omega) (by omega)), I_cl (by omega)]
        · rw [brc_f (by decide), brc_f (by decide), brc_t (by decide), show (3 : Int32) = I 3 from rfl, eM_carrierOf _ (by omega) (by omega), bnd2_e, set0_1 _ _ (by decide), e4]
      · refine ⟨σx.1 37 c, ?_, ?_⟩
        · rw [brc_f (by decide), brc_f (by decide), brc_f (by decide), brc_f (by decide), brc_t (by decide), chk_t (ib_I (by omega) (by omega)), I_cl (by omega)]
        · obtain ⟨p1, p2⟩ := hp c (by omega)
          rw [brc_f (by decide), brc_f (by decide), brc_f (by decide), brc_t (by decide), eM_isPatched, bnd2_e, set0_1 _ _ (by decide), p2]
          rcases p1 with p1 | p1 <;> rw [p1] <;> rfl
      · refine ⟨σx.1 35 c, ?_, ?_⟩
        · rw [brc_f (by decide), brc_f (by decide), brc_f (by decide), brc_f (by decide), brc_f (by decide), brc_t (by decide), chk_t (ib_I (by omega) (by omega)), I_cl (by omega)]
        · rw [brc_f (by decide), brc_f (by decide), brc_f (by decide), brc_f (by decide), brc_t (by decide), show ib (41 : Int32) 6000 = true from rfl, chk_e, show (41 : Int32).toNatClampNeg = 41 from rfl, set0_1 _ _ (by decide), hg c (by omega)]
      · refine ⟨σx.1 36 c, ?_, ?_⟩
        · rw [brc_f (by decide), brc_f (by decide), brc_f (by decide), brc_f (by decide), brc_f (by decide), brc_f (by decide), brc_t (by decide), chk_t (ib_I (by omega) (by omega)), I_cl (by omega)]
        · rw [brc_f (by decide), brc_f (by decide), brc_f (by decide), brc_f (by decide), brc_f (by decide), brc_t (by decide), show (50 : Int32) + I c = I (50 + c) by rw [litI, I_add], chk_t (ib_I (by omega) (by omega)), I_cl (by omega), set0_1 _ _ (by decide), hq c (by omega)]
    · right
      have hw' := fun h => hw ((within6 w).mpr h)
      rw [show b01 (0 ≤ w ∧ w ≤ 6) = 0 from if_neg hw, brc_t (show (0 : Int32) = 0 from rfl), nmE, z1, brc_f (show ¬ (1 : Int32) ≤ 0 by decide)]
      refine ⟨?_, _, rfl⟩
      rw [brc_f (show ¬ w.toInt = 0 from toInt_ne (k := 0) (fun h => hw' (Or.inl h))), brc_f (show ¬ w.toInt = 1 from toInt_ne (k := 1) (fun h => hw' (Or.inr (Or.inl h)))), brc_f (show ¬ w.toInt = 2 from toInt_ne (k := 2) (fun h => hw' (Or.inr (Or.inr (Or.inl h))))), brc_f (show ¬ w.toInt = 3 from toInt_ne (k := 3) (fun h => hw' (Or.inr (Or.inr (Or.inr (Or.inl h)))))), brc_f (show ¬ w.toInt = 4 from toInt_ne (k := 4) (fun h => hw' (Or.inr (Or.inr (Or.inr (Or.inr (Or.inl h))))))), brc_f (show ¬ w.toInt = 5 from toInt_ne (k := 5) (fun h => hw' (Or.inr (Or.inr (Or.inr (Or.inr (Or.inr (Or.inl h)))))))), brc_f (show ¬ w.toInt = 6 from toInt_ne (k := 6) (fun h => hw' (Or.inr (Or.inr (Or.inr (Or.inr (Or.inr (Or.inr h))))))))]
  · right
    rw [show b01 (inR v (I nC)) = 0 from if_neg hv, brc_f (show ¬ ¬ (0 : Int32) = 0 by decide), brc_t (show (0 : Int32) = 0 from rfl), nmE, z1, brc_f (show ¬ (1 : Int32) ≤ 0 by decide)]
    exact ⟨rfl, _, rfl⟩
