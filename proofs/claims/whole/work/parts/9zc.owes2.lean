/-! the reference reads a debt: under a fault nothing more -/
theorem F_ne {n : Nat} {tp : Nat → Nat} {N k F : Nat} {σ : St} (h : RM n tp N k F σ) (hF : 0 < F ∧ F < 2147483648) : ¬ σ.1 0 8 = 0 ∧ ¬ σ.1 0 8 ≤ 0 := by
  rw [h.2.2.2.1]
  exact ⟨by rw [I0, I_inj (by omega) (by omega)]; omega, by rw [I0, I_le (by omega) (by omega)]; omega⟩
theorem F_0 {n : Nat} {tp : Nat → Nat} {N k : Nat} {σ : St} (h : RM n tp N k 0 σ) : σ.1 0 8 = 0 ∧ σ.1 0 8 ≤ 0 := by
  rw [h.2.2.2.1]
  exact ⟨I0.symm, by rw [I0]; decide⟩
theorem eM_ow105F {n : Nat} {tp : Nat → Nat} {N k F : Nat} {σ : St} (h : RM n tp N k F σ) (hF : 0 < F ∧ F < 2147483648) (v1 v2 : Int32) : wp (rM_readOwe_105 v1 v2 0 (σ.1 0 7) σ) (fun τ => rdM σ τ ∧ RM n tp N k F τ) := by
  unfold rM_readOwe_105 rM_readOwe_136
  rw [nmE, h.2.2.1, Int32.add_zero]
  have h1 := RM_k h h.2.1
  rw [eM_takeNumberF h1 hF, bnd2S, nmE, brc_t (F_ne h1 hF).1]
  exact wp_some ⟨frO_f frO_refl _ (by decide), h1⟩
theorem eM_ow88F {n : Nat} {tp : Nat → Nat} {N k F : Nat} {σ : St} (h : RM n tp N k F σ) (hF : 0 < F ∧ F < 2147483648) (v1 v2 : Int32) : wp (rM_readOwe_88 v1 v2 σ) (fun τ => rdM σ τ ∧ RM n tp N k F τ) := by
  unfold rM_readOwe_88
  rw [brc_f (F_ne h hF).2]
  exact eM_ow105F h hF v1 v2
theorem eM_ow61F {n : Nat} {tp : Nat → Nat} {N k F : Nat} {σ : St} (h : RM n tp N k F σ) (hF : 0 < F ∧ F < 2147483648) (v1 v2 : Int32) : wp (rM_readOwe_61 v1 v2 σ) (fun τ => rdM σ τ ∧ RM n tp N k F τ) := by
  unfold rM_readOwe_61
  rw [nmE, brc_t (F_ne h hF).1]
  exact eM_ow88F h hF v1 v2
theorem eM_ow37F {n : Nat} {tp : Nat → Nat} {N k F : Nat} {σ : St} (h : RM n tp N k F σ) (hF : 0 < F ∧ F < 2147483648) (v1 : Int32) : wp (rM_readOwe_37 v1 0 (σ.1 0 7) σ) (fun τ => rdM σ τ ∧ RM n tp N k F τ) := by
  unfold rM_readOwe_37
  rw [nmE, h.2.2.1, Int32.add_zero]
  have h1 := RM_k h h.2.1
  rw [brc_f (F_ne h1 hF).2]
  refine wp_mono (eM_ow61F h1 hF v1 (-1)) ?_
  rintro τ ⟨a, b⟩
  exact ⟨frO_tr (frO_f frO_refl _ (by decide)) a, b⟩
