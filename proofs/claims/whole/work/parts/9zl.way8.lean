/-! a way of the reference under a fault -/
theorem eM_wy130F {n : Nat} {tp : Nat → Nat} {N k F : Nat} {σ : St} (h : RM n tp N k F σ) (hF : 0 < F ∧ F < 2147483648) (v1 v2 : Int32) : wp (rM_readWay_130 v1 v2 0 (σ.1 0 7) σ) (fun τ => rdM σ τ ∧ RM n tp N k F τ) := by
  unfold rM_readWay_130 rM_readWay_236
  rw [nmE, h.2.2.1, Int32.add_zero]
  have h1 := RM_k h h.2.1
  have f1 : rdM σ (setI σ 0 7 (I k)) := frO_f frO_refl _ (by decide)
  refine wp_bnd2 (wp_mono (eM_afterF h1 hF _ _ _) ?_)
  rintro ⟨x, τ2⟩ ⟨f2, b2, c2⟩
  rw [nmE]
  refine wp_bnd2 (wp_mono (eM_afterF c2 hF _ _ _) ?_)
  rintro ⟨y, τ3⟩ ⟨f3, b3, c3⟩
  show wp (nm y fun v5_20 => brc (¬ τ3.1 0 8 = 0) _ _) _
  rw [nmE, brc_t (F_ne c3 hF).1]
  exact wp_some ⟨frO_tr f1 (frO_tr f2 f3), c3⟩
theorem eM_wy113F {n : Nat} {tp : Nat → Nat} {N k F : Nat} {σ : St} (h : RM n tp N k F σ) (hF : 0 < F ∧ F < 2147483648) (v1 v2 : Int32) : wp (rM_readWay_113 v1 v2 σ) (fun τ => rdM σ τ ∧ RM n tp N k F τ) := by
  unfold rM_readWay_113
  rw [brc_f (F_ne h hF).2]
  exact eM_wy130F h hF v1 v2
theorem eM_wy80F {n : Nat} {tp : Nat → Nat} {N k F : Nat} {σ : St} (h : RM n tp N k F σ) (hF : 0 < F ∧ F < 2147483648) (v1 v2 : Int32) : wp (rM_readWay_80 v1 v2 σ) (fun τ => rdM σ τ ∧ RM n tp N k F τ) := by
  unfold rM_readWay_80
  rw [nmE, brc_t (F_ne h hF).1]
  exact eM_wy113F h hF v1 v2
theorem eM_wy57F {n : Nat} {tp : Nat → Nat} {N k F : Nat} {σ : St} (h : RM n tp N k F σ) (hF : 0 < F ∧ F < 2147483648) (v1 : Int32) : wp (rM_readWay_57 v1 0 (σ.1 0 7) σ) (fun τ => rdM σ τ ∧ RM n tp N k F τ) := by
  unfold rM_readWay_57
  rw [nmE, h.2.2.1, Int32.add_zero]
  have h1 := RM_k h h.2.1
  rw [brc_f (F_ne h1 hF).2]
  refine wp_mono (eM_wy80F h1 hF v1 (-1)) ?_
  rintro τ ⟨a, b⟩
  exact ⟨frO_tr (frO_f frO_refl _ (by decide)) a, b⟩
