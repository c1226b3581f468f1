/-! the class tells a way -/
theorem eX_tellWay {T : Vw} {σ : St} {a b l t : Nat} (ha : a < 7) (hb : b < 7) (hx : XDr T σ) : wp (rX_tellWay (I a) (I b) (I l) (I t) σ) (fun τ => XDr (wyT T a b l t) τ ∧ (∀ i, i ≠ 10 → i ≠ 13 → i ≠ 14 → τ.1 i = σ.1 i) ∧ τ.2 = σ.2) := by
  have e1 : I a * (7 : Int32) + I b = I (7 * a + b) := by
    have e : I a * (7 : Int32) = I (a * 7) := by rw [litN, I_mul]
    rw [e, I_add, Nat.mul_comm]
  have e2 : I b * (7 : Int32) + I a = I (7 * b + a) := by
    have e : I b * (7 : Int32) = I (b * 7) := by rw [litN, I_mul]
    rw [e, I_add, Nat.mul_comm]
  have h1 : σ.1 10 1 = I (T 0 1) := hx.2.1
  unfold rX_tellWay
  rw [e1, e2, chk_t (ib_I (by omega) (by omega)), nmE, chk_t (ib_I (by omega) (by omega)), nmE, chk_t (ib_I (by omega) (by omega)), nmE, chk_t (ib_I (by omega) (by omega)), nmE, nmE, I_cl (by omega), I_cl (by omega), gI_ne1 _ _ _ (show (10 : Nat) ≠ 14 by decide), gI_ne1 _ _ _ (show (10 : Nat) ≠ 14 by decide), gI_ne1 _ _ _ (show (10 : Nat) ≠ 13 by decide), gI_ne1 _ _ _ (show (10 : Nat) ≠ 13 by decide), h1, I1, I_add]
  refine wp_some ⟨XDr_wy hx (gI_same _ _ _ _) (fun j hj => ?_) (fun q => ?_) (fun q => ?_) (fun i hi => ?_), fun i x y z => ?_, rfl⟩
  · rw [gI_ne2 _ _ _ hj, gI_ne1 _ _ _ (by decide), gI_ne1 _ _ _ (by decide), gI_ne1 _ _ _ (by decide), gI_ne1 _ _ _ (by decide)]
  · rw [gI_ne1 _ _ _ (by decide), gI_ne1 _ _ _ (by decide), gI_ne1 _ _ _ (by decide)]
    by_cases c2 : q = 7 * b + a
    · rw [if_pos (Or.inr c2), c2, gI_same]
    · rw [gI_ne2 _ _ _ c2]
      by_cases c1 : q = 7 * a + b
      · rw [if_pos (Or.inl c1), c1, gI_same]
      · rw [gI_ne2 _ _ _ c1, if_neg (by omega)]
  · rw [gI_ne1 _ _ _ (by decide)]
    by_cases c2 : q = 7 * b + a
    · rw [if_pos (Or.inr c2), c2, gI_same]
    · rw [gI_ne2 _ _ _ c2]
      by_cases c1 : q = 7 * a + b
      · rw [if_pos (Or.inl c1), c1, gI_same]
      · rw [gI_ne2 _ _ _ c1, gI_ne1 _ _ _ (by decide), gI_ne1 _ _ _ (by decide), if_neg (by omega)]
  · rw [gI_ne1 _ _ _ (by omega), gI_ne1 _ _ _ (by omega), gI_ne1 _ _ _ (by omega), gI_ne1 _ _ _ (by omega), gI_ne1 _ _ _ (by omega)]
  · rw [gI_ne1 _ _ _ x, gI_ne1 _ _ _ z, gI_ne1 _ _ _ z, gI_ne1 _ _ _ y, gI_ne1 _ _ _ y]
