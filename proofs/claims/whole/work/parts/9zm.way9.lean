/-! the reference lays a way down -/
theorem eM_wyLoop {T : Vw} {σ : St} {a b l t : Nat} (ha : a < 7) (hb : b < 7) (h7 : T 0 0 ≤ 7) (hx : MDr T σ) : wp (lp (rM_readWay_164L) fu (I a, I b, I l, I t, (0 : Int32), σ)) (fun τ => MDr (wyT T a b l t) τ ∧ (∀ i, i ≠ 6 → τ.1 i = σ.1 i) ∧ (∀ j, (j < 160 ∨ j = 166 ∨ j = 167) → τ.1 6 j = σ.1 6 j) ∧ τ.2 = σ.2) := by
  have e1 : (182 : Int32) + (2 : Int32) * ((7 : Int32) * I a + I b) = I (182 + 2 * (7 * a + b)) := by
    have h : ∀ a, a < 7 → ∀ b, b < 7 → (182 : Int32) + (2 : Int32) * ((7 : Int32) * I a + I b) = I (182 + 2 * (7 * a + b)) := by decide +kernel
    exact h a ha b hb
  have e2 : (182 : Int32) + (2 : Int32) * ((7 : Int32) * I b + I a) = I (182 + 2 * (7 * b + a)) := by
    have h : ∀ a, a < 7 → ∀ b, b < 7 → (182 : Int32) + (2 : Int32) * ((7 : Int32) * I a + I b) = I (182 + 2 * (7 * a + b)) := by decide +kernel
    exact h b hb a ha
  have h1 : σ.1 6 161 = I (T 0 1) := hx.2.1
  have e161 : (161 : Int32).toNatClampNeg = 161 := by decide
  have l1 : ∀ (f : Nat) (x : Int32 × Int32 × Int32 × Int32 × Int32 × St), lp rM_readWay_164L (f + 1) x = rM_readWay_164L (lp rM_readWay_164L f) x := fun _ _ => rfl
  have b1 : (0 : Int32) + Int32.ofInt 1 = 1 := by decide
  have b2 : (1 : Int32) + Int32.ofInt 1 = 2 := by decide
  have u : ∀ (K : (Int32 × Int32 × Int32 × Int32 × Int32 × St) → Option St) (v : Int32) (τ : St), rM_readWay_164L K (I a, I b, I l, I t, v, τ) = rM_readWay_164 (fun v2 v3 v4 v5 v6 σ => K (v2, v3, v4, v5, v6, σ)) (I a) (I b) (I l) (I t) v τ := fun _ _ _ => rfl
  obtain ⟨f, hf⟩ : ∃ f, fu = f + 3 := ⟨fu - 3, by unfold fu; omega⟩
  rw [hf, l1, u]
  generalize hK2 : lp rM_readWay_164L (f + 2) = K2
  unfold rM_readWay_164 rM_readWay_194
  rw [brc_f (by decide), brc_f (by decide), nmE, e1, chk_t (ib_I (by omega) (by omega)), nmE, show ∀ x : Nat, I x + (1 : Int32) = I (x + 1) from fun x => by rw [I1, I_add], chk_t (ib_I (by omega) (by omega)), nmE, I_cl (by omega), I_cl (by omega), nmE, b1]
  show wp (K2 (I a, I b, I l, I t, 1, _)) _
  rw [← hK2, l1, u]
  generalize hK1 : lp rM_readWay_164L (f + 1) = K1
  unfold rM_readWay_164 rM_readWay_194
  rw [brc_f (by decide), brc_t (by decide), nmE, e2, chk_t (ib_I (by omega) (by omega)), nmE, show ∀ x : Nat, I x + (1 : Int32) = I (x + 1) from fun x => by rw [I1, I_add], chk_t (ib_I (by omega) (by omega)), nmE, I_cl (by omega), I_cl (by omega), nmE, b2]
  show wp (K1 (I a, I b, I l, I t, 2, _)) _
  rw [← hK1, l1, u]
  generalize lp rM_readWay_164L f = K0
  unfold rM_readWay_164 rM_readWay_236
  rw [brc_t (by decide), chk_t (by decide), chk_t (by decide), nmE, e161, gI_ne2 _ _ _ (show (161 : Nat) ≠ _ by omega), gI_ne2 _ _ _ (show (161 : Nat) ≠ _ by omega), gI_ne2 _ _ _ (show (161 : Nat) ≠ _ by omega), gI_ne2 _ _ _ (show (161 : Nat) ≠ _ by omega), h1, I1, I_add]
  refine wp_some ⟨MDr_wy hx (gI_same _ _ _ _) (fun q hq => ⟨?_, ?_⟩) (fun j h2 h3 h4 => ?_) h7, fun i hi => ?_, fun j hj => ?_, rfl⟩
  · rw [gI_ne2 _ _ _ (by omega), gI_ne2 _ _ _ (by omega)]
    by_cases c2 : q = 7 * b + a
    · rw [if_pos (Or.inr c2), c2, gI_same]
    · rw [gI_ne2 _ _ _ (by omega), gI_ne2 _ _ _ (by omega)]
      by_cases c1 : q = 7 * a + b
      · rw [if_pos (Or.inl c1), c1, gI_same]
      · rw [gI_ne2 _ _ _ (by omega), if_neg (by omega)]
  · rw [gI_ne2 _ _ _ (by omega)]
    by_cases c2 : q = 7 * b + a
    · rw [if_pos (Or.inr c2), c2, gI_same]
    · rw [gI_ne2 _ _ _ (by omega), gI_ne2 _ _ _ (by omega)]
      by_cases c1 : q = 7 * a + b
      · rw [if_pos (Or.inl c1), c1, gI_same]
      · rw [gI_ne2 _ _ _ (by omega), gI_ne2 _ _ _ (by omega), if_neg (by omega)]
  · rw [gI_ne2 _ _ _ (by omega), gI_ne2 _ _ _ (by omega), gI_ne2 _ _ _ (by omega), gI_ne2 _ _ _ (by omega), gI_ne2 _ _ _ (by omega)]
  · rw [gI_ne1 _ _ _ hi, gI_ne1 _ _ _ hi, gI_ne1 _ _ _ hi, gI_ne1 _ _ _ hi, gI_ne1 _ _ _ hi]
  · rw [gI_ne2 _ _ _ (by omega), gI_ne2 _ _ _ (by omega), gI_ne2 _ _ _ (by omega), gI_ne2 _ _ _ (by omega), gI_ne2 _ _ _ (by omega)]
