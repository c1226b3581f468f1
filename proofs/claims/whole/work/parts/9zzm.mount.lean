/-! mountain -/
theorem ML_1100 {b : Nat} {σ τ : St} (h : ∀ q, q < 1100 → τ.1 8 q = σ.1 8 q ∧ τ.1 9 q = σ.1 9 q) : ∀ (L : List Nat) (a : Nat), a + L.length < 1100 → ML b σ a L → ML b τ a L
  | [], a, hl, hm => by
    have hl' : a + 0 < 1100 := hl
    refine ⟨?_, by omega⟩
    rw [(h a (by omega)).1]
    exact hm.1
  | x :: L, a, hl, hm => by
    have hl' : a + (L.length + 1) < 1100 := hl
    exact ⟨by omega, (h a (by omega)).1.trans hm.2.1, fun hx => (h a (by omega)).2.trans (hm.2.2.1 hx), ML_1100 h L (a + 1) (by omega) hm.2.2.2⟩
theorem MLw_1100 {LD LP : List Nat} {σ τ : St} (h6 : ∀ q, q < 160 → τ.1 6 q = σ.1 6 q) (h8 : ∀ q, q < 1100 → τ.1 8 q = σ.1 8 q ∧ τ.1 9 q = σ.1 9 q) (hx : MLw LD LP σ) : MLw LD LP τ := by
  unfold MLw at *
  rw [h6 6 (by omega), h6 7 (by omega)]
  refine ⟨?_, ?_⟩
  · rcases hx.1 with h | ⟨a, h1, h2, h3⟩
    · exact Or.inl h
    · exact Or.inr ⟨a, h1, h2, ML_1100 h8 _ _ h1 h3⟩
  · rcases hx.2 with h | ⟨a, h1, h2, h3⟩
    · exact Or.inl h
    · exact Or.inr ⟨a, h1, h2, ML_1100 h8 _ _ h1 h3⟩
theorem GX_bad {T R D Mk U : Vw} {n : Nat} {tp : Nat → Nat} {LD LP : List Nat} {σ τ : St} (hx : GX T R D Mk U n tp LD LP σ) (f : raX σ τ) : GX T R D Mk U 0 tp LD LP (setI τ 5 2 0) := by
  obtain ⟨a1, a2, a3, a4, a5, a6, a7, a8, a9⟩ := hx
  have g : ∀ i, i ≠ 5 → (i < 7 ∨ 22 < i) → (setI τ 5 2 0).1 i = σ.1 i := fun i h1 h2 => by rw [gI_ne1 _ _ _ h1, f.1 i h1 h2]
  have gJ : ∀ i, i ≠ 5 → i ≠ 8 → i ≠ 9 → (setI τ 5 2 0).2.1 i = σ.2.1 i := fun i h1 h2 h3 => f.2.2.1 i h1 h2 h3
  have gP : (setI τ 5 2 0).2.2.1 23 = σ.2.2.1 23 := f.2.2.2.1 23 (by decide) (by decide)
  have gN : XN τ := f.2.2.2.2.2 a9
  have g5 : (setI τ 5 2 0).1 5 2 = I 0 := by rw [gI_same]; rfl
  have gK : ∃ X, (setI τ 5 2 0).2.2.2 = σ.2.2.2 ++ X := f.2.2.2.2.1
  have gN' : XN (setI τ 5 2 0) := XN_fr (σ := τ) rfl gN
  generalize setI τ 5 2 0 = υ at g gJ gP g5 gK gN' ⊢
  obtain ⟨X, hX⟩ := gK
  refine ⟨XMt_fr (fun i h1 h2 => g i (by omega) (by omega)) a1, XD_fr (fun i h1 h2 => g i (by omega) (by omega)) (gJ 33 (by decide) (by decide) (by decide)) a2, XR_fr (by rw [g 42 (by decide) (by decide)]) (g 43 (by decide) (by decide)) (g 44 (by decide) (by decide)) a3, XK_fr (fun i h => g i (by omega) (by omega)) (fun i h1 h2 => gJ i (by omega) (by omega) (by omega)) a4, XU_fr (by rw [g 0 (by decide) (by decide)]) (g 1 (by decide) (by decide)) (g 2 (by decide) (by decide)) a5, ⟨g5, fun i hi => absurd hi (Nat.not_lt_zero _)⟩, ?_, XA_fr (by rw [g 49 (by decide) (by decide)]) (by rw [g 49 (by decide) (by decide)]) (g 52 (by decide) (by decide)) (g 53 (by decide) (by decide)) (g 54 (by decide) (by decide)) (g 56 (by decide) (by decide)) a8, gN'⟩
  obtain ⟨l1, l2, l3, l4⟩ := a7
  have q1 := lawc_app hX l1
  have q2 := lawc_app hX l3
  unfold XL
  rw [gP]
  exact ⟨q1.1, q1.2.trans l2, q2.1, q2.2.trans l4⟩
theorem GM_bad {T R D Mk U : Vw} {n : Nat} {tp : Nat → Nat} {LD LP : List Nat} {σ υ τ : St} (hw : GW T R D Mk U n tp LD LP) (hm : GM T R D Mk U n tp LD LP σ) (f : beM σ υ) (g : raM υ τ) : GM T R D Mk U 0 tp LD LP τ := by
  obtain ⟨a1, a2, a3, a4, a5, a6, a7, a8⟩ := hm
  have e : ∀ i, i ≠ 0 → i ≠ 2 → i ≠ 3 → i ≠ 6 → i ≠ 7 → i ≠ 8 → i ≠ 9 → i ≠ 11 → τ.1 i = σ.1 i := fun i h0 h2 h3 h6 h7 h8 h9 h11 => by rw [g.1 i h0 h6 h7 h8 h9 h11, f.1 i h0 h2 h3 h6 h7]
  have e6 : ∀ q, q < 160 → τ.1 6 q = σ.1 6 q := fun q hq => by rw [g.2.1 q hq, f.2.1 q hq]
  have e8 : ∀ q, q < 1100 → τ.1 8 q = σ.1 8 q ∧ τ.1 9 q = σ.1 9 q := fun q hq => by
    rw [(g.2.2.2.1 q hq).1, (g.2.2.2.1 q hq).2, f.1 8 (by decide) (by decide) (by decide) (by decide) (by decide), f.1 9 (by decide) (by decide) (by decide) (by decide) (by decide)]
    exact ⟨rfl, rfl⟩
  have e0 : ∀ j, j ≠ 0 → j ≠ 2 → j ≠ 3 → j ≠ 7 → j ≠ 8 → j ≠ 14 → j ≠ 17 → j ≠ 18 → j ≠ 19 → τ.1 0 j = σ.1 0 j := fun j h0 h2 h3 h7 h8 h14 h17 h18 h19 => by rw [g.2.2.1 j h7 h8 h14 h17 h18 h19, f.2.2.1 j h0 h2 h3 h7 h8 h14 h17 h18]
  have e16 : τ.1 16 = σ.1 16 := e 16 (by decide) (by decide) (by decide) (by decide) (by decide) (by decide) (by decide) (by decide)
  refine ⟨MT_160 hw.1 e6 a1, MD_fr hw.1.1 hw.2.1.2.2.2.1 (fun q _ => by rw [e16]) a2, MR_fr (e0 27 (by decide) (by decide) (by decide) (by decide) (by decide) (by decide) (by decide) (by decide) (by decide)) (e 18 (by decide) (by decide) (by decide) (by decide) (by decide) (by decide) (by decide) (by decide)) a3, MK_fr hw.1.1 hw.2.2.2.1 (e 17 (by decide) (by decide) (by decide) (by decide) (by decide) (by decide) (by decide) (by decide)) (fun q _ _ => by rw [e16]) a4, MU_fr (e0 25 (by decide) (by decide) (by decide) (by decide) (by decide) (by decide) (by decide) (by decide) (by decide)) hw.2.2.2.2.1.1 (fun q _ _ => by rw [e16]) a5, ⟨?_, fun i hi => absurd hi (Nat.not_lt_zero _)⟩, MLw_1100 e6 e8 a7, MC_fr (e 12 (by decide) (by decide) (by decide) (by decide) (by decide) (by decide) (by decide) (by decide)) (e 13 (by decide) (by decide) (by decide) (by decide) (by decide) (by decide) (by decide) (by decide)) ?_ a8⟩
  · rw [g.2.2.1 2 (by decide) (by decide) (by decide) (by decide) (by decide) (by decide)]
    exact f.2.2.2.2.2
  · rw [g.2.2.2.2.1 5 (by decide), f.2.2.2.1 5 (by decide)]
/-- nothing to undo, on a day with these debts -/
def u0 (O : Nat → Nat) : Vw := fun a b => if a = 3 ∧ b < 36 then O b else 0
theorem u0_3 (O : Nat → Nat) {q : Nat} (hq : q < 36) : u0 O 3 q = O q := by
  unfold u0
  rw [if_pos ⟨rfl, hq⟩]
theorem Sy0 (n : Nat) (tp np idn : Nat → Nat) : SyW n tp T00 (fun _ => 0) 0 np idn 0 [10000] [1] := by
  refine ⟨T00_wf, by decide, fun a _ b _ => rfl, by decide, fun q _ => Nat.zero_le _, ⟨by decide, by decide, rfl, fun q hq => absurd hq (Nat.not_lt_zero _), fun q hq => absurd hq (Nat.not_lt_zero _), fun q hq => absurd hq (Nat.not_lt_zero _), fun q hq => absurd hq (Nat.not_lt_zero _)⟩, by decide, ⟨?_, by decide, ?_, by decide⟩⟩
  · exact Or.inl ⟨Or.inr ⟨by decide, by decide⟩, by decide, rfl⟩
  · exact Or.inl ⟨Or.inl (by decide), by decide, rfl⟩
theorem po_mountain : PO_mountain Inv := by
  intro σx σm h hb
  obtain ⟨T, R, D, Mk, U, n, tp, LD, LP, hw, hx, hm⟩ := h
  have hwP : wfP n tp := hw.2.2.2.2.2.1
  obtain ⟨N, m5, hN, fm5, ym5, em⟩ := eM_readBegin hwP hm.2.2.2.2.2.1 hm.2.2.2.2.2.2.2 (fun _ => 0) (fun _ => 0)
  obtain ⟨x5, fx5, yx5, ex⟩ := eX_readBegin hwP hx.2.2.2.2.2.1 hx.2.2.2.2.2.2.2.2 hb (fun _ => 0) (fun _ => 0)
  have hfu : fu = 4096 := rfl
  rcases read_loop hwP (hb := hb) (K0 := Kn σx) N 0 0 fu T00 (fun _ => 0) 0 (fun _ => 0) (fun _ => 0) 0 [10000] [1] m5 (by omega) (by omega) (Sy0 n tp _ _) ym5 with ⟨k', c', T', O', m', np', idn', o', LD', LP', w', hc', gM, gX⟩ | ⟨F, hF0, hF2, gM, gX⟩
  · obtain ⟨⟨r, x3⟩, e3, q1, q2, q3⟩ := gX x5 0 fu yx5 (Nat.le_refl _) (by omega)
    have q1' : r = 0 := q1
    subst q1'
    have q3' : SyX n tp (Kn σx) k' T' O' m' np' idn' o' LD' LP' x3 := q3
    obtain ⟨z1, z2, z3, z4, z5, z6, z7, z8⟩ := q3'
    have eA : rX_readAll hb (Kn σx) 2 2000 σx = some (0, x3) := ex.trans e3
    obtain ⟨eB, kle⟩ := readAll_again eA
    have eB' : rX_readAll hb (Kn σx) (Kn x3 - Kn σx) (1000 * (Kn x3 - Kn σx)) σx = some (0, x3) := eB
    have h37 : R00 T' 0 0 ≤ 37 := by
      have h12 := w'.2.1
      have h21 := w'.2.2.2.1
      exact most37 w'.2.2.1 w'.1.1 (by omega)
    have K8 : Kn (setI x3 5 2 0) = Kn x3 := rfl
    obtain ⟨⟨rx, x⟩, ex9, r0, rK, rG⟩ := x_good (O := O') (LD := LD') (LP := LP') (tp := tp) (hb := hb) (k0 := Kn σx) (mc := Kn x3 - Kn σx) (ms := 1000 * (Kn x3 - Kn σx)) (σ := setI x3 5 2 0) w'.1 h37 (XDr_fr (fun i h1 h2 => gI_ne1 _ _ _ (by omega)) z2) (fun q hq => by rw [gI_ne1 _ _ _ (by decide)]; exact z3 q hq) (XLd_fr rfl rfl z6) (XN_fr (σ := x3) rfl z8) (by rw [gI_same]; rfl) (by omega)
    have r0' : rx = 0 := r0
    subst r0'
    obtain ⟨⟨rm, m⟩, em9, m0, mG⟩ := gM (fun r => r.1 = 0 ∧ GM T' (R00 T') (bgD T' O') zV zV 0 tp LD' LP' r.2) (fun τ f1 s1 => m_good w'.1 h37 hc' s1 (by rw [f1.2.2.1 2 (by decide) (by decide) (by decide) (by decide) (by decide) (by decide)]; exact fm5.2.2.2.2.2))
    have m0' : rm = 0 := m0
    subst m0'
    refine ⟨0, x, m, Kn x3 - Kn σx, ?_, ?_, by omega, em.trans em9, T', R00 T', bgD T' O', zV, u0 O', 0, tp, LD', LP', ⟨w'.1, bgD_wf w'.1 _, R00_wf h37, fun j _ => ⟨Nat.zero_le _, fun h => absurd h (show ¬ (0 : Nat) = 1 by decide)⟩, ⟨Nat.zero_le _, fun q hq => ?_, rfl, fun k hk => absurd hk (Nat.not_lt_zero _)⟩, ⟨Nat.zero_le _, fun i hi => absurd hi (Nat.not_lt_zero _)⟩, w'.2.2.2.2.2.2.2⟩, ?_, ?_⟩
    · unfold rX_mountain
      rw [eA, bnd2S, eB', bnd2S, chk_t (decide_eq_true rfl), chk_t (decide_eq_true ⟨Nat.le_refl _, by omega, Nat.le_refl _, Nat.le_refl _⟩), nmE, nmE, brc_t rfl]
      exact ex9
    · have rK' : Kn x = Kn x3 := rK
      omega
    · exact u0_3 O' hq
    · obtain ⟨a1, a2, a3, a4, a5, a6⟩ := rG
      exact ⟨a1, a2, a3, a4, ⟨a5.1, fun k hk => absurd hk (Nat.not_lt_zero _)⟩, a6⟩
    · obtain ⟨a1, a2, a3, a4, a5, a6⟩ := mG
      exact ⟨a1, a2, a3, a4, ⟨a5.1, fun k hk => absurd hk (Nat.not_lt_zero _)⟩, a6⟩
  · obtain ⟨⟨r, x3⟩, e3, q1, q2, q3⟩ := gX x5 0 fu yx5 (Nat.le_refl _) (by omega)
    have q1' : r = I F := q1
    subst q1'
    have q3' : Kn x3 ≤ Kn σx + 2 := q3
    have eA : rX_readAll hb (Kn σx) 2 2000 σx = some (I F, x3) := ex.trans e3
    obtain ⟨eB, kle⟩ := readAll_again eA
    have eB' : rX_readAll hb (Kn σx) (Kn x3 - Kn σx) (1000 * (Kn x3 - Kn σx)) σx = some (I F, x3) := eB
    have kle' : Kn σx ≤ Kn x3 := kle
    have K8 : Kn (setI x3 5 2 0) = Kn x3 := rfl
    obtain ⟨⟨rm, m⟩, em9, m0, mG⟩ := gM (fun r => r.1 = I F ∧ GM T R D Mk U 0 tp LD LP r.2) (fun τ f1 s1 => by
      obtain ⟨k', rm⟩ := s1
      unfold rM_mountain_84
      rw [brc_f (F_ne rm ⟨hF0, by omega⟩).2]
      exact wp_some ⟨rm.2.2.2.1, GM_bad hw hm fm5 f1⟩)
    have m0' : rm = I F := m0
    subst m0'
    refine ⟨I F, setI x3 5 2 0, m, Kn x3 - Kn σx, ?_, by omega, by omega, em.trans em9, T, R, D, Mk, U, 0, tp, LD, LP, ⟨hw.1, hw.2.1, hw.2.2.1, hw.2.2.2.1, hw.2.2.2.2.1, ⟨Nat.zero_le _, fun i hi => absurd hi (Nat.not_lt_zero _)⟩, hw.2.2.2.2.2.2⟩, GX_bad hx (raX_tr fx5 q2), mG⟩
    unfold rX_mountain
    rw [eA, bnd2S, eB', bnd2S, chk_t (decide_eq_true rfl), chk_t (decide_eq_true ⟨Nat.le_refl _, by omega, Nat.le_refl _, Nat.le_refl _⟩), nmE, nmE, brc_f (by rw [I0, I_inj (by omega) (by omega)]; omega)]
