/-! what can be undone -/
def shU (U : Vw) : Vw := if U 0 0 = 20 then (fun a b => if a = 0 then 19 else if a = 1 ∨ a = 2 then U a (b + 1) else U (a + 1) b) else U
def puU (V : Vw) (pl ol : Nat) (nr : Nat → Nat) : Vw := fun a b => if a = 0 then V 0 0 + 1 else if a = 1 then (if b = V 0 0 then pl else V 1 b) else if a = 2 then (if b = V 0 0 then ol else V 2 b) else if a = 4 + V 0 0 then nr b else V a b
theorem shU_20 {U : Vw} (h : U 0 0 = 20) : shU U = fun a b => if a = 0 then 19 else if a = 1 ∨ a = 2 then U a (b + 1) else U (a + 1) b := if_pos h
theorem shU_n {U : Vw} (h : ¬ U 0 0 = 20) : shU U = U := if_neg h
theorem sh_row {U : Vw} (h : U 0 0 = 20) (k q : Nat) : shU U (3 + k) q = U (3 + (k + 1)) q := by
  rw [shU_20 h]
  show (if 3 + k = 0 then 19 else if 3 + k = 1 ∨ 3 + k = 2 then U (3 + k) (q + 1) else U (3 + k + 1) q) = _
  rw [if_neg (by omega), if_neg (by omega)]
  rfl
theorem shU_wf {D U : Vw} (h : wfU D U) : wfU D (shU U) ∧ shU U 0 0 ≤ 19 := by
  by_cases e : U 0 0 = 20
  · obtain ⟨h1, h2, h3, h4⟩ := h
    have e0 : shU U 0 0 = 19 := by rw [shU_20 e]; rfl
    have e1 : ∀ k, shU U 1 k = U 1 (k + 1) := fun k => by rw [shU_20 e]; rfl
    have e2 : ∀ k, shU U 2 k = U 2 (k + 1) := fun k => by rw [shU_20 e]; rfl
    rw [e] at h2 h3 h4
    refine ⟨⟨by omega, ?_, ?_, ?_⟩, by omega⟩
    · rw [e0]; intro q hq; rw [sh_row e]; exact h2 q hq
    · rw [e0, sh_row e]; exact h3
    · rw [e0]
      intro k hk
      rw [e1, e2, sh_row e]
      obtain ⟨a, b, c, d⟩ := h4 (k + 1) (by omega)
      refine ⟨a, b, fun q hq => ?_, fun c' hc => ?_⟩
      · rw [sh_row e, sh_row e]; exact c q hq
      · rw [sh_row e]; exact d c' hc
  · rw [shU_n e]
    exact ⟨h, by have := h.1; omega⟩
theorem puU_wf {D D' V : Vw} {pl ol : Nat} {nr : Nat → Nat} (h : wfU D V) (hV : V 0 0 ≤ 19) (hpl : pl < 42) (h64 : D 4 5 < 64) (n1 : ∀ q, q < 36 → nr q = D' 0 q) (n2 : nr 36 = D' 4 5) (r1 : ∀ q, q < 36 → D 0 q = if q = pl then ol else nr q) (r2 : ∀ c, c < 6 → D 4 5 / 2 ^ c % 2 = if 36 + c = pl then ol else nr 36 / 2 ^ c % 2) : wfU D' (puU V pl ol nr) := by
  obtain ⟨h1, h2, h3, h4⟩ := h
  have e0 : puU V pl ol nr 0 0 = V 0 0 + 1 := rfl
  have er : ∀ k q, k ≤ V 0 0 → puU V pl ol nr (3 + k) q = V (3 + k) q := fun k q hk => by
    unfold puU
    rw [if_neg (by omega), if_neg (by omega), if_neg (by omega), if_neg (by omega)]
  have el : ∀ q, puU V pl ol nr (3 + (V 0 0 + 1)) q = nr q := fun q => by
    unfold puU
    rw [if_neg (by omega), if_neg (by omega), if_neg (by omega), if_pos (by omega)]
  have e1 : ∀ k, puU V pl ol nr 1 k = if k = V 0 0 then pl else V 1 k := fun k => rfl
  have e2 : ∀ k, puU V pl ol nr 2 k = if k = V 0 0 then ol else V 2 k := fun k => rfl
  refine ⟨by omega, ?_, ?_, ?_⟩
  · rw [e0]; intro q hq; rw [el]; exact n1 q hq
  · rw [e0, el]; exact n2
  · rw [e0]
    intro k hk
    by_cases e : k = V 0 0
    · rw [e1, e2, if_pos e, if_pos e, er _ _ (by omega), e]
      refine ⟨hpl, by rw [h3]; exact h64, fun q hq => ?_, fun c hc => ?_⟩
      · rw [er _ _ (by omega), el, h2 q hq]; exact r1 q hq
      · rw [h3, el]; exact r2 c hc
    · obtain ⟨a, b, c, d⟩ := h4 k (by omega)
      rw [e1, e2, if_neg e, if_neg e, er _ _ (by omega)]
      refine ⟨a, b, fun q hq => ?_, fun c' hc => ?_⟩
      · rw [er _ _ (by omega), er _ _ (by omega)]; exact c q hq
      · rw [er _ _ (by omega)]; exact d c' hc
theorem XU_pu {V : Vw} {pl ol : Nat} {nr : Nat → Nat} {σ : St} (hV : V 0 0 ≤ 19) (h : XU V σ) : ∃ τ, rX_keepForUndo_53 (I pl) (I ol) σ = some τ ∧ XU (puU V pl ol nr) τ ∧ frO [1, 2] 0 [11] σ τ := by
  unfold rX_keepForUndo_53
  rw [h.1, chk_t (ib_I (by omega) (by omega)), nmE, gI_ne1 _ _ _ (show (0 : Nat) ≠ 1 by decide), h.1, chk_t (ib_I (by omega) (by omega)), nmE, nmE, gI_ne1 _ _ _ (show (0 : Nat) ≠ 2 by decide), gI_ne1 _ _ _ (show (0 : Nat) ≠ 1 by decide), h.1, I_cl (by omega), I1, I_add]
  refine ⟨_, rfl, ⟨gI_same _ _ _ _, ?_⟩, frO_f (frO_c (frO_c frO_refl _ (by decide) (by decide)) _ (by decide) (by decide)) _ (by decide)⟩
  intro k hk
  have hk' : k < V 0 0 + 1 := hk
  rw [gI_ne1 _ _ _ (show (1 : Nat) ≠ 0 by decide), gI_ne1 _ _ _ (show (2 : Nat) ≠ 0 by decide), gI_ne1 _ _ _ (show (1 : Nat) ≠ 2 by decide)]
  show _ = I (if k = V 0 0 then pl else V 1 k) ∧ _ = I (if k = V 0 0 then ol else V 2 k)
  by_cases e : k = V 0 0
  · rw [if_pos e, if_pos e, e, gI_same, gI_same]
    exact ⟨rfl, rfl⟩
  · rw [if_neg e, if_neg e, gI_ne2 _ _ _ e, gI_ne2 _ _ _ e, gI_ne1 _ _ _ (show (2 : Nat) ≠ 1 by decide)]
    exact h.2 k (by omega)
theorem eX_keep {U : Vw} {pl ol : Nat} {nr : Nat → Nat} {σ : St} (hU : U 0 0 ≤ 20) (h : XU U σ) : ∃ τ, rX_keepForUndo (I pl) (I ol) σ = some τ ∧ XU (puU (shU U) pl ol nr) τ ∧ frO [1, 2] 0 [11] σ τ := by
  unfold rX_keepForUndo
  rw [h.1]
  by_cases e : U 0 0 = 20
  · rw [brc_f (show ¬ ¬ I (U 0 0) = 20 by rw [e]; exact fun h => h rfl), nmE, I1, I_sub (by omega), gI_same, e]
    rw [chk_t (show cpb (I 1) 0 (I (20 - 1)) 20 20 = true by decide), nmE, setR_ne _ _ (show (0 : Nat) ≠ 1 by decide), gI_same, chk_t (show cpb (I 1) 0 (I (20 - 1)) 20 20 = true by decide), nmE]
    rw [show (I 1).toNatClampNeg = 1 from rfl, show (0 : Int32).toNatClampNeg = 0 from rfl, show (I (20 - 1)).toNatClampNeg = 19 from rfl]
    generalize hσ1 : setI σ 0 11 (I (20 - 1)) = σ1
    generalize hσ2 : setR σ1 1 (va_cpy (σ1.1 1) (σ1.1 1) 1 0 19) = σ2
    have g1 : σ1.1 1 = σ.1 1 := by rw [← hσ1, gI_ne1 _ _ _ (by decide)]
    have g2 : σ1.1 2 = σ.1 2 := by rw [← hσ1, gI_ne1 _ _ _ (by decide)]
    have g3 : σ2.1 2 = σ.1 2 := by rw [← hσ2, setR_ne _ _ (by decide), g2]
    have e0 : shU U 0 0 = 19 := by rw [shU_20 e]; rfl
    have hs : XU (shU U) (setR σ2 2 (va_cpy (σ2.1 2) (σ2.1 2) 1 0 19)) := by
      refine ⟨?_, fun k hk => ?_⟩
      · rw [e0, setR_ne _ _ (by decide), ← hσ2, setR_ne _ _ (by decide), ← hσ1, gI_same]
      · rw [e0] at hk
        rw [setR_ne _ _ (show (1 : Nat) ≠ 2 by decide), setR_same, ← hσ2, setR_same, cpy_at (by omega) (by omega), hσ2, g3, g1, cpy_at (by omega) (by omega), show 1 + (k - 0) = k + 1 by omega, shU_20 e]
        exact h.2 (k + 1) (by omega)
    obtain ⟨τ, e1, x, f⟩ := XU_pu (pl := pl) (ol := ol) (nr := nr) (by omega) hs
    refine ⟨τ, e1, x, frO_tr ?_ f⟩
    refine frO_R ?_ _ (by decide) (by decide)
    rw [← hσ2]
    refine frO_R ?_ _ (by decide) (by decide)
    rw [← hσ1]
    exact frO_f frO_refl _ (by decide)
  · rw [brc_t (show ¬ I (U 0 0) = 20 by rw [litN, I_inj (by omega) (by omega)]; exact e), shU_n e]
    exact XU_pu (by omega) h
def frS (σ τ : St) : Prop := (∀ i, i ≠ 16 → i ≠ 0 → τ.1 i = σ.1 i) ∧ (∀ j, j ≠ 25 → τ.1 0 j = σ.1 0 j) ∧ (∀ q, q < 1200 → τ.1 16 q = σ.1 16 q) ∧ τ.2 = σ.2
theorem MU_pu {V : Vw} {pl ol : Nat} {nr : Nat → Nat} {σ : St} (hV : V 0 0 ≤ 19) (h : MU V σ) (hc : ∀ q, q ≤ 36 → σ.1 16 q = I (V (3 + V 0 0) q)) : ∃ τ, rM_keeps_47 σ = some τ ∧ MU (puU V pl ol nr) τ ∧ frS σ τ := by
  unfold rM_keeps_47
  rw [h.1, litN, litN, litN, I_add, eM_copies (by omega) (by omega) (by omega) (by omega), bnd1_e, nmE, setR_ne _ _ (show (0 : Nat) ≠ 16 by decide), h.1, I1, I_add]
  refine ⟨_, rfl, ⟨gI_same _ _ _ _, ?_⟩, ?_, ?_, ?_, rfl⟩
  · intro k hk q hq
    have hk' : k < V 0 0 + 1 := hk
    rw [gI_ne1 _ _ _ (show (16 : Nat) ≠ 0 by decide), setR_same]
    have er : puU V pl ol nr (3 + k) q = V (3 + k) q := by
      unfold puU
      rw [if_neg (by omega), if_neg (by omega), if_neg (by omega), if_neg (by omega)]
    rw [er]
    by_cases e : k = V 0 0
    · rw [cpy_at (by omega) (by omega), show 240 * 0 + (240 * (5 + k) + q - 240 * (5 + V 0 0)) = q by omega, hc q hq, e]
    · rw [cpy_off (by omega)]
      exact h.2 k (by omega) q hq
  · intro i h1 h2
    rw [gI_ne1 _ _ _ h2, setR_ne _ _ h1]
  · intro j hj
    rw [gI_ne2 _ _ _ hj, setR_ne _ _ (show (0 : Nat) ≠ 16 by decide)]
  · intro q hq
    rw [gI_ne1 _ _ _ (show (16 : Nat) ≠ 0 by decide), setR_same, cpy_off (by omega)]
theorem frS_tr {σ τ υ : St} (h1 : frS σ τ) (h2 : frS τ υ) : frS σ υ :=
  ⟨fun i a b => (h2.1 i a b).trans (h1.1 i a b), fun j a => (h2.2.1 j a).trans (h1.2.1 j a), fun q a => (h2.2.2.1 q a).trans (h1.2.2.1 q a), h2.2.2.2.trans h1.2.2.2⟩
theorem eM_keep {D U : Vw} {pl ol : Nat} {nr : Nat → Nat} {σ : St} (hU : wfU D U) (h : MU U σ) (hd : ∀ q, q < 36 → σ.1 16 q = I (D 0 q)) (hp : σ.1 16 36 = I (D 4 5)) : ∃ τ, rM_keeps σ = some τ ∧ MU (puU (shU U) pl ol nr) τ ∧ frS σ τ := by
  have h20 := hU.1
  have hcur : ∀ (V : Vw), wfU D V → ∀ (τ : St), (∀ q, q < 1200 → τ.1 16 q = σ.1 16 q) → ∀ q, q ≤ 36 → τ.1 16 q = I (V (3 + V 0 0) q) := by
    intro V hV τ ht q hq
    rw [ht q (by omega)]
    by_cases e : q = 36
    · rw [e, hV.2.2.1]; exact hp
    · rw [hV.2.1 q (by omega)]; exact hd q (by omega)
  unfold rM_keeps
  rw [h.1]
  by_cases e : U 0 0 = 20
  · rw [brc_f (show ¬ ¬ I (U 0 0) = 20 by rw [e]; exact fun h => h rfl), nmE]
    have e0 : shU U 0 0 = 19 := by rw [shU_20 e]; rfl
    have key : wp (lp rM_keeps_11L fu (1, σ)) (fun τ => MU (puU (shU U) pl ol nr) τ ∧ frS σ τ) := by
      refine wp_for (fun n a => ∃ (i : Nat) (τ : St), i + n = 20 ∧ 1 ≤ i ∧ a = (I i, τ) ∧ τ.1 0 25 = I 20 ∧ (∀ r, r < 20 → ∀ q, q ≤ 36 → τ.1 16 (240 * (5 + r) + q) = I (if r + 1 < i then U (3 + (r + 1)) q else U (3 + r) q)) ∧ frS σ τ) ?_ ?_ 19 fu _ ⟨1, σ, by omega, by omega, rfl, by rw [h.1, e], fun r hr q hq => by rw [if_neg (by omega)]; exact h.2 r (by omega) q hq, ⟨fun _ _ _ => rfl, fun _ _ => rfl, fun _ _ => rfl, rfl⟩⟩ (by unfold fu; omega)
      · rintro n a k ⟨i, τ, hi, hi1, rfl, t0, t1, t2⟩ hk
        show wp (rM_keeps_11 (fun v1 σ => k (v1, σ)) (I i) τ) _
        unfold rM_keeps_11
        rw [brc_f (show ¬ (20 : Int32) ≤ I i by rw [litN, I_le (by omega) (by omega)]; omega), litN, I_add, I1, I_sub (by omega), litN, eM_copies (by omega) (by omega) (by omega) (by omega), bnd1_e, nmE, oi1, I_add]
        refine hk _ ⟨i + 1, _, by omega, by omega, rfl, ?_, ?_, ?_⟩
        · rw [setR_ne _ _ (by decide)]; exact t0
        · intro r hr q hq
          rw [setR_same]
          by_cases er : r + 1 = i
          · rw [cpy_at (by omega) (by omega), show 240 * (5 + i) + (240 * (5 + r) + q - 240 * (5 + i - 1)) = 240 * (5 + i) + q by omega, t1 i (by omega) q hq, if_neg (by omega), if_pos (by omega), er]
          · rw [cpy_off (by omega), t1 r hr q hq]
            by_cases e2 : r + 1 < i
            · rw [if_pos e2, if_pos (by omega)]
            · rw [if_neg e2, if_neg (by omega)]
        · refine frS_tr t2 ⟨fun i h1 _ => setR_ne _ _ h1, fun j _ => by rw [setR_ne _ _ (by decide)], fun q hq => ?_, rfl⟩
          rw [setR_same, cpy_off (by omega)]
      · rintro a k ⟨i, τ, hi, hi1, rfl, t0, t1, t2⟩
        show wp (rM_keeps_11 (fun v1 σ => k (v1, σ)) (I i) τ) _
        unfold rM_keeps_11
        rw [brc_t (show (20 : Int32) ≤ I i by rw [litN, I_le (by omega) (by omega)]; omega), nmE, t0, I1, I_sub (by omega)]
        have hs : MU (shU U) (setI τ 0 25 (I (20 - 1))) := by
          refine ⟨by rw [gI_same, e0], fun r hr q hq => ?_⟩
          rw [e0] at hr
          rw [gI_ne1 _ _ _ (by decide), t1 r (by omega) q hq, if_pos (by omega), sh_row e]
        have f1 : frS σ (setI τ 0 25 (I (20 - 1))) := frS_tr t2 ⟨fun i _ h2 => gI_ne1 _ _ _ h2, fun j hj => gI_ne2 _ _ _ hj, fun q _ => by rw [gI_ne1 _ _ _ (by decide)], rfl⟩
        obtain ⟨υ, e1, u1, u2⟩ := MU_pu (pl := pl) (ol := ol) (nr := nr) (by omega) hs (hcur _ (shU_wf hU).1 _ f1.2.2.1)
        exact ⟨υ, e1, u1, frS_tr f1 u2⟩
    exact key
  · rw [brc_t (show ¬ I (U 0 0) = 20 by rw [litN, I_inj (by omega) (by omega)]; exact e), shU_n e]
    exact MU_pu (by omega) h (hcur U hU σ (fun _ _ => rfl))
