/-! what was read becomes the mountain: the class -/
theorem cp_at {σ : St} {s d N q : Nat} (hN : (nI N).toNatClampNeg = N) (hq : q < N) : (setR σ d (va_cpy (σ.1 s) (σ.1 d) (0 : Int32).toNatClampNeg (0 : Int32).toNatClampNeg (nI N).toNatClampNeg)).1 d q = σ.1 s q := by
  rw [setR_same, hN, show (0 : Int32).toNatClampNeg = 0 from rfl, cpy_at (Nat.zero_le _) (by omega), show 0 + (q - 0) = q by omega]
theorem cp_step {σ : St} {s d N : Nat} (hN : (nI N).toNatClampNeg = N) {K : St → Option St} {Q : St → Prop} (h : ∀ τ, (∀ q, q < N → τ.1 d q = σ.1 s q) → (∀ i, i ≠ d → τ.1 i = σ.1 i) → τ.2 = σ.2 → wp (K τ) Q) : wp (nm (setR σ d (va_cpy (σ.1 s) (σ.1 d) (0 : Int32).toNatClampNeg (0 : Int32).toNatClampNeg (nI N).toNatClampNeg)) K) Q := h _ (fun _ hq => cp_at hN hq) (fun _ hi => setR_ne _ _ hi) rfl
theorem eX_mcopy {T : Vw} {O : Nat → Nat} {σ : St} (hw : wfT T) (hT : XDr T σ) (hO : XO O σ) : wp (rX_mcopy σ) (fun τ => XMt T τ ∧ (∀ q, q < 36 → τ.1 32 q = I (O q)) ∧ τ.2.2.1 23 12 = σ.2.2.1 10 12 ∧ τ.2.2.1 23 13 = σ.2.2.1 10 13 ∧ (∀ i, ¬ (23 ≤ i ∧ i ≤ 32) → τ.1 i = σ.1 i) ∧ τ.2.1 = σ.2.1 ∧ (∀ i, i ≠ 23 → τ.2.2.1 i = σ.2.2.1 i) ∧ τ.2.2.2 = σ.2.2.2) := by
  obtain ⟨t0, t1, t2, t3, t4, t5, t6, t7, t8⟩ := hT
  have h7 := hw.1
  have h6 := hw.2.1
  unfold rX_mcopy
  rw [nmE, nmE, nmE]
  have g : ∀ i, i ≠ 23 → (setI (setI (setI σ 23 0 (σ.1 10 0)) 23 1 ((setI σ 23 0 (σ.1 10 0)).1 10 1)) 23 2 ((setI (setI σ 23 0 (σ.1 10 0)) 23 1 ((setI σ 23 0 (σ.1 10 0)).1 10 1)).1 10 2)).1 i = σ.1 i := fun i hi => by rw [gI_ne1 _ _ _ hi, gI_ne1 _ _ _ hi, gI_ne1 _ _ _ hi]
  have g0 : (setI (setI (setI σ 23 0 (σ.1 10 0)) 23 1 ((setI σ 23 0 (σ.1 10 0)).1 10 1)) 23 2 ((setI (setI σ 23 0 (σ.1 10 0)) 23 1 ((setI σ 23 0 (σ.1 10 0)).1 10 1)).1 10 2)).1 23 0 = σ.1 10 0 := by rw [gI_ne2 _ _ _ (by decide), gI_ne2 _ _ _ (by decide), gI_same]
  have g1 : (setI (setI (setI σ 23 0 (σ.1 10 0)) 23 1 ((setI σ 23 0 (σ.1 10 0)).1 10 1)) 23 2 ((setI (setI σ 23 0 (σ.1 10 0)) 23 1 ((setI σ 23 0 (σ.1 10 0)).1 10 1)).1 10 2)).1 23 1 = σ.1 10 1 := by rw [gI_ne2 _ _ _ (by decide), gI_same, gI_ne1 _ _ _ (by decide)]
  have g2 : (setI (setI (setI σ 23 0 (σ.1 10 0)) 23 1 ((setI σ 23 0 (σ.1 10 0)).1 10 1)) 23 2 ((setI (setI σ 23 0 (σ.1 10 0)) 23 1 ((setI σ 23 0 (σ.1 10 0)).1 10 1)).1 10 2)).1 23 2 = σ.1 10 2 := by rw [gI_same, gI_ne1 _ _ _ (by decide), gI_ne1 _ _ _ (by decide)]
  have gs : (setI (setI (setI σ 23 0 (σ.1 10 0)) 23 1 ((setI σ 23 0 (σ.1 10 0)).1 10 1)) 23 2 ((setI (setI σ 23 0 (σ.1 10 0)) 23 1 ((setI σ 23 0 (σ.1 10 0)).1 10 1)).1 10 2)).2 = σ.2 := rfl
  generalize setI (setI (setI σ 23 0 (σ.1 10 0)) 23 1 ((setI σ 23 0 (σ.1 10 0)).1 10 1)) 23 2 ((setI (setI σ 23 0 (σ.1 10 0)) 23 1 ((setI σ 23 0 (σ.1 10 0)).1 10 1)).1 10 2) = s3 at g g0 g1 g2 gs ⊢
  rw [chk_t (by decide)]
  refine cp_step (N := 7) rfl (fun s4 a4 b4 c4 => ?_)
  rw [chk_t (by decide)]
  refine cp_step (N := 7) rfl (fun s5 a5 b5 c5 => ?_)
  rw [chk_t (by decide)]
  refine cp_step (N := 49) rfl (fun s6 a6 b6 c6 => ?_)
  rw [chk_t (by decide)]
  refine cp_step (N := 49) rfl (fun s7 a7 b7 c7 => ?_)
  rw [chk_t (by decide)]
  refine cp_step (N := 6) rfl (fun s8 a8 b8 c8 => ?_)
  rw [chk_t (by decide)]
  refine cp_step (N := 6) rfl (fun s9 a9 b9 c9 => ?_)
  rw [chk_t (by decide)]
  refine cp_step (N := 6) rfl (fun s10 a10 b10 c10 => ?_)
  rw [chk_t (by decide)]
  refine cp_step (N := 6) rfl (fun s11 a11 b11 c11 => ?_)
  rw [chk_t (by decide)]
  refine cp_step (N := 36) rfl (fun s12 a12 b12 c12 => ?_)
  have F : ∀ i, ¬ (24 ≤ i ∧ i ≤ 32) → s12.1 i = s3.1 i := fun i hi => by rw [b12 i (by omega), b11 i (by omega), b10 i (by omega), b9 i (by omega), b8 i (by omega), b7 i (by omega), b6 i (by omega), b5 i (by omega), b4 i (by omega)]
  have F2 : s12.2 = σ.2 := by rw [c12, c11, c10, c9, c8, c7, c6, c5, c4, gs]
  have A24 : ∀ q, q < 7 → s12.1 24 q = σ.1 11 q := fun q hq => by rw [b12 24 (by decide), b11 24 (by decide), b10 24 (by decide), b9 24 (by decide), b8 24 (by decide), b7 24 (by decide), b6 24 (by decide), b5 24 (by decide), a4 q hq, g 11 (by decide)]
  have A25 : ∀ q, q < 7 → s12.1 25 q = σ.1 12 q := fun q hq => by rw [b12 25 (by decide), b11 25 (by decide), b10 25 (by decide), b9 25 (by decide), b8 25 (by decide), b7 25 (by decide), b6 25 (by decide), a5 q hq, b4 12 (by decide), g 12 (by decide)]
  have A26 : ∀ q, q < 49 → s12.1 26 q = σ.1 13 q := fun q hq => by rw [b12 26 (by decide), b11 26 (by decide), b10 26 (by decide), b9 26 (by decide), b8 26 (by decide), b7 26 (by decide), a6 q hq, b5 13 (by decide), b4 13 (by decide), g 13 (by decide)]
  have A27 : ∀ q, q < 49 → s12.1 27 q = σ.1 14 q := fun q hq => by rw [b12 27 (by decide), b11 27 (by decide), b10 27 (by decide), b9 27 (by decide), b8 27 (by decide), a7 q hq, b6 14 (by decide), b5 14 (by decide), b4 14 (by decide), g 14 (by decide)]
  have A28 : ∀ q, q < 6 → s12.1 28 q = σ.1 15 q := fun q hq => by rw [b12 28 (by decide), b11 28 (by decide), b10 28 (by decide), b9 28 (by decide), a8 q hq, b7 15 (by decide), b6 15 (by decide), b5 15 (by decide), b4 15 (by decide), g 15 (by decide)]
  have A29 : ∀ q, q < 6 → s12.1 29 q = σ.1 16 q := fun q hq => by rw [b12 29 (by decide), b11 29 (by decide), b10 29 (by decide), a9 q hq, b8 16 (by decide), b7 16 (by decide), b6 16 (by decide), b5 16 (by decide), b4 16 (by decide), g 16 (by decide)]
  have A30 : ∀ q, q < 6 → s12.1 30 q = σ.1 17 q := fun q hq => by rw [b12 30 (by decide), b11 30 (by decide), a10 q hq, b9 17 (by decide), b8 17 (by decide), b7 17 (by decide), b6 17 (by decide), b5 17 (by decide), b4 17 (by decide), g 17 (by decide)]
  have A31 : ∀ q, q < 6 → s12.1 31 q = σ.1 18 q := fun q hq => by rw [b12 31 (by decide), a11 q hq, b10 18 (by decide), b9 18 (by decide), b8 18 (by decide), b7 18 (by decide), b6 18 (by decide), b5 18 (by decide), b4 18 (by decide), g 18 (by decide)]
  have A32 : ∀ q, q < 36 → s12.1 32 q = σ.1 19 q := fun q hq => by rw [a12 q hq, b11 19 (by decide), b10 19 (by decide), b9 19 (by decide), b8 19 (by decide), b7 19 (by decide), b6 19 (by decide), b5 19 (by decide), b4 19 (by decide), g 19 (by decide)]
  clear a12 b12 c12 a11 b11 c11 a10 b10 c10 a9 b9 c9 a8 b8 c8 a7 b7 c7 a6 b6 c6 a5 b5 c5 a4 b4 c4
  rw [nmE, nmE, nmE, nmE, nmE]
  have p1 : (setP (setP s12 23 12 (s12.2.2.1 10 12)) 23 13 ((setP s12 23 12 (s12.2.2.1 10 12)).2.2.1 10 13)).1 = s12.1 := rfl
  have p2 : (setP (setP s12 23 12 (s12.2.2.1 10 12)) 23 13 ((setP s12 23 12 (s12.2.2.1 10 12)).2.2.1 10 13)).2.1 = σ.2.1 := by show s12.2.1 = _; rw [F2]
  have p3 : (setP (setP s12 23 12 (s12.2.2.1 10 12)) 23 13 ((setP s12 23 12 (s12.2.2.1 10 12)).2.2.1 10 13)).2.2.2 = σ.2.2.2 := by show s12.2.2.2 = _; rw [F2]
  have p4 : (setP (setP s12 23 12 (s12.2.2.1 10 12)) 23 13 ((setP s12 23 12 (s12.2.2.1 10 12)).2.2.1 10 13)).2.2.1 23 12 = σ.2.2.1 10 12 := by
    show s12.2.2.1 10 12 = _
    rw [F2]
  have p5 : (setP (setP s12 23 12 (s12.2.2.1 10 12)) 23 13 ((setP s12 23 12 (s12.2.2.1 10 12)).2.2.1 10 13)).2.2.1 23 13 = σ.2.2.1 10 13 := by
    show s12.2.2.1 10 13 = _
    rw [F2]
  have p6 : ∀ i, i ≠ 23 → (setP (setP s12 23 12 (s12.2.2.1 10 12)) 23 13 ((setP s12 23 12 (s12.2.2.1 10 12)).2.2.1 10 13)).2.2.1 i = σ.2.2.1 i := fun i hi => funext fun q => by
    show (if i = 23 ∧ q = 13 then _ else (if i = 23 ∧ q = 12 then _ else s12.2.2.1 i q)) = _
    rw [if_neg (fun h => hi h.1), if_neg (fun h => hi h.1), F2]
  generalize setP (setP s12 23 12 (s12.2.2.1 10 12)) 23 13 ((setP s12 23 12 (s12.2.2.1 10 12)).2.2.1 10 13) = s14 at p1 p2 p3 p4 p5 p6 ⊢
  have q0 : ∀ i, i ≠ 23 → (setI (setI (setI s14 23 14 (s14.1 10 14)) 23 15 ((setI s14 23 14 (s14.1 10 14)).1 10 15)) 23 16 ((setI (setI s14 23 14 (s14.1 10 14)) 23 15 ((setI s14 23 14 (s14.1 10 14)).1 10 15)).1 10 16)).1 i = s12.1 i := fun i hi => by rw [gI_ne1 _ _ _ hi, gI_ne1 _ _ _ hi, gI_ne1 _ _ _ hi, p1]
  have q1 : ∀ j, j ≠ 14 → j ≠ 15 → j ≠ 16 → (setI (setI (setI s14 23 14 (s14.1 10 14)) 23 15 ((setI s14 23 14 (s14.1 10 14)).1 10 15)) 23 16 ((setI (setI s14 23 14 (s14.1 10 14)) 23 15 ((setI s14 23 14 (s14.1 10 14)).1 10 15)).1 10 16)).1 23 j = s3.1 23 j := fun j h1 h2 h3 => by rw [gI_ne2 _ _ _ h3, gI_ne2 _ _ _ h2, gI_ne2 _ _ _ h1, p1, F 23 (by omega)]
  have q4 : (setI (setI (setI s14 23 14 (s14.1 10 14)) 23 15 ((setI s14 23 14 (s14.1 10 14)).1 10 15)) 23 16 ((setI (setI s14 23 14 (s14.1 10 14)) 23 15 ((setI s14 23 14 (s14.1 10 14)).1 10 15)).1 10 16)).1 23 14 = σ.1 10 14 := by rw [gI_ne2 _ _ _ (by decide), gI_ne2 _ _ _ (by decide), gI_same, p1, F 10 (by omega), g 10 (by decide)]
  have q5 : (setI (setI (setI s14 23 14 (s14.1 10 14)) 23 15 ((setI s14 23 14 (s14.1 10 14)).1 10 15)) 23 16 ((setI (setI s14 23 14 (s14.1 10 14)) 23 15 ((setI s14 23 14 (s14.1 10 14)).1 10 15)).1 10 16)).1 23 15 = σ.1 10 15 := by rw [gI_ne2 _ _ _ (by decide), gI_same, gI_ne1 _ _ _ (by decide), p1, F 10 (by omega), g 10 (by decide)]
  have q6 : (setI (setI (setI s14 23 14 (s14.1 10 14)) 23 15 ((setI s14 23 14 (s14.1 10 14)).1 10 15)) 23 16 ((setI (setI s14 23 14 (s14.1 10 14)) 23 15 ((setI s14 23 14 (s14.1 10 14)).1 10 15)).1 10 16)).1 23 16 = σ.1 10 16 := by rw [gI_same, gI_ne1 _ _ _ (by decide), gI_ne1 _ _ _ (by decide), p1, F 10 (by omega), g 10 (by decide)]
  have q7 : (setI (setI (setI s14 23 14 (s14.1 10 14)) 23 15 ((setI s14 23 14 (s14.1 10 14)).1 10 15)) 23 16 ((setI (setI s14 23 14 (s14.1 10 14)) 23 15 ((setI s14 23 14 (s14.1 10 14)).1 10 15)).1 10 16)).2 = s14.2 := rfl
  generalize setI (setI (setI s14 23 14 (s14.1 10 14)) 23 15 ((setI s14 23 14 (s14.1 10 14)).1 10 15)) 23 16 ((setI (setI s14 23 14 (s14.1 10 14)) 23 15 ((setI s14 23 14 (s14.1 10 14)).1 10 15)).1 10 16) = s17 at q0 q1 q4 q5 q6 q7 ⊢
  refine wp_some ⟨⟨?_, ?_, ?_, q4.trans t3, q5.trans t4, q6.trans t5, fun s hs => ⟨?_, ?_⟩, fun q hq => ⟨?_, fun h0 => ?_⟩, fun c hc => ⟨?_, ?_, ?_, ?_⟩⟩, fun q hq => ?_, by rw [q7]; exact p4, by rw [q7]; exact p5, fun i hi => ?_, by rw [q7]; exact p2, fun i hi => by rw [q7]; exact p6 i hi, by rw [q7]; exact p3⟩
  · rw [q1 0 (by decide) (by decide) (by decide), g0]; exact t0
  · rw [q1 1 (by decide) (by decide) (by decide), g1]; exact t1
  · rw [q1 2 (by decide) (by decide) (by decide), g2]; exact t2
  · rw [q0 24 (by decide), A24 s (by omega)]; exact (t6 s hs).1
  · rw [q0 25 (by decide), A25 s (by omega)]; exact (t6 s hs).2
  · rw [q0 26 (by decide), A26 q hq]; exact (t7 q hq).1
  · rw [q0 27 (by decide), A27 q hq]; exact (t7 q hq).2 h0
  · rw [q0 28 (by decide), A28 c (by omega)]; exact (t8 c hc).1
  · rw [q0 29 (by decide), A29 c (by omega)]; exact (t8 c hc).2.1
  · rw [q0 30 (by decide), A30 c (by omega)]; exact (t8 c hc).2.2.1
  · rw [q0 31 (by decide), A31 c (by omega)]; exact (t8 c hc).2.2.2
  · rw [q0 32 (by decide), A32 q hq]; exact hO q hq
  · rw [q0 i (by omega), F i (by omega), g i (by omega)]
/-- no mark is laid -/
theorem eX_marks0 {hb k0 mc ms : Nat} {σ : St} (hK : Kn σ - k0 ≤ mc ∧ 1000 * (Kn σ - k0) ≤ ms) : wp (lp (rX_mountain_65L hb k0 mc ms) fu ((0 : Int32), σ)) (fun r => r.1 = 0 ∧ (∀ j, j < 4 → r.2.1 4 j = I 0) ∧ r.2.1 49 8 = 0 ∧ r.2.1 54 9 = 0 ∧ (∀ i, i ≠ 4 → i ≠ 49 → i ≠ 54 → r.2.1 i = σ.1 i) ∧ r.2.2 = σ.2) := by
  refine wp_for (fun n a => ∃ (i : Nat) (τ : St), i + n = 4 ∧ a = (I i, τ) ∧ (∀ j, j < i → τ.1 4 j = I 0) ∧ (∀ i, i ≠ 4 → τ.1 i = σ.1 i) ∧ τ.2 = σ.2) ?_ ?_ 4 fu _ ⟨0, σ, by omega, rfl, fun j hj => absurd hj (Nat.not_lt_zero _), fun _ _ => rfl, rfl⟩ (by unfold fu; omega)
  · rintro n a k ⟨i, τ, hi, rfl, t1, t2, t3⟩ hk
    show wp (rX_mountain_65 hb k0 mc ms (fun v2 σ => k (v2, σ)) (I i) τ) _
    unfold rX_mountain_65
    rw [brc_f (show ¬ (4 : Int32) ≤ I i by rw [litN, I_le (by omega) (by omega)]; omega), chk_t (ib_I (by omega) (by omega)), nmE, nmE, oi1, I_add, I_cl (by omega)]
    refine hk _ ⟨i + 1, _, by omega, rfl, fun j hj => ?_, fun j hj => ?_, t3⟩
    · by_cases e : j = i
      · rw [e, gI_same]; rfl
      · rw [gI_ne2 _ _ _ e]; exact t1 j (by omega)
    · rw [gI_ne1 _ _ _ hj]; exact t2 j hj
  · rintro a k ⟨i, τ, hi, rfl, t1, t2, t3⟩
    show wp (rX_mountain_65 hb k0 mc ms (fun v2 σ => k (v2, σ)) (I i) τ) _
    unfold rX_mountain_65
    have hk : Kn τ = Kn σ := Kn_eq (by rw [t3])
    have hk2 : Kn (setI (setI τ 49 8 0) 54 9 0) = Kn τ := rfl
    rw [brc_t (show (4 : Int32) ≤ I i by rw [litN, I_le (by omega) (by omega)]; omega), eX_forget, bnd1S, chk_t (decide_eq_true ⟨hk2, by omega, by omega⟩)]
    refine wp_some ⟨rfl, fun j hj => ?_, ?_, ?_, fun j h1 h2 h3 => ?_, t3⟩
    · rw [gI_ne1 _ _ _ (by decide), gI_ne1 _ _ _ (by decide)]; exact t1 j (by omega)
    · rw [gI_ne1 _ _ _ (by decide), gI_same]
    · rw [gI_same]
    · rw [gI_ne1 _ _ _ h3, gI_ne1 _ _ _ h2]; exact t2 j h1
theorem x_good {T : Vw} {O : Nat → Nat} {LD LP : List Nat} {tp : Nat → Nat} {hb k0 mc ms : Nat} {σ : St} (hw : wfT T) (h37 : R00 T 0 0 ≤ 37) (hT : XDr T σ) (hO : XO O σ) (hL : XLd LD LP σ) (hN : XN σ) (hP : σ.1 5 2 = I 0) (hK : Kn σ - k0 ≤ mc ∧ 1000 * (Kn σ - k0) ≤ ms) : wp (bnd1 (rX_mcopy σ) fun σ_9 => chk (decide (Kn σ_9 = Kn σ ∧ Kn σ - k0 ≤ mc ∧ 1000 * (Kn σ - k0) ≤ ms)) (bnd1 (rX_rfind σ_9) fun σ_11 => chk (decide (Kn σ_11 = Kn σ_9 ∧ Kn σ_9 - k0 ≤ mc ∧ 1000 * (Kn σ_9 - k0) ≤ ms)) (bnd1 (rX_begin σ_11) fun σ_13 => chk (decide (Kn σ_13 = Kn σ_11 ∧ Kn σ_11 - k0 ≤ mc ∧ 1000 * (Kn σ_11 - k0) ≤ ms)) (nm (setI σ_13 0 11 (0 : Int32)) fun σ_15 => nm (0 : Int32) fun v2_16 => lp (rX_mountain_65L hb k0 mc ms) fu (v2_16, σ_15))))) (fun r => r.1 = 0 ∧ Kn r.2 = Kn σ ∧ GX T (R00 T) (bgD T O) zV zV 0 tp LD LP r.2) := by
  refine wp_bnd1 (wp_mono (eX_mcopy hw hT hO) ?_)
  rintro σ9 ⟨a1, a2, a3, a4, a5, a6, a7, a8⟩
  have K9 : Kn σ9 = Kn σ := Kn_eq a8
  rw [chk_t (decide_eq_true ⟨K9, hK⟩)]
  refine wp_bnd1 (wp_mono (eX_rfind hw h37 a1) ?_)
  rintro σ11 ⟨b1, b2⟩
  have K11 : Kn σ11 = Kn σ9 := Kn_eq (by rw [b2.2.2])
  rw [chk_t (decide_eq_true ⟨K11, by omega, by omega⟩)]
  have a1' : XMt T σ11 := XMt_fr (fun i h1 h2 => b2.1 i (by simp; omega) (by omega)) a1
  obtain ⟨σ13, e13, c1, c2, c3, c4⟩ := eX_begin (d := O) hw a1' (fun q hq => by rw [b2.1 32 (by decide) (by decide)]; exact a2 q hq)
  have K13 : Kn σ13 = Kn σ11 := Kn_eq (by rw [c4])
  rw [e13, bnd1S, chk_t (decide_eq_true ⟨K13, by omega, by omega⟩), nmE, nmE]
  have K15 : Kn (setI σ13 0 11 0) = Kn σ13 := rfl
  refine wp_mono (eX_marks0 (by omega)) ?_
  rintro ⟨r, τ⟩ ⟨d1, d2, d3, d4, d5, d6⟩
  have d6' : τ.2 = σ13.2 := d6
  have f : ∀ i, i ≠ 0 → i ≠ 4 → i ≠ 49 → i ≠ 54 → τ.1 i = σ13.1 i := fun i h0 h1 h2 h3 => by
    have := d5 i h1 h2 h3
    rw [gI_ne1 _ _ _ h0] at this
    exact this
  have fK : τ.2.2 = σ9.2.2 := by rw [d6', c4, b2.2.2]
  refine ⟨d1, by show Kn τ = _; rw [Kn_eq (show τ.2.2.2 = σ9.2.2.2 by rw [fK]), K9], XMt_fr (fun i h1 h2 => by rw [f i (by omega) (by omega) (by omega) (by omega), c2 i (by omega)]) a1', XD_fr (fun i h1 h2 => f i (by omega) (by omega) (by omega) (by omega)) (by rw [d6']) c1, XR_fr ?_ ?_ ?_ b1, fun j hj => ⟨d2 j hj, fun h => absurd h (show ¬ (0 : Nat) = 1 by decide)⟩, ⟨?_, fun k hk => absurd hk (Nat.not_lt_zero _)⟩, ⟨?_, fun i hi => absurd hi (Nat.not_lt_zero _)⟩, XL_fr fK ?_, ⟨Or.inl d3, Or.inl d4⟩, XN_fr fK ?_⟩
  · rw [f 42 (by decide) (by decide) (by decide) (by decide), c2 42 (by omega)]
  · rw [f 43 (by decide) (by decide) (by decide) (by decide), c2 43 (by omega)]
  · rw [f 44 (by decide) (by decide) (by decide) (by decide), c2 44 (by omega)]
  · have h0 : τ.1 0 = (setI σ13 0 11 0).1 0 := d5 0 (by decide) (by decide) (by decide)
    rw [h0, gI_same]
    rfl
  · rw [f 5 (by decide) (by decide) (by decide) (by decide), c2 5 (by omega), b2.1 5 (by decide) (by decide), a5 5 (by omega)]
    exact hP
  · unfold XL XLd lawok lawc Kn at *
    rw [a3, a4, a8]
    exact hL
  · unfold XN Pok at *
    have h' := of_decide_eq_true hN
    apply decide_eq_true
    rw [K9, a3, a4, a7 10 (by decide)]
    exact ⟨h'.1, h'.2.1, h'.1, h'.2.1⟩
