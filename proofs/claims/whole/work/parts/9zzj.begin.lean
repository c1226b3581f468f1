/-! both begin to read -/
theorem eX_clear (σ : St) : ∃ τ, rX_clear σ = some τ ∧ XDr T00 τ ∧ XO (fun _ => 0) τ ∧ τ.2.2.1 10 12 = 0 ∧ τ.2.2.1 10 13 = 1 ∧ (∀ i, i ≠ 10 → i ≠ 13 → i ≠ 19 → τ.1 i = σ.1 i) ∧ τ.2.1 = σ.2.1 ∧ (∀ i, i ≠ 10 → τ.2.2.1 i = σ.2.2.1 i) ∧ τ.2.2.2 = σ.2.2.2 := by
  unfold rX_clear
  rw [nmE, nmE, nmE, eX_fill_minutes, bnd1_e, eX_fill_ddebts, bnd1_e, nmE, nmE, nmE, nmE, nmE]
  refine ⟨_, rfl, ⟨rfl, rfl, rfl, rfl, rfl, rfl, fun s hs => absurd hs (Nat.not_lt_zero _), fun q hq => ⟨?_, fun h => absurd h (Nat.not_lt_zero _)⟩, fun c hc => absurd hc (Nat.not_lt_zero _)⟩, fun q hq => ?_, rfl, rfl, fun i h1 h2 h3 => ?_, rfl, fun i hi => funext fun q => ?_, rfl⟩
  · show (if q < 49 then (0 : Int32) else _) = I 0
    rw [if_pos hq]
    rfl
  · show (if q < 36 then (0 : Int32) else _) = I 0
    rw [if_pos hq]
    rfl
  · rw [gI_ne1 _ _ _ h1, gI_ne1 _ _ _ h1, gI_ne1 _ _ _ h1]
    show (setR (setR (setI (setI (setI σ 10 0 0) 10 1 0) 10 2 0) 13 _) 19 _).1 i = _
    rw [setR_ne _ _ h3, setR_ne _ _ h2, gI_ne1 _ _ _ h1, gI_ne1 _ _ _ h1, gI_ne1 _ _ _ h1]
  · show (if i = 10 ∧ q = 13 then 1 else (if i = 10 ∧ q = 12 then 0 else σ.2.2.1 i q)) = _
    rw [if_neg (fun h => hi h.1), if_neg (fun h => hi h.1)]
theorem eX_readBegin {n : Nat} {tp : Nat → Nat} (hw : wfP n tp) {σ : St} (hx : XP n tp σ) (hN : XN σ) (hb : Nat) (np idn : Nat → Nat) : ∃ σ5, raX σ σ5 ∧ SyX n tp (Kn σ) 0 T00 (fun _ => 0) 0 np idn 0 [10000] [1] σ5 ∧ rX_readAll hb (Kn σ) 2 2000 σ = lp (rX_readAll_26L hb (Kn σ) 2 2000) fu (I 0, σ5) := by
  obtain ⟨τ, e, c1, c2, c3, c4, c5, c6, c7, c8⟩ := eX_clear σ
  have hx1 : XP n tp (setI (setI (setI τ 7 4 0) 7 5 0) 5 1 0) := by
    refine ⟨?_, fun i hi => ?_⟩
    · rw [gI_ne2 _ _ _ (by decide), gI_ne1 _ _ _ (by decide), gI_ne1 _ _ _ (by decide), c5 5 (by decide) (by decide) (by decide)]; exact hx.1
    · rw [gI_ne1 _ _ _ (by decide), gI_ne1 _ _ _ (by decide), gI_ne1 _ _ _ (by decide), c5 6 (by decide) (by decide) (by decide)]; exact hx.2 i hi
  have g : ∀ i, i ≠ 5 → i ≠ 7 → (setI (setI (setI τ 7 4 0) 7 5 0) 5 1 0).1 i = τ.1 i := fun i h1 h2 => by rw [gI_ne1 _ _ _ h1, gI_ne1 _ _ _ h2, gI_ne1 _ _ _ h2]
  have g5 : ∀ j, j ≠ 1 → (setI (setI (setI τ 7 4 0) 7 5 0) 5 1 0).1 5 j = τ.1 5 j := fun j h1 => by rw [gI_ne2 _ _ _ h1, gI_ne1 _ _ _ (by decide), gI_ne1 _ _ _ (by decide)]
  have g7 : (setI (setI (setI τ 7 4 0) 7 5 0) 5 1 0).1 7 5 = I 0 := by rw [gI_ne1 _ _ _ (by decide), gI_same]; rfl
  have g51 : (setI (setI (setI τ 7 4 0) 7 5 0) 5 1 0).1 5 1 = I 0 := by rw [gI_same]; rfl
  have g2 : (setI (setI (setI τ 7 4 0) 7 5 0) 5 1 0).2 = τ.2 := rfl
  have eAll : rX_readAll hb (Kn σ) 2 2000 σ = bnd1 (bnd1 (rX_tstep (setI (setI (setI τ 7 4 0) 7 5 0) 5 1 0)) fun σ_2 => some σ_2) fun σ_5 => chk (decide (Kn σ_5 = Kn (setI (setI τ 7 4 0) 7 5 0) ∧ Kn (setI (setI τ 7 4 0) 7 5 0) - Kn σ ≤ 2 ∧ 1000 * (Kn (setI (setI τ 7 4 0) 7 5 0) - Kn σ) ≤ 2000)) (nm (0 : Int32) fun v1_7 => lp (rX_readAll_26L hb (Kn σ) 2 2000) fu (v1_7, σ_5)) := by
    unfold rX_readAll rX_ttoStart
    rw [e, bnd1S, chk_t (decide_eq_true ⟨Kn_eq c8, by omega, by omega⟩), nmE, nmE, nmE]
  generalize setI (setI (setI τ 7 4 0) 7 5 0) 5 1 0 = υ at hx1 g g5 g7 g51 g2 eAll
  obtain ⟨σ5, e5, t5, f5⟩ := eX_tstep hw hx1 (Nat.zero_le n) g51
  have K5 : σ5.2.2.2 = σ.2.2.2 := by rw [f5.2.2.2.2, g2, c8]
  have P5 : ∀ i, i ≠ 5 → σ5.2.2.1 i = τ.2.2.1 i := fun i hi => by rw [f5.2.2.2.1 i hi, g2]
  have hN5 : XN σ5 := by
    unfold XN Pok at *
    have h' := of_decide_eq_true hN
    apply decide_eq_true
    rw [Kn_eq K5, P5 10 (by decide), P5 23 (by decide), c3, c4, c7 23 (by decide)]
    exact ⟨by omega, by omega, h'.2.2.1, h'.2.2.2⟩
  have I5 : ∀ i, i ≠ 5 → i ≠ 7 → σ5.1 i = τ.1 i := fun i h1 h2 => by rw [f5.1 i h1, g i h1 h2]
  refine ⟨σ5, ⟨fun i h1 h2 => ?_, fun j h1 h2 h3 => ?_, fun i h1 _ _ => ?_, fun i h1 h2 => ?_, ⟨[], by rw [List.append_nil]; exact K5⟩, fun _ => hN5⟩, ⟨⟨?_, t5⟩, XDr_fr (fun i h1 h2 => I5 i (by omega) (by omega)) c1, fun q hq => by rw [I5 19 (by decide) (by decide)]; exact c2 q hq, fun q hq => absurd hq (Nat.not_lt_zero _), by rw [f5.1 7 (by decide)]; exact g7, ⟨?_, ?_, ?_, ?_⟩, by rw [Kn_eq K5]; omega, hN5⟩, ?_⟩
  · rw [I5 i h1 (by omega), c5 i (by omega) (by omega) (by omega)]
  · rw [f5.2.1 j h1 h2 h3, g5 j h1, c5 5 (by decide) (by decide) (by decide)]
  · rw [f5.2.2.1 i h1, g2, c6]
  · rw [P5 i h1, c7 i h2]
  · exact ⟨by rw [f5.2.1 2 (by decide) (by decide) (by decide)]; exact hx1.1, fun i hi => by rw [f5.1 6 (by decide)]; exact hx1.2 i hi⟩
  · rw [P5 10 (by decide), c3]; unfold lawok; exact decide_eq_true (by omega)
  · rw [P5 10 (by decide), c3]; rfl
  · rw [P5 10 (by decide), c4]; unfold lawok; exact decide_eq_true (by omega)
  · rw [P5 10 (by decide), c4]; rfl
  · rw [eAll, e5, bnd1S, bnd1S]
    have k1 : Kn (setI (setI τ 7 4 0) 7 5 0) = Kn σ := Kn_eq c8
    rw [k1, chk_t (decide_eq_true ⟨Kn_eq K5, by omega, by omega⟩), nmE]
    rfl
/-- the reference -/
def beM (σ τ : St) : Prop := (∀ i, i ≠ 0 → i ≠ 2 → i ≠ 3 → i ≠ 6 → i ≠ 7 → τ.1 i = σ.1 i) ∧ (∀ q, q < 160 → τ.1 6 q = σ.1 6 q) ∧ (∀ j, j ≠ 0 → j ≠ 2 → j ≠ 3 → j ≠ 7 → j ≠ 8 → j ≠ 14 → j ≠ 17 → j ≠ 18 → τ.1 0 j = σ.1 0 j) ∧ (∀ i, i ≠ 4 → τ.2.1 i = σ.2.1 i) ∧ τ.2.2 = σ.2.2 ∧ τ.1 0 2 = I 0
theorem eM_owes0 (σ : St) : ∃ τ, (∀ q, q < 36 → τ.1 7 q = I 0) ∧ (∀ i, i ≠ 7 → τ.1 i = σ.1 i) ∧ τ.2 = σ.2 ∧ lp rM_mountain_33L fu (0, σ) = lp rM_mountain_52L fu τ := by
  have h : ∀ (d i f : Nat) (τ : St), i + d = 36 → d < f → (∀ q, q < i → τ.1 7 q = I 0) → (∀ i, i ≠ 7 → τ.1 i = σ.1 i) → τ.2 = σ.2 → ∃ υ, (∀ q, q < 36 → υ.1 7 q = I 0) ∧ (∀ i, i ≠ 7 → υ.1 i = σ.1 i) ∧ υ.2 = σ.2 ∧ lp rM_mountain_33L f (I i, τ) = lp rM_mountain_52L fu υ := by
    intro d
    induction d with
    | zero =>
      intro i f τ hi hf t1 t2 t3
      obtain ⟨g, rfl⟩ : ∃ g, f = g + 1 := ⟨f - 1, by omega⟩
      refine ⟨τ, fun q hq => t1 q (by omega), t2, t3, ?_⟩
      show rM_mountain_33 (fun v1 σ => lp rM_mountain_33L g (v1, σ)) (I i) τ = _
      unfold rM_mountain_33
      rw [brc_t (show (36 : Int32) ≤ I i by rw [litN, I_le (by omega) (by omega)]; omega)]
    | succ d ih =>
      intro i f τ hi hf t1 t2 t3
      obtain ⟨g, rfl⟩ : ∃ g, f = g + 1 := ⟨f - 1, by omega⟩
      obtain ⟨υ, u1, u2, u3, u4⟩ := ih (i + 1) g (setI τ 7 i 0) (by omega) (by omega) (fun q hq => by
        by_cases e : q = i
        · rw [e, gI_same]; rfl
        · rw [gI_ne2 _ _ _ e]; exact t1 q (by omega)) (fun j hj => by rw [gI_ne1 _ _ _ hj]; exact t2 j hj) t3
      refine ⟨υ, u1, u2, u3, ?_⟩
      show rM_mountain_33 (fun v1 σ => lp rM_mountain_33L g (v1, σ)) (I i) τ = _
      unfold rM_mountain_33
      rw [brc_f (show ¬ (36 : Int32) ≤ I i by rw [litN, I_le (by omega) (by omega)]; omega), chk_t (ib_I (by omega) (by omega)), nmE, nmE, oi1, I_add, I_cl (by omega)]
      exact u4
  exact h 36 0 fu σ (by omega) (by unfold fu; omega) (fun q hq => absurd hq (Nat.not_lt_zero _)) (fun _ _ => rfl) rfl
theorem eM_readBegin {n : Nat} {tp : Nat → Nat} (hw : wfP n tp) {σ : St} (hx : MP n tp σ) (hC : MC σ) (np idn : Nat → Nat) : ∃ N σ5, N ≤ 1000 ∧ beM σ σ5 ∧ SyM n tp N 0 0 T00 (fun _ => 0) 0 np idn 0 [10000] [1] σ5 ∧ rM_mountain σ = lp rM_mountain_52L fu σ5 := by
  have hx0 : MP n tp (setI σ 0 0 0) := ⟨by rw [gI_ne2 _ _ _ (by decide)]; exact hx.1, fun i hi => by rw [gI_ne1 _ _ _ (by decide)]; exact hx.2 i hi⟩
  obtain ⟨σ2, e2, ⟨N, hN⟩, a2, a3, a7, a8, f2⟩ := eM_cutAll hw hx0
  have g : ∀ i, i ≠ 0 → (setI (setI (setI σ2 0 14 0) 0 17 0) 0 18 0).1 i = σ2.1 i := fun i h1 => by rw [gI_ne1 _ _ _ h1, gI_ne1 _ _ _ h1, gI_ne1 _ _ _ h1]
  have g0 : ∀ j, j ≠ 14 → j ≠ 17 → j ≠ 18 → (setI (setI (setI σ2 0 14 0) 0 17 0) 0 18 0).1 0 j = σ2.1 0 j := fun j h1 h2 h3 => by rw [gI_ne2 _ _ _ h3, gI_ne2 _ _ _ h2, gI_ne2 _ _ _ h1]
  have g14 : (setI (setI (setI σ2 0 14 0) 0 17 0) 0 18 0).1 0 14 = I 0 := by rw [gI_ne2 _ _ _ (by decide), gI_ne2 _ _ _ (by decide), gI_same]; rfl
  have g17 : (setI (setI (setI σ2 0 14 0) 0 17 0) 0 18 0).1 0 17 = I 0 := by rw [gI_ne2 _ _ _ (by decide), gI_same]; rfl
  have g18 : (setI (setI (setI σ2 0 14 0) 0 17 0) 0 18 0).1 0 18 = I 0 := by rw [gI_same]; rfl
  have g2 : (setI (setI (setI σ2 0 14 0) 0 17 0) 0 18 0).2 = σ2.2 := rfl
  have eM : rM_mountain σ = bnd1 (rM_standsAsAlways (I 160) (setI (setI (setI σ2 0 14 0) 0 17 0) 0 18 0)) fun σ_7 => nm (0 : Int32) fun v1_9 => lp (rM_mountain_33L) fu (v1_9, σ_7) := by
    unfold rM_mountain
    rw [nmE, e2, bnd1S, nmE, nmE, nmE]
    rfl
  generalize setI (setI (setI σ2 0 14 0) 0 17 0) 0 18 0 = υ at g g0 g14 g17 g18 g2 eM
  obtain ⟨σ7, e7, b1, b2, b3, b4⟩ := eM_stands (a := 160) (by omega) υ
  obtain ⟨σ5, c1, c2, c3, c4⟩ := eM_owes0 σ7
  have k0 : ∀ i, i ≠ 7 → i ≠ 6 → σ5.1 i = υ.1 i := fun i h1 h2 => by rw [c2 i h1, b3 i h2]
  have k2 : σ5.2 = σ2.2 := by rw [c3, b4, g2]
  have hr : RM n tp N 0 0 σ5 := by
    refine ⟨⟨hN.1, ?_, hN.2.2.1, ?_, ?_⟩, Nat.zero_le _, ?_, ?_, ?_⟩
    · intro q hq
      have := hN.2.1 q hq
      rw [k2, k0 2 (by decide) (by decide), k0 3 (by decide) (by decide), g 2 (by decide), g 3 (by decide)]
      exact this
    · rw [k0 3 (by decide) (by decide), g 3 (by decide)]; exact hN.2.2.2.1
    · rw [k0 2 (by decide) (by decide), g 2 (by decide)]; exact hN.2.2.2.2
    · rw [k0 0 (by decide) (by decide), g0 7 (by decide) (by decide) (by decide)]; exact a7
    · rw [k0 0 (by decide) (by decide), g0 8 (by decide) (by decide) (by decide)]; exact a8
    · rw [k2, f2.2.2.1 5 (by decide)]; exact hC.2.2
  have h6 : ∀ k, k < 160 → σ5.1 6 (160 + k) = if k = 3 then 99 else if k = 4 then 60 else if k = 5 then 360 else if k = 6 ∨ k = 7 then -1 else 0 := fun k hk => by rw [c2 6 (by decide)]; exact b1 k hk
  refine ⟨N, σ5, hN.1, ⟨fun i h1 h2 h3 h4 h5 => ?_, fun q hq => ?_, fun j h1 h2 h3 h4 h5 h6 h7 h8 => ?_, fun i hi => ?_, ?_, ?_⟩, ⟨hr, ?_, fun q hq => c1 q hq, ⟨?_, fun q hq => absurd hq (Nat.not_lt_zero _)⟩, ?_, ⟨fun _ => ⟨?_, rfl⟩, fun h => absurd rfl h⟩, ⟨fun _ => ⟨?_, rfl⟩, fun h => absurd rfl h⟩, ?_, Nat.le_refl _, ?_, ?_⟩, ?_⟩
  · rw [k0 i h5 h4, g i h1, f2.1 i h1 h2 h3, gI_ne1 _ _ _ h1]
  · rw [c2 6 (by decide), b2 q (by omega), g 6 (by decide), f2.1 6 (by decide) (by decide) (by decide), gI_ne1 _ _ _ (by decide)]
  · rw [k0 0 (by decide) (by decide), g0 j h6 h7 h8, f2.2.1 j h2 h3 h4 h5, gI_ne2 _ _ _ h1]
  · rw [k2, f2.2.2.1 i hi]; rfl
  · rw [k2, f2.2.2.2]; rfl
  · rw [k0 0 (by decide) (by decide), g0 2 (by decide) (by decide) (by decide)]; exact a2
  · refine ⟨(h6 0 (by omega)).trans rfl, (h6 1 (by omega)).trans rfl, (h6 2 (by omega)).trans rfl, (h6 3 (by omega)).trans rfl, (h6 4 (by omega)).trans rfl, (h6 5 (by omega)).trans rfl, fun s hs => absurd hs (Nat.not_lt_zero _), fun q hq => ⟨?_, fun h => absurd h (Nat.not_lt_zero _)⟩, fun c hc => absurd hc (Nat.not_lt_zero _)⟩
    refine (h6 (22 + 2 * q) (by omega)).trans ?_
    rw [if_neg (by omega), if_neg (by omega), if_neg (by omega), if_neg (by omega)]
    rfl
  · rw [k0 0 (by decide) (by decide)]; exact g17
  · rw [k0 0 (by decide) (by decide)]; exact g18
  · exact (h6 6 (by omega)).trans rfl
  · exact (h6 7 (by omega)).trans rfl
  · rw [k0 0 (by decide) (by decide)]; exact g14
  · rw [k0 12 (by decide) (by decide), g 12 (by decide), f2.1 12 (by decide) (by decide) (by decide), gI_ne1 _ _ _ (by decide)]; exact hC.1
  · rw [k0 13 (by decide) (by decide), g 13 (by decide), f2.1 13 (by decide) (by decide) (by decide), gI_ne1 _ _ _ (by decide)]; exact hC.2.1
  · rw [eM, e7, bnd1S, nmE]
    exact c4
