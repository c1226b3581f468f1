/-! what was read becomes the mountain: the reference -/
theorem MT_160 {T : Vw} {σ τ : St} (hw : wfT T) (h : ∀ q, q < 160 → τ.1 6 q = σ.1 6 q) (hx : MT T σ) : MT T τ := by
  have h7 := hw.1
  have h6 := hw.2.1
  obtain ⟨a0, a1, a2, a3, a4, a5, a6, a7, a8⟩ := hx
  refine ⟨(h 0 (by omega)).trans a0, (h 1 (by omega)).trans a1, (h 2 (by omega)).trans a2, (h 3 (by omega)).trans a3, (h 4 (by omega)).trans a4, (h 5 (by omega)).trans a5, fun s hs => ⟨(h _ (by omega)).trans (a6 s hs).1, (h _ (by omega)).trans (a6 s hs).2⟩, fun q hq => ⟨(h _ (by omega)).trans (a7 q hq).1, fun h0 => (h _ (by omega)).trans ((a7 q hq).2 h0)⟩, fun c hc => ⟨(h _ (by omega)).trans (a8 c hc).1, (h _ (by omega)).trans (a8 c hc).2.1, (h _ (by omega)).trans (a8 c hc).2.2.1, (h _ (by omega)).trans (a8 c hc).2.2.2⟩⟩
theorem eM_c98 {σ : St} {Q : Int32 × St → Prop} (hq : ∀ τ, (∀ q, q < 160 → τ.1 6 q = σ.1 6 (160 + q)) → (∀ i, i ≠ 6 → τ.1 i = σ.1 i) → τ.2 = σ.2 → wp (lp rM_mountain_129L fu (0, τ)) Q) : wp (lp rM_mountain_98L fu (0, σ)) Q := by
  refine wp_for (fun n a => ∃ (i : Nat) (τ : St), i + n = 160 ∧ a = (I i, τ) ∧ (∀ q, q < i → τ.1 6 q = σ.1 6 (160 + q)) ∧ (∀ q, 160 ≤ q → τ.1 6 q = σ.1 6 q) ∧ (∀ i, i ≠ 6 → τ.1 i = σ.1 i) ∧ τ.2 = σ.2) ?_ ?_ 160 fu _ ⟨0, σ, by omega, rfl, fun q h => absurd h (Nat.not_lt_zero _), fun _ _ => rfl, fun _ _ => rfl, rfl⟩ (by unfold fu; omega)
  · rintro n a k ⟨i, τ, hi, rfl, t1, t2, t3, t4⟩ hk
    show wp (rM_mountain_98 (fun v1 σ => k (v1, σ)) (I i) τ) _
    unfold rM_mountain_98
    have e : (160 : Int32) + I i = I (160 + i) := by rw [litN, I_add]
    rw [brc_f (show ¬ (160 : Int32) ≤ I i by rw [litN, I_le (by omega) (by omega)]; omega), e, chk_t (ib_I (by omega) (by omega)), chk_t (ib_I (by omega) (by omega)), nmE, nmE, oi1, I_add, I_cl (by omega), I_cl (by omega)]
    refine hk _ ⟨i + 1, _, by omega, rfl, fun q hq => ?_, fun q hq => ?_, fun j hj => ?_, t4⟩
    · by_cases e : q = i
      · rw [e, gI_same]; exact t2 _ (by omega)
      · rw [gI_ne2 _ _ _ e]; exact t1 q (by omega)
    · rw [gI_ne2 _ _ _ (by omega)]; exact t2 q hq
    · rw [gI_ne1 _ _ _ hj]; exact t3 j hj
  · rintro a k ⟨i, τ, hi, rfl, t1, t2, t3, t4⟩
    show wp (rM_mountain_98 (fun v1 σ => k (v1, σ)) (I i) τ) _
    unfold rM_mountain_98
    rw [brc_t (show (160 : Int32) ≤ I i by rw [litN, I_le (by omega) (by omega)]; omega), nmE]
    exact hq τ (fun q h => t1 q (by omega)) t3 t4
theorem eM_c129 {σ : St} {c : Nat} (hc : c ≤ 1000) (h14 : σ.1 0 14 = I c) {Q : Int32 × St → Prop} (hq : ∀ τ, (∀ q, q < c → τ.1 8 q = σ.1 8 (1100 + q) ∧ τ.1 9 q = σ.1 9 (1100 + q)) → (∀ i, i ≠ 8 → i ≠ 9 → τ.1 i = σ.1 i) → τ.2 = σ.2 → wp (lp rM_mountain_177L fu (0, τ)) Q) : wp (lp rM_mountain_129L fu (0, σ)) Q := by
  refine wp_for (fun n a => ∃ (i : Nat) (τ : St), i + n = c ∧ a = (I i, τ) ∧ (∀ q, q < i → τ.1 8 q = σ.1 8 (1100 + q) ∧ τ.1 9 q = σ.1 9 (1100 + q)) ∧ (∀ q, 1100 ≤ q → τ.1 8 q = σ.1 8 q ∧ τ.1 9 q = σ.1 9 q) ∧ (∀ i, i ≠ 8 → i ≠ 9 → τ.1 i = σ.1 i) ∧ τ.2 = σ.2) ?_ ?_ c fu _ ⟨0, σ, by omega, rfl, fun q h => absurd h (Nat.not_lt_zero _), fun _ _ => ⟨rfl, rfl⟩, fun _ _ _ => rfl, rfl⟩ (by unfold fu; omega)
  · rintro n a k ⟨i, τ, hi, rfl, t1, t2, t3, t4⟩ hk
    show wp (rM_mountain_129 (fun v1 σ => k (v1, σ)) (I i) τ) _
    unfold rM_mountain_129
    have e : (1100 : Int32) + I i = I (1100 + i) := by rw [litN, I_add]
    rw [brc_f (show ¬ τ.1 0 14 ≤ I i by rw [t3 0 (by decide) (by decide), h14, I_le (by omega) (by omega)]; omega), e, chk_t (ib_I (by omega) (by omega)), chk_t (ib_I (by omega) (by omega)), nmE, chk_t (ib_I (by omega) (by omega)), chk_t (ib_I (by omega) (by omega)), nmE, nmE, oi1, I_add, I_cl (by omega), I_cl (by omega)]
    refine hk _ ⟨i + 1, _, by omega, rfl, fun q hq => ?_, fun q hq => ?_, fun j h1 h2 => ?_, t4⟩
    · by_cases e : q = i
      · rw [e, gI_ne1 _ _ _ (by decide), gI_same, gI_same, gI_ne1 _ _ _ (by decide)]
        exact t2 _ (by omega)
      · rw [gI_ne1 _ _ _ (by decide), gI_ne2 _ _ _ e, gI_ne2 _ _ _ e, gI_ne1 _ _ _ (by decide)]
        exact t1 q (by omega)
    · rw [gI_ne1 _ _ _ (by decide), gI_ne2 _ _ _ (by omega), gI_ne2 _ _ _ (by omega), gI_ne1 _ _ _ (by decide)]
      exact t2 q hq
    · rw [gI_ne1 _ _ _ h2, gI_ne1 _ _ _ h1]; exact t3 j h1 h2
  · rintro a k ⟨i, τ, hi, rfl, t1, t2, t3, t4⟩
    show wp (rM_mountain_129 (fun v1 σ => k (v1, σ)) (I i) τ) _
    unfold rM_mountain_129
    rw [brc_t (show τ.1 0 14 ≤ I i by rw [t3 0 (by decide) (by decide), h14, I_le (by omega) (by omega)]; omega), nmE]
    exact hq τ (fun q h => t1 q (by omega)) t3 t4
theorem eM_c177 {σ : St} {O : Nat → Nat} (hO : ∀ q, q < 36 → σ.1 7 q = I (O q)) {Q : Int32 × St → Prop} (hq : ∀ τ, (∀ q, q < 240 → τ.1 16 q = if q < 36 then I (O q) else I 0) → (∀ i, i ≠ 16 → τ.1 i = σ.1 i) → τ.2 = σ.2 → wp (bnd1 (rM_rests τ) fun σ_13 => nm (setI σ_13 0 25 (0 : Int32)) fun σ_15 => nm (0 : Int32) fun v1_16 => lp (rM_mountain_223L) fu (v1_16, σ_15)) Q) : wp (lp rM_mountain_177L fu (0, σ)) Q := by
  refine wp_for (fun n a => ∃ (i : Nat) (τ : St), i + n = 240 ∧ a = (I i, τ) ∧ (∀ q, q < i → τ.1 16 q = if q < 36 then I (O q) else I 0) ∧ (∀ i, i ≠ 16 → τ.1 i = σ.1 i) ∧ τ.2 = σ.2) ?_ ?_ 240 fu _ ⟨0, σ, by omega, rfl, fun q h => absurd h (Nat.not_lt_zero _), fun _ _ => rfl, rfl⟩ (by unfold fu; omega)
  · rintro n a k ⟨i, τ, hi, rfl, t1, t2, t3⟩ hk
    have h205 : ∀ v : Int32, v = (if i < 36 then I (O i) else I 0) → wp (rM_mountain_205 (fun v1 σ => k (v1, σ)) (I i) v (I i) τ) Q := by
      intro v hv
      unfold rM_mountain_205
      rw [chk_t (ib_I (by omega) (by omega)), nmE, nmE, oi1, I_add, I_cl (by omega)]
      refine hk _ ⟨i + 1, _, by omega, rfl, fun q hq => ?_, fun j hj => ?_, t3⟩
      · by_cases e : q = i
        · rw [e, gI_same]; exact hv
        · rw [gI_ne2 _ _ _ e]; exact t1 q (by omega)
      · rw [gI_ne1 _ _ _ hj]; exact t2 j hj
    show wp (rM_mountain_177 (fun v1 σ => k (v1, σ)) (I i) τ) _
    unfold rM_mountain_177
    rw [brc_f (show ¬ (240 : Int32) ≤ I i by rw [litN, I_le (by omega) (by omega)]; omega)]
    by_cases h36 : i < 36
    · rw [brc_f (show ¬ (36 : Int32) ≤ I i by rw [litN, I_le (by omega) (by omega)]; omega), chk_t (ib_I (by omega) (by omega)), I_cl (by omega)]
      exact h205 _ (by rw [if_pos h36, t2 7 (by decide)]; exact hO i h36)
    · rw [brc_t (show (36 : Int32) ≤ I i by rw [litN, I_le (by omega) (by omega)]; omega)]
      exact h205 _ (by rw [if_neg h36]; rfl)
  · rintro a k ⟨i, τ, hi, rfl, t1, t2, t3⟩
    show wp (rM_mountain_177 (fun v1 σ => k (v1, σ)) (I i) τ) _
    unfold rM_mountain_177
    rw [brc_t (show (240 : Int32) ≤ I i by rw [litN, I_le (by omega) (by omega)]; omega)]
    exact hq τ (fun q h => t1 q (by omega)) t2 t3
theorem eM_c223 {T : Vw} {σ : St} (hw : wfT T) (h37 : R00 T 0 0 ≤ 37) (hT : MT T σ) : wp (lp rM_mountain_223L fu (0, σ)) (fun r => r.1 = 0 ∧ MR (R00 T) r.2 ∧ (∀ j, j < 4 → r.2.1 17 j = I 0) ∧ (∀ i, i ≠ 0 → i ≠ 17 → i ≠ 18 → i ≠ 19 → r.2.1 i = σ.1 i) ∧ (∀ j, j ≠ 27 → r.2.1 0 j = σ.1 0 j) ∧ r.2.2 = σ.2) := by
  refine wp_for (fun n a => ∃ (i : Nat) (τ : St), i + n = 4 ∧ a = (I i, τ) ∧ (∀ j, j < i → τ.1 17 j = I 0) ∧ (∀ i, i ≠ 17 → τ.1 i = σ.1 i) ∧ τ.2 = σ.2) ?_ ?_ 4 fu _ ⟨0, σ, by omega, rfl, fun j hj => absurd hj (Nat.not_lt_zero _), fun _ _ => rfl, rfl⟩ (by unfold fu; omega)
  · rintro n a k ⟨i, τ, hi, rfl, t1, t2, t3⟩ hk
    show wp (rM_mountain_223 (fun v2 σ => k (v2, σ)) (I i) τ) _
    unfold rM_mountain_223
    rw [brc_f (show ¬ (4 : Int32) ≤ I i by rw [litN, I_le (by omega) (by omega)]; omega), chk_t (ib_I (by omega) (by omega)), nmE, nmE, oi1, I_add, I_cl (by omega)]
    refine hk _ ⟨i + 1, _, by omega, rfl, fun j hj => ?_, fun j hj => ?_, t3⟩
    · by_cases e : j = i
      · rw [e, gI_same]; rfl
      · rw [gI_ne2 _ _ _ e]; exact t1 j (by omega)
    · rw [gI_ne1 _ _ _ hj]; exact t2 j hj
  · rintro a k ⟨i, τ, hi, rfl, t1, t2, t3⟩
    show wp (rM_mountain_223 (fun v2 σ => k (v2, σ)) (I i) τ) _
    unfold rM_mountain_223
    rw [brc_t (show (4 : Int32) ≤ I i by rw [litN, I_le (by omega) (by omega)]; omega)]
    refine wp_bnd1 (wp_mono (eM_findPaths hw h37 (MT_fr (t2 6 (by decide)) hT)) ?_)
    rintro υ ⟨a1, a2⟩
    refine wp_some ⟨rfl, a1, fun j hj => ?_, fun j h0 h1 h2 h3 => ?_, fun j hj => ?_, ?_⟩
    · rw [a2.1 17 (by decide) (by decide)]; exact t1 j (by omega)
    · rw [a2.1 j (by simp; omega) h0]; exact t2 j h1
    · rw [a2.2.1 j (by simp; omega), t2 0 (by decide)]
    · rw [a2.2.2, t3]
theorem ML_of {b c : Nat} {σ τ : St} (hc : c ≤ 1000) (h : ∀ q, q < c → τ.1 8 q = σ.1 8 (1100 + q) ∧ τ.1 9 q = σ.1 9 (1100 + q)) : ∀ (L : List Nat) (a : Nat), a + L.length < c → EM b σ (1100 + a) L → σ.1 8 (1100 + a + L.length) = 0 → ML b τ a L
  | [], a, hl, _, h8 => by
    have hl' : a + 0 < c := hl
    refine ⟨?_, by omega⟩
    rw [(h a (by omega)).1]
    exact h8
  | x :: L, a, hl, hE, h8 => by
    have hl' : a + (L.length + 1) < c := hl
    have h8' : σ.1 8 (1100 + a + (L.length + 1)) = 0 := h8
    refine ⟨by omega, (h a (by omega)).1.trans hE.1, fun hx => (h a (by omega)).2.trans (hE.2.1 hx), ML_of hc h L (a + 1) (by omega) ?_ ?_⟩
    · rw [← Nat.add_assoc]; exact hE.2.2
    · rw [show 1100 + (a + 1) + L.length = 1100 + a + (L.length + 1) by omega]; exact h8'
theorem m_good {n : Nat} {tp : Nat → Nat} {N k c : Nat} {T : Vw} {O : Nat → Nat} {m : Nat} {np idn : Nat → Nat} {o : Nat} {LD LP : List Nat} {σ : St} {tp' : Nat → Nat} (hw : wfT T) (h37 : R00 T 0 0 ≤ 37) (hc : c ≤ 1000) (y : SyM n tp N k c T O m np idn o LD LP σ) (h2 : σ.1 0 2 = I 0) : wp (rM_mountain_84 σ) (fun r => r.1 = 0 ∧ GM T (R00 T) (bgD T O) zV zV 0 tp' LD LP r.2) := by
  obtain ⟨y1, y2, y3, y4, y5, y6, y7, y8, y9, y10, y11⟩ := y
  have h5 := y1.2.2.2.2
  unfold rM_mountain_84
  rw [brc_t (F_0 y1).2, nmE]
  refine eM_c98 (fun s1 a1 a2 a3 => ?_)
  refine eM_c129 hc (by rw [a2 0 (by decide)]; exact y8) (fun s2 b1 b2 b3 => ?_)
  refine eM_c177 (O := O) (fun q hq => by rw [b2 7 (by decide) (by decide), a2 7 (by decide)]; exact y3 q hq) (fun s3 c1 c2 c3 => ?_)
  have hT3 : MT T s3 := MT_160 (σ := dsm σ) hw (fun q hq => by rw [c2 6 (by decide), b2 6 (by decide) (by decide), a1 q hq]; rfl) y2
  obtain ⟨s4, e4, d38, d39, d40, d41, d42, d43, dq, di, d2⟩ := eM_rests hw hT3
  rw [e4, bnd1S, nmE, nmE]
  have hT5 : MT T (setI s4 0 25 0) := MT_fr (by rw [gI_ne1 _ _ _ (by decide), di 6 (by decide)]) hT3
  refine wp_mono (eM_c223 hw h37 hT5) ?_
  rintro ⟨r, τ⟩ ⟨f1, f2, f3, f4, f5, f6⟩
  have f4' : ∀ i, i ≠ 0 → i ≠ 17 → i ≠ 18 → i ≠ 19 → τ.1 i = s4.1 i := fun i h0 h1 h2 h3 => by
    have := f4 i h0 h1 h2 h3
    rw [gI_ne1 _ _ _ h0] at this
    exact this
  have f6' : τ.2 = σ.2 := by
    have : τ.2 = s4.2 := f6
    rw [this, d2, c3, b3, a3]
  have f0 : ∀ j, j ≠ 25 → j ≠ 27 → τ.1 0 j = σ.1 0 j := fun j h25 h27 => by
    have := f5 j h27
    rw [gI_ne2 _ _ _ h25, di 0 (by decide), c2 0 (by decide), b2 0 (by decide) (by decide), a2 0 (by decide)] at this
    exact this
  have f16 : τ.1 16 = s4.1 16 := f4' 16 (by decide) (by decide) (by decide) (by decide)
  have f66 : τ.1 6 = s1.1 6 := by rw [f4' 6 (by decide) (by decide) (by decide) (by decide), di 6 (by decide), c2 6 (by decide), b2 6 (by decide) (by decide)]
  have f8 : τ.1 8 = s2.1 8 := by rw [f4' 8 (by decide) (by decide) (by decide) (by decide), di 8 (by decide), c2 8 (by decide)]
  have f9 : τ.1 9 = s2.1 9 := by rw [f4' 9 (by decide) (by decide) (by decide) (by decide), di 9 (by decide), c2 9 (by decide)]
  have b1' : ∀ q, q < c → τ.1 8 q = σ.1 8 (1100 + q) ∧ τ.1 9 q = σ.1 9 (1100 + q) := fun q hq => by
    rw [f8, f9, ← a2 8 (by decide), ← a2 9 (by decide)]
    exact b1 q hq
  have e6 : τ.1 6 6 = σ.1 6 166 := by rw [f66]; exact a1 6 (by omega)
  have e7 : τ.1 6 7 = σ.1 6 167 := by rw [f66]; exact a1 7 (by omega)
  refine ⟨f1, MT_fr (by rw [f66, c2 6 (by decide), b2 6 (by decide) (by decide)]) hT3, ?_, f2, fun j hj => ⟨f3 j hj, fun h => absurd h (show ¬ (0 : Nat) = 1 by decide)⟩, ⟨?_, fun k hk => absurd hk (Nat.not_lt_zero _)⟩, ⟨?_, fun i hi => absurd hi (Nat.not_lt_zero _)⟩, ⟨?_, ?_⟩, ⟨?_, ?_, ?_⟩⟩
  · unfold MD
    simp only [Nat.zero_add]
    rw [f16]
    refine ⟨fun q hq => ?_, ?_, d41, ?_, d38, d40, d39, d42, fun i hi => absurd hi (Nat.not_lt_zero _), d43, fun c hc => ?_⟩
    · rw [dq q (by omega), c1 q (by omega), if_pos hq]; rfl
    · rw [dq 36 (by omega), c1 36 (by omega)]; rfl
    · rw [dq 37 (by omega), c1 37 (by omega)]; rfl
    · rw [dq _ (by omega), c1 _ (by omega), if_neg (by omega)]; rfl
  · show τ.1 0 25 = I 0
    rw [show τ.1 0 25 = (setI s4 0 25 0).1 0 25 from f5 25 (by decide), gI_same]
    rfl
  · show τ.1 0 2 = I 0
    rw [f0 2 (by decide) (by decide)]; exact h2
  · by_cases hb : o % 2 = 0
    · obtain ⟨p1, p2⟩ := y6.1 hb
      exact Or.inl ⟨e6.trans p1, p2⟩
    · obtain ⟨a, p1, p2, p3, p4⟩ := y6.2 hb
      exact Or.inr ⟨a, by omega, e6.trans p1, ML_of hc b1' LD a p2 p3 p4⟩
  · by_cases hb : o / 2 % 2 = 0
    · obtain ⟨p1, p2⟩ := y7.1 hb
      exact Or.inl ⟨e7.trans p1, p2⟩
    · obtain ⟨a, p1, p2, p3, p4⟩ := y7.2 hb
      exact Or.inr ⟨a, by omega, e7.trans p1, ML_of hc b1' LP a p2 p3 p4⟩
  · show τ.1 12 = _
    rw [f4' 12 (by decide) (by decide) (by decide) (by decide), di 12 (by decide), c2 12 (by decide), b2 12 (by decide) (by decide), a2 12 (by decide)]; exact y10
  · show τ.1 13 = _
    rw [f4' 13 (by decide) (by decide) (by decide) (by decide), di 13 (by decide), c2 13 (by decide), b2 13 (by decide) (by decide), a2 13 (by decide)]; exact y11
  · show τ.2.1 5 = _
    rw [f6']; exact h5
