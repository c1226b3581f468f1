/-! the first day; the start -/
theorem eM_stands {a : Nat} (ha : a ≤ 160) (σ : St) : ∃ τ, rM_standsAsAlways (I a) σ = some τ ∧ (∀ k, k < 160 → τ.1 6 (a + k) = if k = 3 then 99 else if k = 4 then 60 else if k = 5 then 360 else if k = 6 ∨ k = 7 then -1 else 0) ∧ (∀ q, ¬ (a ≤ q ∧ q < a + 160) → τ.1 6 q = σ.1 6 q) ∧ (∀ i, i ≠ 6 → τ.1 i = σ.1 i) ∧ τ.2 = σ.2 := by
  have goal : wp (rM_standsAsAlways (I a) σ) (fun τ => (∀ k, k < 160 → τ.1 6 (a + k) = if k = 3 then 99 else if k = 4 then 60 else if k = 5 then 360 else if k = 6 ∨ k = 7 then -1 else 0) ∧ (∀ q, ¬ (a ≤ q ∧ q < a + 160) → τ.1 6 q = σ.1 6 q) ∧ (∀ i, i ≠ 6 → τ.1 i = σ.1 i) ∧ τ.2 = σ.2) := by
    unfold rM_standsAsAlways
    rw [nmE]
    refine wp_for (fun n x => ∃ (i : Nat) (τ : St), i + n = 160 ∧ x = (I a, I i, τ) ∧ (∀ k, k < i → τ.1 6 (a + k) = 0) ∧ (∀ q, ¬ (a ≤ q ∧ q < a + 160) → τ.1 6 q = σ.1 6 q) ∧ (∀ i, i ≠ 6 → τ.1 i = σ.1 i) ∧ τ.2 = σ.2) ?_ ?_ 160 fu _ ⟨0, σ, by omega, rfl, fun k h => absurd h (Nat.not_lt_zero _), fun _ _ => rfl, fun _ _ => rfl, rfl⟩ (by unfold fu; omega)
    · rintro n x k ⟨i, τ, hi, rfl, t1, t2, t3, t4⟩ hk
      show wp (rM_standsAsAlways_2 (fun v1 v2 σ => k (v1, v2, σ)) (I a) (I i) τ) _
      unfold rM_standsAsAlways_2
      rw [brc_f (show ¬ (160 : Int32) ≤ I i by rw [litN, I_le (by omega) (by omega)]; omega), I_add, chk_t (ib_I (by omega) (by omega)), nmE, nmE, oi1, I_add, I_cl (by omega)]
      refine hk _ ⟨i + 1, _, by omega, rfl, fun q hq => ?_, fun q hq => ?_, fun j hj => ?_, t4⟩
      · by_cases e : q = i
        · rw [e, gI_same]
        · rw [gI_ne2 _ _ _ (by omega)]; exact t1 q (by omega)
      · rw [gI_ne2 _ _ _ (by omega)]; exact t2 q hq
      · rw [gI_ne1 _ _ _ hj]; exact t3 j hj
    · rintro x k ⟨i, τ, hi, rfl, t1, t2, t3, t4⟩
      show wp (rM_standsAsAlways_2 (fun v1 v2 σ => k (v1, v2, σ)) (I a) (I i) τ) _
      unfold rM_standsAsAlways_2
      rw [brc_t (show (160 : Int32) ≤ I i by rw [litN, I_le (by omega) (by omega)]; omega)]
      simp only [litN, I_add]
      rw [chk_t (ib_I (by omega) (by omega)), nmE, chk_t (ib_I (by omega) (by omega)), nmE, chk_t (ib_I (by omega) (by omega)), nmE, chk_t (ib_I (by omega) (by omega)), nmE, chk_t (ib_I (by omega) (by omega)), nmE, I_cl (by omega), I_cl (by omega), I_cl (by omega), I_cl (by omega), I_cl (by omega)]
      refine wp_some ⟨fun q hq => ?_, fun q hq => ?_, fun j hj => ?_, t4⟩
      · by_cases e3 : q = 3
        · rw [if_pos e3, e3, gI_ne2 _ _ _ (by omega), gI_ne2 _ _ _ (by omega), gI_ne2 _ _ _ (by omega), gI_ne2 _ _ _ (by omega), gI_same]
        · rw [if_neg e3]
          by_cases e4 : q = 4
          · rw [if_pos e4, e4, gI_ne2 _ _ _ (by omega), gI_ne2 _ _ _ (by omega), gI_ne2 _ _ _ (by omega), gI_same]
          · rw [if_neg e4]
            by_cases e5 : q = 5
            · rw [if_pos e5, e5, gI_ne2 _ _ _ (by omega), gI_ne2 _ _ _ (by omega), gI_same]
            · rw [if_neg e5]
              by_cases e6 : q = 6
              · rw [if_pos (Or.inl e6), e6, gI_ne2 _ _ _ (by omega), gI_same]
              · by_cases e7 : q = 7
                · rw [if_pos (Or.inr e7), e7, show a + 7 = a + 6 + 1 by omega, gI_same]
                · rw [if_neg (by omega), gI_ne2 _ _ _ (by omega), gI_ne2 _ _ _ (by omega), gI_ne2 _ _ _ (by omega), gI_ne2 _ _ _ (by omega), gI_ne2 _ _ _ (by omega)]
                  exact t1 q (by omega)
      · rw [gI_ne2 _ _ _ (by omega), gI_ne2 _ _ _ (by omega), gI_ne2 _ _ _ (by omega), gI_ne2 _ _ _ (by omega), gI_ne2 _ _ _ (by omega)]
        exact t2 q hq
      · rw [gI_ne1 _ _ _ hj, gI_ne1 _ _ _ hj, gI_ne1 _ _ _ hj, gI_ne1 _ _ _ hj, gI_ne1 _ _ _ hj]
        exact t3 j hj
  exact goal
/-- the first day on a mountain -/
def bgD (T : Vw) (d : Nat → Nat) : Vw := fun a b => if a = 0 then d b else if a = 3 then T 2 b else if a = 4 ∧ b = 0 then T 0 4 else 0
theorem bgD_wf {T : Vw} (hw : wfT T) (d : Nat → Nat) : wfD (T 0 0) (bgD T d) :=
  ⟨(by decide : 0 < 64), (by decide : 0 < 64), (by decide : 0 < 2147483648), (by decide : 0 ≤ 60), hw.2.2.2.1, fun s hs => (hw.2.2.2.2.2.1 s hs).2⟩
theorem eX_begin {T : Vw} {d : Nat → Nat} {σ : St} (hw : wfT T) (hT : XMt T σ) (hd : ∀ q, q < 36 → σ.1 32 q = I (d q)) : ∃ τ, rX_begin σ = some τ ∧ XD 33 (T 0 0) (bgD T d) τ ∧ (∀ i, ¬ (33 ≤ i ∧ i ≤ 38) → τ.1 i = σ.1 i) ∧ (∀ i, i ≠ 33 → τ.2.1 i = σ.2.1 i) ∧ τ.2.2 = σ.2.2 := by
  obtain ⟨τ, e1, x0, x1, x2, x4, x35, x34, fx⟩ := eX_dawn hw hT
  unfold rX_begin
  rw [e1, bnd1_e, nmE, eX_fill_paid, bnd1_e, eX_fill_patches, bnd1_e, chk_t (by decide), nmE]
  generalize hσ1 : setR (setR (setJ τ 33 3 0) 36 _) 37 _ = σ1
  have k : ∀ i, i ≠ 36 → i ≠ 37 → σ1.1 i = τ.1 i := fun i h1 h2 => by rw [← hσ1, setR_ne _ _ h2, setR_ne _ _ h1, gJ_1]
  have k2 : σ1.2 = (setJ τ 33 3 0).2 := by rw [← hσ1]; rfl
  refine ⟨_, rfl, ⟨fun q hq => ?_, fun c hc => ?_, fun c hc => ?_, ?_, ?_, ?_, ?_, ?_, fun i hi => absurd hi (Nat.not_lt_zero _), fun s hs => ?_, fun c hc => ?_⟩, fun i hi => ?_, fun i hi => ?_, ?_⟩
  · rw [setR_same, show (0 : Int32).toNatClampNeg = 0 from rfl, show (nI 36).toNatClampNeg = 36 from rfl, cpy_at (by omega) (by omega), k 32 (by decide) (by decide), fx.1 32 (by decide) (by decide), show 0 + (q - 0) = q by omega]
    exact hd q hq
  · rw [setR_ne _ _ (by decide), show bgD T d 4 5 = 0 from rfl, Nat.zero_div, Nat.zero_mod, ← hσ1, setR_same]
    exact if_pos hc
  · rw [setR_ne _ _ (by decide), show bgD T d 4 6 = 0 from rfl, Nat.zero_div, Nat.zero_mod, k 35 (by decide) (by decide)]
    exact x35 c hc
  · show (setR σ1 38 _).2.1 33 3 = _
    show σ1.2.1 33 3 = _
    rw [k2, gJ_same]; rfl
  · rw [setR_ne _ _ (by decide), k 33 (by decide) (by decide)]; exact x0
  · rw [setR_ne _ _ (by decide), k 33 (by decide) (by decide)]; exact x1
  · rw [setR_ne _ _ (by decide), k 33 (by decide) (by decide)]; exact x2
  · rw [setR_ne _ _ (by decide), k 33 (by decide) (by decide)]; exact x4
  · rw [setR_ne _ _ (by decide), k 34 (by decide) (by decide)]; exact x34 s hs
  · rw [setR_ne _ _ (by decide), ← hσ1, setR_ne _ _ (by decide), setR_same]
    show (if c < 6 then (0 : Int32) else _) = I 0
    rw [if_pos hc]; rfl
  · rw [setR_ne _ _ (by omega), k i (by omega) (by omega), fx.1 i (by simp; omega) (by omega)]
  · show σ1.2.1 i = _
    rw [k2, gJ_ne1 _ _ _ hi, fx.2.2]
  · show σ1.2.2 = _
    rw [k2, gJ_22, fx.2.2]
def T00 : Vw := fun a b => if a = 0 then (if b = 3 then 99 else if b = 4 then 60 else if b = 5 then 360 else 0) else 0
def zV : Vw := fun _ _ => 0
theorem T00_wf : wfT T00 := ⟨by decide, by decide, by decide, by decide, by decide, fun s hs => absurd hs (Nat.not_lt_zero _), fun q _ => ⟨Nat.zero_le _, Nat.zero_le _⟩, fun c hc => absurd hc (Nat.not_lt_zero _)⟩
theorem start_X : ∃ t0, rX_begin sX0 = some t0 ∧ t0.2.1 97 = (fun _ => 0) ∧ t0.2.2.2 = [] ∧ GX T00 zV (bgD T00 (fun _ => 0)) zV zV 0 (fun _ => 0) [10000] [1] t0 := by
  have hT : XMt T00 sX0 := ⟨rfl, rfl, rfl, rfl, rfl, rfl, fun s hs => absurd hs (Nat.not_lt_zero _), fun q _ => ⟨rfl, fun h => absurd h (Nat.not_lt_zero _)⟩, fun c hc => absurd hc (Nat.not_lt_zero _)⟩
  obtain ⟨τ, e, x1, x2, x3, x4⟩ := eX_begin (d := fun _ => 0) T00_wf hT (fun q _ => rfl)
  refine ⟨τ, e, by rw [x3 97 (by decide)]; rfl, by rw [x4]; rfl, ?_⟩
  refine ⟨XMt_fr (fun i h1 h2 => x2 i (by omega)) hT, x1, ⟨by rw [x2 42 (by omega)]; rfl, fun p hp => absurd hp (Nat.not_lt_zero _)⟩, fun j hj => ⟨by rw [x2 4 (by omega)]; rfl, fun h => absurd h (show ¬ (0 : Nat) = 1 by decide)⟩, ⟨by rw [x2 0 (by omega)]; rfl, fun k hk => absurd hk (Nat.not_lt_zero _)⟩, ⟨by rw [x2 5 (by omega)]; rfl, fun i hi => absurd hi (Nat.not_lt_zero _)⟩, ?_, ⟨Or.inl (by rw [x2 49 (by omega)]; rfl), Or.inl (by rw [x2 54 (by omega)]; rfl)⟩, ?_⟩
  · exact XL_fr (σ := sX0) x4 ⟨by decide, rfl, by decide, rfl⟩
  · exact XN_fr (σ := sX0) x4 (by unfold XN; decide)
theorem start_M : ∃ t1 t2, rM_standsAsAlways 0 sM0 = some t1 ∧ rM_rests t1 = some t2 ∧ GM T00 zV (bgD T00 (fun _ => 0)) zV zV 0 (fun _ => 0) [10000] [1] t2 := by
  obtain ⟨t1, e1, a1, a2, a3, a4⟩ := eM_stands (a := 0) (by omega) sM0
  simp only [Nat.zero_add] at a1
  have hT : MT T00 t1 := by
    refine ⟨by rw [a1 0 (by omega)]; rfl, by rw [a1 1 (by omega)]; rfl, by rw [a1 2 (by omega)]; rfl, by rw [a1 3 (by omega)]; rfl, by rw [a1 4 (by omega)]; rfl, by rw [a1 5 (by omega)]; rfl, fun s hs => absurd hs (Nat.not_lt_zero _), fun q hq => ⟨?_, fun h => absurd h (Nat.not_lt_zero _)⟩, fun c hc => absurd hc (Nat.not_lt_zero _)⟩
    rw [a1 _ (by omega), if_neg (by omega), if_neg (by omega), if_neg (by omega), if_neg (by omega)]; rfl
  obtain ⟨t2, e2, m38, m39, m40, m41, m42, m43, mq, mi, m2⟩ := eM_rests T00_wf hT
  have z16 : ∀ q, t1.1 16 q = 0 := fun q => by rw [a3 16 (by decide)]; rfl
  have z0 : ∀ j, t2.1 0 j = 0 := fun j => by rw [mi 0 (by decide), a3 0 (by decide)]; rfl
  refine ⟨t1, t2, e1, e2, MT_fr (mi 6 (by decide)) hT, ?_, ⟨z0 27, fun p hp => absurd hp (Nat.not_lt_zero _)⟩, fun j hj => ⟨by rw [mi 17 (by decide), a3 17 (by decide)]; rfl, fun h => absurd h (show ¬ (0 : Nat) = 1 by decide)⟩, ⟨z0 25, fun k hk => absurd hk (Nat.not_lt_zero _)⟩, ⟨z0 2, fun i hi => absurd hi (Nat.not_lt_zero _)⟩, ⟨Or.inl ⟨?_, rfl⟩, Or.inl ⟨?_, rfl⟩⟩, ⟨by rw [mi 12 (by decide), a3 12 (by decide)], by rw [mi 13 (by decide), a3 13 (by decide)], by rw [m2, a4]⟩⟩
  · unfold MD
    simp only [Nat.zero_add]
    refine ⟨fun q hq => by rw [mq q (by omega), z16]; rfl, by rw [mq 36 (by omega), z16]; rfl, m41, by rw [mq 37 (by omega), z16]; rfl, m38, m40, m39, m42, fun i hi => absurd hi (Nat.not_lt_zero _), m43, fun c hc => by rw [mq _ (by omega), z16]; rfl⟩
  · rw [mi 6 (by decide), a1 6 (by omega)]; rfl
  · rw [mi 6 (by decide), a1 7 (by omega)]; rfl
theorem start_ok : ∃ t0 t1 t2, rX_begin sX0 = some t0 ∧ t0.2.1 97 = (fun _ => 0) ∧ t0.2.2.2 = [] ∧ rM_standsAsAlways 0 sM0 = some t1 ∧ rM_rests t1 = some t2 ∧ Inv t0 t2 := by
  obtain ⟨t0, a1, a2, a3, a4⟩ := start_X
  obtain ⟨t1, t2, b1, b2, b3⟩ := start_M
  refine ⟨t0, t1, t2, a1, a2, a3, b1, b2, T00, zV, bgD T00 (fun _ => 0), zV, zV, 0, fun _ => 0, [10000], [1], ⟨T00_wf, bgD_wf T00_wf _, ⟨Nat.zero_le _, fun p hp => absurd hp (Nat.not_lt_zero _)⟩, fun j _ => ⟨Nat.zero_le _, fun h => absurd h (show ¬ (0 : Nat) = 1 by decide)⟩, ⟨Nat.zero_le _, fun _ _ => rfl, rfl, fun k hk => absurd hk (Nat.not_lt_zero _)⟩, ⟨Nat.zero_le _, fun i hi => absurd hi (Nat.not_lt_zero _)⟩, ⟨?_, by decide, ?_, by decide⟩⟩, a4, b3⟩
  · exact Or.inl ⟨Or.inr ⟨by decide, by decide⟩, by decide, rfl⟩
  · exact Or.inl ⟨Or.inl (by decide), by decide, rfl⟩
