/-! all paths, in the reference -/
def pc7 (m : Nat) : Nat := m % 2 + m / 2 % 2 + m / 4 % 2 + m / 8 % 2 + m / 16 % 2 + m / 32 % 2 + m / 64 % 2
theorem pc7_or {m c : Nat} (hm : m < 128) (hc : c < 7) (h : m / 2 ^ c % 2 = 0) : pc7 (m ||| 2 ^ c) = pc7 m + 1 := by
  have H : ∀ m, m < 128 → ∀ c, c < 7 → m / 2 ^ c % 2 = 0 → pc7 (m ||| 2 ^ c) = pc7 m + 1 := by decide +kernel
  exact H m hm c hc h
theorem pc7_full {m c : Nat} (hm : m < 128) (hc : c < 7) (h : pc7 m = 7) : ¬ m / 2 ^ c % 2 = 0 := by
  have H : ∀ m, m < 128 → pc7 m = 7 → ∀ c, c < 7 → ¬ m / 2 ^ c % 2 = 0 := by decide +kernel
  exact H m hm h c hc
abbrev gM (σ τ : St) : Prop := frO [18, 19] 0 [27] σ τ
theorem MT_g {T : Vw} {σ τ : St} (h : gM σ τ) (hx : MT T σ) : MT T τ := MT_fr (h.1 6 (by decide) (by decide)) hx
theorem M_keep {R : Vw} {i : Nat} {w : Nat → Nat} {σ : St} (S : Int32 → Int32 → St → Option St) (hi : i ≤ 6) (h37 : R 0 0 < 300) (hR6 : ∀ p, p < R 0 0 → R 1 p ≤ 6) (hx : MR R σ) (hrow : ∀ k, k ≤ i → σ.1 19 k = I (w k)) : wp (chk (ib ((8 : Int32) * (σ.1 0 27)) 3200) (nm (setI σ 18 ((8 : Int32) * (σ.1 0 27)).toNatClampNeg (I (i + 1))) fun σ_15 => nm (0 : Int32) fun v3_16 => lp (rM_goesOnB_32L S) fu (I (i + 1), v3_16, σ_15))) (fun τ => MR (adR R i w) τ ∧ τ.1 19 = σ.1 19 ∧ gM σ τ) := by
  rw [hx.1, litN, I_mul, chk_t (ib_I (by omega) (by omega)), nmE, nmE, I_cl (by omega)]
  refine wp_for (fun n a => ∃ (q : Nat) (τ : St), q + n = i + 1 ∧ a = (I (i + 1), I q, τ) ∧ τ.1 0 27 = I (R 0 0) ∧ τ.1 18 (8 * R 0 0) = I (i + 1) ∧ (∀ k, k < q → τ.1 18 (8 * R 0 0 + 1 + k) = I (w k)) ∧ (∀ x, x < 8 * R 0 0 → τ.1 18 x = σ.1 18 x) ∧ τ.1 19 = σ.1 19 ∧ gM σ τ) ?_ ?_ (i + 1) fu _ ⟨0, _, by omega, rfl, ?_, gI_same _ _ _ _, fun k hk => absurd hk (Nat.not_lt_zero _), fun x hx' => gI_ne2 _ _ _ (by omega), gI_ne1 _ _ _ (by decide), frO_c frO_refl _ (by decide) (by decide)⟩ (by unfold fu; omega)
  · rintro n a k ⟨q, τ, hq, rfl, t0, t1, t2, t3, t4, f⟩ hk
    show wp (rM_goesOnB_32 S (fun v1 v3 σ => k (v1, v3, σ)) (I (i + 1)) (I q) τ) _
    unfold rM_goesOnB_32
    rw [brc_f (show ¬ I (i + 1) ≤ I q by rw [I_le (by omega) (by omega)]; omega), chk_t (ib_I (show q < 7 by omega) (by omega)), t0]
    simp only [litN, I_mul, I_add]
    rw [chk_t (ib_I (by omega) (by omega)), nmE, nmE, oi1, I_add, I_cl (by omega), I_cl (by omega), t4, hrow q (by omega)]
    refine hk _ ⟨q + 1, _, by omega, rfl, by rw [gI_ne1 _ _ _ (by decide)]; exact t0, by rw [gI_ne2 _ _ _ (by omega)]; exact t1, fun x hx' => ?_, fun x hx' => by rw [gI_ne2 _ _ _ (by omega)]; exact t3 x hx', by rw [gI_ne1 _ _ _ (by decide)]; exact t4, frO_c f _ (by decide) (by decide)⟩
    by_cases e : x = q
    · rw [e, gI_same]
    · rw [gI_ne2 _ _ _ (by omega)]; exact t2 x (by omega)
  · rintro a k ⟨q, τ, hq, rfl, t0, t1, t2, t3, t4, f⟩
    show wp (rM_goesOnB_32 S (fun v1 v3 σ => k (v1, v3, σ)) (I (i + 1)) (I q) τ) _
    unfold rM_goesOnB_32
    rw [brc_t (show I (i + 1) ≤ I q by rw [I_le (by omega) (by omega)]; omega), nmE, t0, I1, I_add]
    refine wp_some ⟨⟨gI_same _ _ _ _, fun p hp => ?_⟩, by rw [gI_ne1 _ _ _ (by decide)]; exact t4, frO_f f _ (by decide)⟩
    rw [adR_0] at hp
    rw [gI_ne1 _ _ _ (show (18 : Nat) ≠ 0 by decide)]
    simp only [adR_1, adR_2]
    by_cases e : p = R 0 0
    · simp only [if_pos e]
      rw [e]
      exact ⟨t1, fun k hk => t2 k (by omega)⟩
    · simp only [if_neg e]
      have := hR6 p (by omega)
      refine ⟨by rw [t3 _ (by omega)]; exact (hx.2 p (by omega)).1, fun k hk => ?_⟩
      rw [t3 _ (by omega)]; exact (hx.2 p (by omega)).2 k hk
  · rw [gI_ne1 _ _ _ (by decide)]; exact hx.1
theorem M_goOn {T : Vw} (hw : wfT T) (h1 : 1 ≤ T 0 0) : ∀ (n d i ps : Nat) (w : Nat → Nat) (R : Vw) (σ : St), i + n = 6 → n < d → ps < 128 → pc7 ps = i + 1 → wfw T i w → wfR' T R → gn T n i ps w R 0 0 ≤ 37 → MT T σ → MR R σ → (∀ k, k ≤ i → σ.1 19 k = I (w k)) → wp (rM_goesOn d (I (i + 1)) (I ps) σ) (fun τ => MR (gn T n i ps w R) τ ∧ (∀ k, k ≤ i → τ.1 19 k = I (w k)) ∧ gM σ τ) := by
  have h7 := hw.1
  intro n
  induction n with
  | zero =>
    intro d i ps w R σ hi hd hps hpc hww hwR h37 hT hx hrow
    obtain ⟨d, rfl⟩ : ∃ k, d = k + 1 := ⟨d - 1, by omega⟩
    show wp (rM_goesOnB (fun v1 v2 σ => lp rM_goesOn_F d (v1, v2, σ)) (I (i + 1)) (I ps) σ) _
    generalize (fun v1 v2 σ => lp rM_goesOn_F d (v1, v2, σ) : Int32 → Int32 → St → Option St) = S
    have hwi := hww.2.1 i (Nat.le_refl _)
    unfold rM_goesOnB
    rw [I1, I_sub (by omega), Nat.add_sub_cancel, chk_t (ib_I (by omega) (by omega)), eM_stations, bnd2_e, I_cl (by omega), hrow i (Nat.le_refl _), hT.1, I_sub h1]
    unfold gn at h37 ⊢
    by_cases e : w i = T 0 0 - 1
    · rw [if_pos e] at h37 ⊢
      rw [adR_0] at h37
      rw [brc_f (show ¬ ¬ I (w i) = I (T 0 0 - 1) by rw [e]; exact fun h => h rfl)]
      refine wp_mono (M_keep S (by omega) (by omega) (fun p hp => (hwR p hp).1) hx hrow) ?_
      rintro τ ⟨x1, x2, x3⟩
      exact ⟨x1, fun k hk => by rw [x2]; exact hrow k hk, x3⟩
    · rw [if_neg e]
      rw [brc_t (show ¬ I (w i) = I (T 0 0 - 1) by rw [I_inj (by omega) (by omega)]; exact e), nmE]
      refine wp_for (fun n2 a => ∃ c : Nat, c + n2 = T 0 0 ∧ a = (I (i + 1), I ps, I c, σ)) ?_ ?_ (T 0 0) fu _ ⟨0, by omega, rfl⟩ (by unfold fu; omega)
      · rintro n2 a k ⟨c, hc, rfl⟩ hk
        have hb := bit7 hps (show c < 7 by omega)
        have hfull := pc7_full hps (show c < 7 by omega) (by omega)
        show wp (rM_goesOnB_78 S (fun v1 v2 v3 σ => k (v1, v2, v3, σ)) (I (i + 1)) (I ps) (I c) σ) _
        unfold rM_goesOnB_78 rM_goesOnB_130
        rw [eM_stations, bnd2_e, hT.1, brc_f (show ¬ I (T 0 0) ≤ I c by rw [I_le (by omega) (by omega)]; omega), hb.1, brc_t (show ¬ I (ps / 2 ^ c % 2) = 0 by rw [I0, I_inj (by omega) (by omega)]; exact hfull), nmE, oi1, I_add]
        exact hk _ ⟨c + 1, by omega, rfl⟩
      · rintro a k ⟨c, hc, rfl⟩
        show wp (rM_goesOnB_78 S (fun v1 v2 v3 σ => k (v1, v2, v3, σ)) (I (i + 1)) (I ps) (I c) σ) _
        unfold rM_goesOnB_78
        rw [eM_stations, bnd2_e, hT.1, brc_t (show I (T 0 0) ≤ I c by rw [I_le (by omega) (by omega)]; omega)]
        exact wp_some ⟨hx, hrow, frO_refl⟩
  | succ n ih =>
    intro d i ps w R σ hi hd hps hpc hww hwR h37 hT hx hrow
    obtain ⟨d, rfl⟩ : ∃ k, d = k + 1 := ⟨d - 1, by omega⟩
    obtain ⟨S, hS⟩ : ∃ S : Int32 → Int32 → St → Option St, S = fun v1 v2 σ => lp rM_goesOn_F d (v1, v2, σ) := ⟨_, rfl⟩
    replace ih : ∀ (ps : Nat) (w : Nat → Nat) (R : Vw) (σ : St), ps < 128 → pc7 ps = i + 1 + 1 → wfw T (i + 1) w → wfR' T R → gn T n (i + 1) ps w R 0 0 ≤ 37 → MT T σ → MR R σ → (∀ k, k ≤ i + 1 → σ.1 19 k = I (w k)) → wp (S (I (i + 1 + 1)) (I ps) σ) (fun τ => MR (gn T n (i + 1) ps w R) τ ∧ (∀ k, k ≤ i + 1 → τ.1 19 k = I (w k)) ∧ gM σ τ) := fun ps w R σ b1 b0 b2 b3 b4 b5 b6 b7 => by
      rw [hS]
      exact ih d (i + 1) ps w R σ (by omega) (by omega) b1 b0 b2 b3 b4 b5 b6 b7
    show wp (rM_goesOnB (fun v1 v2 σ => lp rM_goesOn_F d (v1, v2, σ)) (I (i + 1)) (I ps) σ) _
    rw [← hS]
    clear hS
    have hwi := hww.2.1 i (Nat.le_refl _)
    unfold rM_goesOnB
    rw [I1, I_sub (by omega), Nat.add_sub_cancel, chk_t (ib_I (by omega) (by omega)), eM_stations, bnd2_e, I_cl (by omega), hrow i (Nat.le_refl _), hT.1, I_sub h1]
    unfold gn at h37 ⊢
    by_cases e : w i = T 0 0 - 1
    · rw [if_pos e] at h37 ⊢
      rw [adR_0] at h37
      rw [brc_f (show ¬ ¬ I (w i) = I (T 0 0 - 1) by rw [e]; exact fun h => h rfl)]
      refine wp_mono (M_keep S (by omega) (by omega) (fun p hp => (hwR p hp).1) hx hrow) ?_
      rintro τ ⟨x1, x2, x3⟩
      exact ⟨x1, fun k hk => by rw [x2]; exact hrow k hk, x3⟩
    · rw [if_neg e] at h37 ⊢
      rw [brc_t (show ¬ I (w i) = I (T 0 0 - 1) by rw [I_inj (by omega) (by omega)]; exact e), nmE]
      generalize hf : (fun c R => if ¬ ps / 2 ^ c % 2 = 0 ∨ T 3 (7 * w i + c) = 0 then R else gn T n (i + 1) (ps ||| 2 ^ c) (updN w (i + 1) c) R : Nat → Vw → Vw) = f at h37 ⊢
      have fmono : ∀ c R', R' 0 0 ≤ f c R' 0 0 := fun c R' => by
        rw [← hf]
        show R' 0 0 ≤ (if ¬ ps / 2 ^ c % 2 = 0 ∨ T 3 (7 * w i + c) = 0 then R' else gn T n (i + 1) (ps ||| 2 ^ c) (updN w (i + 1) c) R') 0 0
        split
        · exact Nat.le_refl _
        · exact gn_mono _ _ _ _ _
      have fcm : ∀ m c, fc f c R 0 0 ≤ fc f (c + m) R 0 0 := by
        intro m
        induction m with
        | zero => intro c; exact Nat.le_refl _
        | succ m ihm => intro c; exact Nat.le_trans (ihm c) (fmono (c + m) _)
      refine wp_for (fun n2 a => ∃ (c : Nat) (τ : St), c + n2 = T 0 0 ∧ a = (I (i + 1), I ps, I c, τ) ∧ wfR' T (fc f c R) ∧ MR (fc f c R) τ ∧ (∀ k, k ≤ i → τ.1 19 k = I (w k)) ∧ gM σ τ) ?_ ?_ (T 0 0) fu _ ⟨0, σ, by omega, rfl, hwR, hx, hrow, frO_refl⟩ (by unfold fu; omega)
      · rintro n2 a k ⟨c, τ, hc, rfl, wR, t1, t2, fg⟩ hk
        have hTτ := MT_g fg hT
        have hb := bit7 hps (show c < 7 by omega)
        have ef : fc f (c + 1) R = f c (fc f c R) := rfl
        have hle : f c (fc f c R) 0 0 ≤ 37 := by
          have := fcm n2 (c + 1)
          rw [show c + 1 + n2 = T 0 0 by omega, ef] at this
          omega
        have next : ∀ υ : St, MR (f c (fc f c R)) υ → wfR' T (f c (fc f c R)) → (∀ k, k ≤ i → υ.1 19 k = I (w k)) → gM σ υ → wp (rM_goesOnB_130 S (fun v1 v2 v3 σ => k (v1, v2, v3, σ)) (I (i + 1)) (I ps) (I c) υ) (fun τ => MR (fc f (T 0 0) R) τ ∧ (∀ k, k ≤ i → τ.1 19 k = I (w k)) ∧ gM σ τ) := by
          intro υ u1 u2 u3 u4
          unfold rM_goesOnB_130
          rw [nmE, oi1, I_add]
          exact hk _ ⟨c + 1, υ, by omega, rfl, by rw [ef]; exact u2, by rw [ef]; exact u1, u3, u4⟩
        generalize fc f c R = R1 at *
        have efc : f c R1 = if ¬ ps / 2 ^ c % 2 = 0 ∨ T 3 (7 * w i + c) = 0 then R1 else gn T n (i + 1) (ps ||| 2 ^ c) (updN w (i + 1) c) R1 := by rw [← hf]
        show wp (rM_goesOnB_78 S (fun v1 v2 v3 σ => k (v1, v2, v3, σ)) (I (i + 1)) (I ps) (I c) τ) _
        unfold rM_goesOnB_78
        rw [eM_stations, bnd2_e, hTτ.1, brc_f (show ¬ I (T 0 0) ≤ I c by rw [I_le (by omega) (by omega)]; omega), hb.1]
        have hq := (hw.2.2.2.2.2.2.1 (7 * w i + c) (by omega)).1
        by_cases b0 : ps / 2 ^ c % 2 = 0
        · rw [brc_f (show ¬ ¬ I (ps / 2 ^ c % 2) = 0 by rw [b0]; exact fun h => h rfl), I1, I_sub (by omega), Nat.add_sub_cancel, chk_t (ib_I (by omega) (by omega)), I_cl (by omega), t2 i (Nat.le_refl _), I0, eM_wayOf _ (by omega) (by omega) (by omega), bnd2_e, Nat.add_zero, (hTτ.2.2.2.2.2.2.2.1 (7 * w i + c) (by omega)).1]
          by_cases t0 : T 3 (7 * w i + c) = 0
          · rw [if_pos (Or.inr t0)] at efc
            rw [brc_t (show I (T 3 (7 * w i + c)) ≤ I 0 by rw [t0]; decide)]
            exact next τ (by rw [efc]; exact t1) (by rw [efc]; exact wR) t2 fg
          · rw [if_neg (by omega)] at efc
            rw [brc_f (show ¬ I (T 3 (7 * w i + c)) ≤ I 0 by rw [I_le (by omega) (by omega)]; omega), chk_t (ib_I (show i + 1 < 7 by omega) (by omega)), nmE, I_cl (by omega), I_add, show I ps ||| (I 1 <<< (I c &&& 31)) = I (ps ||| 2 ^ c) from hb.2.1]
            have hwu := upd_wf hww (show c < T 0 0 by omega) (show 0 < T 3 (7 * w i + c) by omega)
            rw [efc] at hle
            have f1 : gM τ (setI τ 19 (i + 1) (I c)) := frO_c frO_refl _ (by decide) (by decide)
            refine wp_bnd1 (wp_mono (ih (ps ||| 2 ^ c) (updN w (i + 1) c) R1 (setI τ 19 (i + 1) (I c)) hb.2.2 (by rw [pc7_or hps (by omega) b0, hpc]) hwu wR hle (MT_g f1 hTτ) (MR_fr (by rw [gI_ne1 _ _ _ (by decide)]) (gI_ne1 _ _ _ (by decide)) t1) (fun q hq' => ?_)) ?_)
            · by_cases e2 : q = i + 1
              · rw [e2, updN_s, gI_same]
              · rw [updN_n _ _ e2, gI_ne2 _ _ _ e2]; exact t2 q (by omega)
            · rintro ω ⟨w1, w2, f3⟩
              refine next ω (by rw [efc]; exact w1) (by rw [efc]; exact gn_wf n _ _ _ _ (by omega) hwu wR) (fun q hq' => ?_) (frO_tr (frO_tr fg f1) f3)
              rw [w2 q (by omega), updN_n _ _ (by omega)]
        · rw [if_pos (Or.inl b0)] at efc
          rw [brc_t (show ¬ I (ps / 2 ^ c % 2) = 0 by rw [I0, I_inj (by omega) (by omega)]; exact b0)]
          exact next τ (by rw [efc]; exact t1) (by rw [efc]; exact wR) t2 fg
      · rintro a k ⟨c, τ, hc, rfl, wR, t1, t2, fg⟩
        have hTτ := MT_g fg hT
        show wp (rM_goesOnB_78 S (fun v1 v2 v3 σ => k (v1, v2, v3, σ)) (I (i + 1)) (I ps) (I c) τ) _
        unfold rM_goesOnB_78
        rw [eM_stations, bnd2_e, hTτ.1, brc_t (show I (T 0 0) ≤ I c by rw [I_le (by omega) (by omega)]; omega)]
        rw [show c = T 0 0 by omega] at t1
        exact wp_some ⟨t1, t2, fg⟩
theorem eM_findPaths {T : Vw} {σ : St} (hw : wfT T) (h37 : R00 T 0 0 ≤ 37) (hT : MT T σ) : wp (rM_findPaths σ) (fun τ => MR (R00 T) τ ∧ gM σ τ) := by
  unfold rM_findPaths rM_findPaths_25
  have f1 : gM σ (setI σ 0 27 0) := frO_f frO_refl _ (by decide)
  rw [nmE, eM_stations, bnd2_e, gI_ne1 _ _ _ (show (6 : Nat) ≠ 0 by decide), hT.1]
  by_cases h0 : T 0 0 = 0
  · rw [brc_t (show I (T 0 0) ≤ 0 by rw [h0]; decide)]
    unfold R00
    rw [if_pos h0]
    exact wp_some ⟨⟨gI_same _ _ _ _, fun p hp => absurd hp (Nat.not_lt_zero _)⟩, f1⟩
  · have h7 := hw.1
    rw [brc_f (show ¬ I (T 0 0) ≤ 0 by rw [I0, I_le (by omega) (by omega)]; omega), show ib (0 : Int32) 7 = true from rfl, chk_e, nmE, show (0 : Int32).toNatClampNeg = 0 from rfl]
    unfold R00 at h37 ⊢
    rw [if_neg h0] at h37 ⊢
    have f2 : gM σ (setI (setI σ 0 27 0) 19 0 0) := frO_c f1 _ (by decide) (by decide)
    refine wp_bnd1 (wp_mono (M_goOn hw (by omega) 6 9 0 1 (fun _ => 0) zV _ (by omega) (by omega) (by omega) (by decide) ⟨rfl, fun k _ => by show 0 < T 0 0; omega, fun k hk => absurd hk (Nat.not_lt_zero _)⟩ (zV_wf T) h37 (MT_g f2 hT) ⟨by rw [gI_ne1 _ _ _ (by decide), gI_same]; rfl, fun p hp => absurd hp (Nat.not_lt_zero _)⟩ (fun k hk => ?_)) ?_)
    · have : k = 0 := by omega
      rw [this, gI_same]; rfl
    · rintro τ ⟨x1, -, f3⟩
      exact wp_some ⟨x1, frO_tr f2 f3⟩
