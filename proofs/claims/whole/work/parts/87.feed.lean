/-! feed -/
theorem byX (v : Int64) {s : Nat} (hs : s < 64) (k : UInt64) (hk : k = UInt64.ofNat s) : ((v.toUInt64 >>> k).toInt64.toInt32 &&& 255) = I (v.toBitVec.toNat / 2 ^ s % 256) := by
  subst hk
  apply Int32.toBitVec_inj.mp
  apply BitVec.eq_of_toNat_eq
  rw [Int32.toBitVec_and]
  simp [I]
  rw [BitVec.signExtend_eq_setWidth_of_le _ (by omega), BitVec.toNat_setWidth, BitVec.toNat_ushiftRight, Nat.mod_eq_of_lt hs, Nat.shiftRight_eq_div_pow, show (255 : Nat) = 2 ^ 8 - 1 from rfl, Nat.and_two_pow_sub_one_eq_mod]
  omega
theorem smod64 {s : Nat} (hs : s ≤ 56) : ((BitVec.ofNat 64 s).smod 64#64).toNat = s := by
  have h : ∀ s, s < 57 → ((BitVec.ofNat 64 s).smod 64#64).toNat = s := by decide +kernel
  exact h s (by omega)
theorem byM (v : Int64) {s : Nat} (hs : s ≤ 56) (k : Int64) (hk : k = Int64.ofNat s) : ((v >>> k).toInt32 &&& 255) = ((v.toUInt64 >>> (UInt64.ofNat s)).toInt64.toInt32 &&& 255) := by
  subst hk
  apply Int32.toBitVec_inj.mp
  apply BitVec.eq_of_getLsbD_eq
  intro i hi
  simp
  rw [smod64 hs, BitVec.signExtend_eq_setWidth_of_le _ (by omega), BitVec.signExtend_eq_setWidth_of_le _ (by omega), BitVec.getLsbD_setWidth, BitVec.getLsbD_setWidth, BitVec.getLsbD_sshiftRight, BitVec.getLsbD_ushiftRight, Nat.mod_eq_of_lt (show s < 64 by omega)]
  by_cases h8 : i < 8
  · rw [if_pos (show s + i < 64 by omega)]
    simp [hi, show ¬ 64 ≤ i by omega]
  · have h : ∀ i, i < 32 → 8 ≤ i → (255#32).getLsbD i = false := by decide
    rw [h i hi (by omega), Bool.and_false, Bool.and_false]
def byt (v : Int64) (s : Nat) : Nat := v.toBitVec.toNat / 2 ^ s % 256
def adB (t : Nat × (Nat → Nat)) (b : Nat) : Nat × (Nat → Nat) := if (b = 10 ∨ (32 ≤ b ∧ b ≤ 126)) ∧ t.1 < 1000 then (t.1 + 1, updN t.2 t.1 b) else t
def ad8 (v : Int64) : Nat → Nat × (Nat → Nat) → Nat × (Nat → Nat)
  | 0, t => t
  | k + 1, t => ad8 v k (adB t (byt v (8 * k)))
theorem shv {j : Nat} (hj : j < 8) : (I (8 * j)).toInt64.toUInt64 &&& Int64.toUInt64 63 = UInt64.ofNat (8 * j) ∧ (I (8 * j)).toInt64 &&& 63 = Int64.ofNat (8 * j) := by
  have h : ∀ j, j < 8 → (I (8 * j)).toInt64.toUInt64 &&& Int64.toUInt64 63 = UInt64.ofNat (8 * j) ∧ (I (8 * j)).toInt64 &&& 63 = Int64.ofNat (8 * j) := by decide +kernel
  exact h j hj
theorem narI {b : Nat} (hb : b < 127) : vp_nar .byte (I b).toInt8.toInt32 = I b := by
  have h : ∀ b, b < 127 → vp_nar .byte (I b).toInt8.toInt32 = I b := by decide +kernel
  exact h b hb
theorem I_next (j : Nat) : I (8 * (j + 1)) + Int32.ofInt (-8) = I (8 * j) := by
  rw [show 8 * (j + 1) = 8 * j + 8 by omega, ← I_add, Int32.add_assoc, show I 8 + Int32.ofInt (-8) = 0 by decide, Int32.add_zero]
abbrev tX (σ τ : St) : Prop := frO [6] 5 [2] σ τ
abbrev tM (σ τ : St) : Prop := frO [1] 0 [2] σ τ
theorem adB_wf {t : Nat × (Nat → Nat)} (h : wfP t.1 t.2) (b : Nat) : wfP (adB t b).1 (adB t b).2 := by
  unfold adB
  by_cases e : (b = 10 ∨ (32 ≤ b ∧ b ≤ 126)) ∧ t.1 < 1000
  · rw [if_pos e]
    refine ⟨by show t.1 + 1 ≤ 1000; omega, fun i hi => ?_⟩
    have hi' : i < t.1 + 1 := hi
    show (if i = t.1 then b else t.2 i) = 10 ∨ _ ≤ (if i = t.1 then b else t.2 i) ∧ (if i = t.1 then b else t.2 i) ≤ _
    by_cases e2 : i = t.1
    · rw [if_pos e2]; exact e.1
    · rw [if_neg e2]; exact h.2 i (by omega)
  · rw [if_neg e]; exact h
theorem ad8_wf (v : Int64) : ∀ (k : Nat) (t : Nat × (Nat → Nat)), wfP t.1 t.2 → wfP (ad8 v k t).1 (ad8 v k t).2
  | 0, t, h => h
  | k + 1, t, h => ad8_wf v k _ (adB_wf h _)
theorem XP_push {t : Nat × (Nat → Nat)} {b : Nat} {τ : St} {v : Int32} (hv : v = I b) (hok : (b = 10 ∨ (32 ≤ b ∧ b ≤ 126)) ∧ t.1 < 1000) (hx : XP t.1 t.2 τ) : XP (adB t b).1 (adB t b).2 (setI (setI τ 6 t.1 v) 5 2 (I (t.1 + 1))) := by
  unfold adB
  rw [if_pos hok]
  refine ⟨gI_same _ _ _ _, fun i hi => ?_⟩
  have hi' : i < t.1 + 1 := hi
  show _ = I (if i = t.1 then b else t.2 i)
  rw [gI_ne1 _ _ _ (by decide)]
  by_cases e2 : i = t.1
  · rw [if_pos e2, e2, gI_same, hv]
  · rw [if_neg e2, gI_ne2 _ _ _ e2]; exact hx.2 i (by omega)
theorem MP_push {t : Nat × (Nat → Nat)} {b : Nat} {τ : St} (hok : (b = 10 ∨ (32 ≤ b ∧ b ≤ 126)) ∧ t.1 < 1000) (hx : MP t.1 t.2 τ) : MP (adB t b).1 (adB t b).2 (setI (setI τ 1 t.1 (I b)) 0 2 (I (t.1 + 1))) := by
  unfold adB
  rw [if_pos hok]
  refine ⟨gI_same _ _ _ _, fun i hi => ?_⟩
  have hi' : i < t.1 + 1 := hi
  show _ = I (if i = t.1 then b else t.2 i)
  rw [gI_ne1 _ _ _ (by decide)]
  by_cases e2 : i = t.1
  · rw [if_pos e2, e2, gI_same]
  · rw [if_neg e2, gI_ne2 _ _ _ e2]; exact hx.2 i (by omega)
theorem eX_add8 (v : Int64) {t : Nat × (Nat → Nat)} {σ : St} (hw : wfP t.1 t.2) (hx : XP t.1 t.2 σ) : wp (rX_taddEight v σ) (fun τ => XP (ad8 v 8 t).1 (ad8 v 8 t).2 τ ∧ tX σ τ) := by
  unfold rX_taddEight
  rw [nmE]
  refine wp_for (fun n a => ∃ (u : Nat × (Nat → Nat)) (τ : St), n ≤ 8 ∧ a = (v, I (8 * n) + Int32.ofInt (-8), τ) ∧ ad8 v n u = ad8 v 8 t ∧ wfP u.1 u.2 ∧ XP u.1 u.2 τ ∧ tX σ τ) ?_ ?_ 8 fu _ ⟨t, σ, by omega, by rw [I_next 7]; rfl, rfl, hw, hx, frO_refl⟩ (by unfold fu; omega)
  · rintro n a k ⟨u, τ, hn, rfl, hu, hwu, hxu, f⟩ hk
    rw [I_next]
    show wp (rX_taddEight_3 (fun v1 v3 σ => k (v1, v3, σ)) v (I (8 * n)) τ) _
    have hb : byt v (8 * n) < 256 := Nat.mod_lt _ (by omega)
    have ew : (v.toUInt64 >>> ((I (8 * n)).toInt64.toUInt64 &&& Int64.toUInt64 63)).toInt64.toInt32 &&& 255 = I (byt v (8 * n)) := byX v (by omega) _ (shv (by omega)).1
    unfold rX_taddEight_3
    rw [brc_f (show ¬ I (8 * n) < 0 by rw [I0, I_lt (by omega) (by omega)]; omega), nmE, ew]
    have h1000 := hwu.1
    have skip : ¬ ((byt v (8 * n) = 10 ∨ (32 ≤ byt v (8 * n) ∧ byt v (8 * n) ≤ 126)) ∧ u.1 < 1000) → wp (rX_taddEight_82 (fun v1 v3 σ => k (v1, v3, σ)) v (I (8 * n)) τ) (fun τ => XP (ad8 v 8 t).1 (ad8 v 8 t).2 τ ∧ tX σ τ) := fun hno => by
      unfold rX_taddEight_82
      rw [nmE]
      exact hk _ ⟨u, τ, by omega, rfl, by rw [← hu]; show _ = ad8 v n (adB u (byt v (8 * n))); unfold adB; rw [if_neg hno], hwu, hxu, f⟩
    have take : (byt v (8 * n) = 10 ∨ (32 ≤ byt v (8 * n) ∧ byt v (8 * n) ≤ 126)) → wp (rX_taddEight_38 (fun v1 v3 σ => k (v1, v3, σ)) v (I (8 * n)) (I (byt v (8 * n))) τ) (fun τ => XP (ad8 v 8 t).1 (ad8 v 8 t).2 τ ∧ tX σ τ) := fun hyes => by
      unfold rX_taddEight_38 rX_taddEight_43
      rw [nmE, brc_f b01_1, hxu.1]
      by_cases hfull : u.1 < 1000
      · rw [brc_f (show ¬ (1000 : Int32) ≤ I u.1 by rw [litN, I_le (by omega) (by omega)]; omega), chk_t (ib_I hfull (by omega)), nmE, nmE, gI_ne1 _ _ _ (show (5 : Nat) ≠ 6 by decide), hxu.1, I_cl (by omega), narI (by omega), I1, I_add]
        unfold rX_taddEight_82
        rw [nmE]
        exact hk _ ⟨adB u (byt v (8 * n)), _, by omega, rfl, by rw [← hu]; rfl, adB_wf hwu _, XP_push rfl ⟨hyes, hfull⟩ hxu, frO_f (frO_c f _ (by decide) (by decide)) _ (by decide)⟩
      · rw [brc_t (show (1000 : Int32) ≤ I u.1 by rw [litN, I_le (by omega) (by omega)]; omega)]
        exact skip (fun h => hfull h.2)
    have leave : ¬ (byt v (8 * n) = 10 ∨ (32 ≤ byt v (8 * n) ∧ byt v (8 * n) ≤ 126)) → wp (rX_taddEight_42 (fun v1 v3 σ => k (v1, v3, σ)) v (I (8 * n)) (I (byt v (8 * n))) τ) (fun τ => XP (ad8 v 8 t).1 (ad8 v 8 t).2 τ ∧ tX σ τ) := fun hno => by
      unfold rX_taddEight_42 rX_taddEight_43
      rw [nmE, brc_t rfl]
      exact skip (fun h => hno h.1)
    refine wp_brc (fun h => ?_) (fun h => ?_)
    · rw [litN, I_inj (by omega) (by omega)] at h
      exact take (Or.inl h)
    · rw [litN, I_inj (by omega) (by omega)] at h
      refine wp_brc (fun h1 => ?_) (fun h1 => ?_)
      · rw [litN, I_lt (by omega) (by omega)] at h1
        exact leave (by omega)
      · rw [litN, I_lt (by omega) (by omega)] at h1
        refine wp_brc (fun h2 => ?_) (fun h2 => ?_)
        · rw [litN, I_lt (by omega) (by omega)] at h2
          exact leave (by omega)
        · rw [litN, I_lt (by omega) (by omega)] at h2
          exact take (Or.inr (by omega))
  · rintro a k ⟨u, τ, hn, rfl, hu, hwu, hxu, f⟩
    show wp (rX_taddEight_3 (fun v1 v3 σ => k (v1, v3, σ)) v (I (8 * 0) + Int32.ofInt (-8)) τ) _
    unfold rX_taddEight_3
    rw [brc_t (by decide), ← hu]
    exact wp_some ⟨hxu, f⟩
theorem eM_lay (v : Int64) {t : Nat × (Nat → Nat)} {σ : St} (hw : wfP t.1 t.2) (hx : MP t.1 t.2 σ) : wp (rM_lay v σ) (fun τ => MP (ad8 v 8 t).1 (ad8 v 8 t).2 τ ∧ tM σ τ) := by
  unfold rM_lay
  rw [nmE]
  refine wp_for (fun n a => ∃ (u : Nat × (Nat → Nat)) (τ : St), n ≤ 8 ∧ a = (v, I (8 * n) + Int32.ofInt (-8), τ) ∧ ad8 v n u = ad8 v 8 t ∧ wfP u.1 u.2 ∧ MP u.1 u.2 τ ∧ tM σ τ) ?_ ?_ 8 fu _ ⟨t, σ, by omega, by rw [I_next 7]; rfl, rfl, hw, hx, frO_refl⟩ (by unfold fu; omega)
  · rintro n a k ⟨u, τ, hn, rfl, hu, hwu, hxu, f⟩ hk
    rw [I_next]
    show wp (rM_lay_3 (fun v1 v3 σ => k (v1, v3, σ)) v (I (8 * n)) τ) _
    have hb : byt v (8 * n) < 256 := Nat.mod_lt _ (by omega)
    have ew : (v >>> ((I (8 * n)).toInt64 &&& 63)).toInt32 &&& 255 = I (byt v (8 * n)) := by
      rw [byM v (show 8 * n ≤ 56 by omega) _ (shv (by omega)).2]
      exact byX v (by omega) _ rfl
    unfold rM_lay_3
    rw [brc_f (show ¬ I (8 * n) < 0 by rw [I0, I_lt (by omega) (by omega)]; omega), nmE, ew]
    have h1000 := hwu.1
    have skip : ¬ ((byt v (8 * n) = 10 ∨ (32 ≤ byt v (8 * n) ∧ byt v (8 * n) ≤ 126)) ∧ u.1 < 1000) → wp (rM_lay_69 (fun v1 v3 σ => k (v1, v3, σ)) v (I (8 * n)) τ) (fun τ => MP (ad8 v 8 t).1 (ad8 v 8 t).2 τ ∧ tM σ τ) := fun hno => by
      unfold rM_lay_69
      rw [nmE]
      exact hk _ ⟨u, τ, by omega, rfl, by rw [← hu]; show _ = ad8 v n (adB u (byt v (8 * n))); unfold adB; rw [if_neg hno], hwu, hxu, f⟩
    have take : (byt v (8 * n) = 10 ∨ (32 ≤ byt v (8 * n) ∧ byt v (8 * n) ≤ 126)) → wp (rM_lay_38 (fun v1 v3 σ => k (v1, v3, σ)) v (I (8 * n)) (I (byt v (8 * n))) τ) (fun τ => MP (ad8 v 8 t).1 (ad8 v 8 t).2 τ ∧ tM σ τ) := fun hyes => by
      unfold rM_lay_38
      rw [hxu.1]
      by_cases hfull : u.1 < 1000
      · rw [brc_f (show ¬ (1000 : Int32) ≤ I u.1 by rw [litN, I_le (by omega) (by omega)]; omega), chk_t (ib_I hfull (by omega)), nmE, nmE, gI_ne1 _ _ _ (show (0 : Nat) ≠ 1 by decide), hxu.1, I_cl (by omega), I1, I_add]
        unfold rM_lay_69
        rw [nmE]
        exact hk _ ⟨adB u (byt v (8 * n)), _, by omega, rfl, by rw [← hu]; rfl, adB_wf hwu _, MP_push ⟨hyes, hfull⟩ hxu, frO_f (frO_c f _ (by decide) (by decide)) _ (by decide)⟩
      · rw [brc_t (show (1000 : Int32) ≤ I u.1 by rw [litN, I_le (by omega) (by omega)]; omega)]
        exact skip (fun h => hfull h.2)
    refine wp_brc (fun h => ?_) (fun h => ?_)
    · rw [litN, I_inj (by omega) (by omega)] at h
      exact take (Or.inl h)
    · rw [litN, I_inj (by omega) (by omega)] at h
      refine wp_brc (fun h1 => ?_) (fun h1 => ?_)
      · rw [litN, I_lt (by omega) (by omega)] at h1
        exact skip (by omega)
      · rw [litN, I_lt (by omega) (by omega)] at h1
        refine wp_brc (fun h2 => ?_) (fun h2 => ?_)
        · rw [litN, I_lt (by omega) (by omega)] at h2
          exact skip (by omega)
        · rw [litN, I_lt (by omega) (by omega)] at h2
          exact take (Or.inr (by omega))
  · rintro a k ⟨u, τ, hn, rfl, hu, hwu, hxu, f⟩
    show wp (rM_lay_3 (fun v1 v3 σ => k (v1, v3, σ)) v (I (8 * 0) + Int32.ofInt (-8)) τ) _
    unfold rM_lay_3
    rw [brc_t (by decide), ← hu]
    exact wp_some ⟨hxu, f⟩
theorem po_feed : PO_feed Inv := by
  intro σx σm h a b c
  obtain ⟨T, R, D, Mk, U, n, tp, LD, LP, hw, hx, hm⟩ := h
  have hm' := GM_0 hw 0 hm
  have w0 : wfP (n, tp).1 (n, tp).2 := hw.2.2.2.2.2.1
  obtain ⟨x1, e1, p1, f1⟩ := eX_add8 a (t := (n, tp)) w0 hx.2.2.2.2.2.1
  obtain ⟨m1, e1', p1', f1'⟩ := eM_lay a (t := (n, tp)) w0 hm'.2.2.2.2.2.1
  have w1 := ad8_wf a 8 (n, tp) w0
  obtain ⟨x2, e2, p2, f2⟩ := eX_add8 b w1 p1
  obtain ⟨m2, e2', p2', f2'⟩ := eM_lay b w1 p1'
  have w2 := ad8_wf b 8 _ w1
  obtain ⟨x3, e3, p3, f3⟩ := eX_add8 c w2 p2
  obtain ⟨m3, e3', p3', f3'⟩ := eM_lay c w2 p2'
  have w3 := ad8_wf c 8 _ w2
  have fx := frO_tr (frO_tr f1 f2) f3
  have fm := frO_tr (frO_tr f1' f2') f3'
  refine ⟨I (ad8 c 8 (ad8 b 8 (ad8 a 8 (n, tp)))).1, x3, m3, ?_, ?_, T, R, D, Mk, U, (ad8 c 8 (ad8 b 8 (ad8 a 8 (n, tp)))).1, (ad8 c 8 (ad8 b 8 (ad8 a 8 (n, tp)))).2, LD, LP, ⟨hw.1, hw.2.1, hw.2.2.1, hw.2.2.2.1, hw.2.2.2.2.1, w3, hw.2.2.2.2.2.2⟩, ?_, ?_⟩
  · unfold rX_feed
    rw [e1, bnd1_e, e2, bnd1_e, e3, bnd1_e, p3.1]
  · unfold rM_feed
    rw [nmE, e1', bnd1_e, e2', bnd1_e, e3', bnd1_e, p3'.1]
  · obtain ⟨a1, a2, a3, a4, a5, a6, a7, a8, a9⟩ := hx
    have g : ∀ i, i ≠ 5 → i ≠ 6 → x3.1 i = σx.1 i := fun i h1 h2 => fx.1 i (by simp; exact h2) h1
    exact ⟨XMt_fr (fun i h1 h2 => g i (by omega) (by omega)) a1, XD_fr (fun i h1 h2 => g i (by omega) (by omega)) (by rw [fx.2.2]) a2, XR_fr (by rw [g 42 (by omega) (by omega)]) (g 43 (by omega) (by omega)) (g 44 (by omega) (by omega)) a3, XK_fr (fun i h => g i (by omega) (by omega)) (fun i _ _ => by rw [fx.2.2]) a4, XU_fr (by rw [g 0 (by omega) (by omega)]) (g 1 (by omega) (by omega)) (g 2 (by omega) (by omega)) a5, p3, XL_fr (by rw [fx.2.2]) a7, XA_fr (by rw [g 49 (by omega) (by omega)]) (by rw [g 49 (by omega) (by omega)]) (g 52 (by omega) (by omega)) (g 53 (by omega) (by omega)) (g 54 (by omega) (by omega)) (g 56 (by omega) (by omega)) a8, XN_fr (by rw [fx.2.2]) a9⟩
  · obtain ⟨a1, a2, a3, a4, a5, a6, a7, a8⟩ := hm'
    have g : ∀ i, i ≠ 0 → i ≠ 1 → m3.1 i = (setI σm 0 0 0).1 i := fun i h1 h2 => fm.1 i (by simp; exact h2) h1
    exact ⟨MT_fr (g 6 (by omega) (by omega)) a1, MD_fr hw.1.1 hw.2.1.2.2.2.1 (fun q _ => by rw [g 16 (by omega) (by omega)]) a2, MR_fr (fm.2.1 27 (by decide)) (g 18 (by omega) (by omega)) a3, MK_fr hw.1.1 hw.2.2.2.1 (g 17 (by omega) (by omega)) (fun q _ _ => by rw [g 16 (by omega) (by omega)]) a4, MU_fr (fm.2.1 25 (by decide)) hw.2.2.2.2.1.1 (fun q _ _ => by rw [g 16 (by omega) (by omega)]) a5, p3', MLw_fr (g 6 (by omega) (by omega)) (g 8 (by omega) (by omega)) (g 9 (by omega) (by omega)) a7, MC_fr (g 12 (by omega) (by omega)) (g 13 (by omega) (by omega)) (by rw [fm.2.2]) a8⟩
