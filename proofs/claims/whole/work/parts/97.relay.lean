/-! relay -/
theorem rlA_0 {T D R : Vw} {LD LP : List Nat} (hw : wfW T D R LD LP) (hS : 2 ≤ T 0 0) (h0 : T 0 2 = 0) (ld : Nat) : ∀ p, p ≤ R 0 0 → rlA T D R LD ld p = (0, 0, fun _ => 0)
  | 0, _ => rfl
  | p + 1, hp => by
    have hr := (hw.2.2.2.2 p (by omega)).2.1 hS
    unfold rlA
    obtain ⟨n, hn⟩ : ∃ n, R 1 p = n + 1 := ⟨R 1 p - 1, by omega⟩
    rw [hn, rl, h0]
    exact rlA_0 hw hS h0 ld p (by omega)
theorem GX_y {T R D Mk U : Vw} {n : Nat} {tp : Nat → Nat} {LD LP : List Nat} {σ τ : St} {ld : Nat} (hl : ld ≤ 60) (h : yX σ τ) (ha : XAr T (dn D) R LD ld τ) (hx : GX T R D Mk U n tp LD LP σ) : GX T R D Mk U n tp LD LP τ := by
  obtain ⟨a1, a2, a3, a4, a5, a6, a7, a8, a9⟩ := hx
  have g : ∀ i, i ∉ [46, 47, 48, 54, 55, 56] → τ.1 i = σ.1 i := fun i hi => h.1 i (by simp at hi ⊢; omega) (by simp at hi; omega)
  refine ⟨XMt_fr (fun i h1 h2 => g i (by simp; omega)) a1, XD_fr (fun i h1 h2 => g i (by simp; omega)) (by rw [h.2.2]) a2, XR_fr (by rw [g 42 (by decide)]) (g 43 (by decide)) (g 44 (by decide)) a3, XK_fr (fun i h1 => g i (by simp; omega)) (fun i _ _ => by rw [h.2.2]) a4, XU_fr (by rw [g 0 (by decide)]) (g 1 (by decide)) (g 2 (by decide)) a5, XP_fr (by rw [g 5 (by decide)]) (g 6 (by decide)) a6, XL_fr (by rw [h.2.2]) a7, ⟨?_, Or.inr ⟨ha.1, ld, hl, ha.2.1, ha.2.2.1, ha.2.2.2.1, ha.2.2.2.2⟩⟩, XN_fr (by rw [h.2.2]) a9⟩
  rw [g 49 (by decide), g 52 (by decide), g 53 (by decide)]
  exact a8.1
theorem eX_hmakeSure {T D R : Vw} {LD LP : List Nat} (hw : wfW T D R LD LP) (hS : 2 ≤ T 0 0) {ld : Nat} (hl : ld ≤ 60) {σ : St} (hW : WX T D R LD LP σ) (hs : XA T D R LD σ) : wp (rX_hmakeSure (I ld) σ) (fun τ => XAr T D R LD ld τ ∧ yX σ τ) := by
  unfold rX_hmakeSure
  rcases hs.2 with h0 | ⟨h1, l2, b2, b3, b4, b5, b6⟩
  · rw [h0, brc_t rfl]
    exact X_relay hw hS hl hW
  · rw [h1, brc_f b01_1, b3]
    by_cases e : l2 = ld
    · rw [brc_f (show ¬ ¬ I l2 = I ld by rw [e]; exact fun h => h rfl)]
      subst e
      exact wp_some ⟨⟨h1, b3, b4, b5, b6⟩, frO_refl⟩
    · rw [brc_t (show ¬ I l2 = I ld by rw [I_inj (by omega) (by omega)]; exact e)]
      exact X_relay hw hS hl hW
/-- the answer of a relay -/
def reA (R : Vw) (B : RB) (z : Nat) : Int32 := if B.1 = 0 then -1 else if z = 0 then nz B.1 else if z = 1 then nz B.2.1 else if z - 2 < R 1 (B.2.1 - 1) then I (B.2.2 (z - 2)) else -1
theorem X_ans {T D R : Vw} {LD LP : List Nat} (hw : wfW T D R LD LP) {ld : Nat} (hl : ld ≤ 60) {τ : St} (hW : WX T D R LD LP τ) (ha : XAr T D R LD ld τ) {z : Nat} (hz : z < 2147483648) : brc ((I z).toInt = 0) (some (τ.1 54 8, τ)) (brc ((I z).toInt = 1) (some (τ.1 54 7, τ)) (bnd2 (rX_holderOn (I z - (2 : Int32)) τ) fun r_7 σ_5 => some (r_7, σ_5))) = some (reA R (rlA T D R LD ld (R 0 0)) z, τ) := by
  obtain ⟨w1, w2, w3⟩ := rlA_wf (T := T) (D := D) (R := R) (LD := LD) (ld := ld) (by omega) (R 0 0) (Nat.le_refl _)
  have r1 := hw.2.2.2.1
  obtain ⟨-, -, a8, a7, a56⟩ := ha
  generalize rlA T D R LD ld (R 0 0) = B at *
  unfold reA
  rw [a8, a7, I_toInt hz]
  by_cases z0 : z = 0
  · rw [brc_t (by omega), if_pos z0]
    by_cases hb : B.1 = 0
    · rw [if_pos hb, hb]; rfl
    · rw [if_neg hb]
  · rw [brc_f (by omega), if_neg z0]
    by_cases z1 : z = 1
    · rw [brc_t (by omega), if_pos z1]
      by_cases hb : B.1 = 0
      · rw [if_pos hb, w3.mp hb]; rfl
      · rw [if_neg hb]
    · rw [brc_f (by omega), if_neg z1]
      unfold rX_holderOn rX_holderOn_27
      rw [a7]
      by_cases hb : B.1 = 0
      · rw [brc_t ((nz_eq1 (by omega)).mpr (w3.mp hb)), bnd2_e, if_pos hb]
      · have hb2 : ¬ B.2.1 = 0 := fun h => hb (w3.mpr h)
        have en : nz B.2.1 = I (B.2.1 - 1) := if_neg hb2
        have ra := (hw.2.2.2.2 (B.2.1 - 1) (by omega)).1
        rw [brc_f (fun h => hb2 ((nz_eq1 (by omega)).mp h)), litN, I_sub (by omega), brc_f (show ¬ I (z - 2) < 0 by rw [I0, I_lt (by omega) (by omega)]; omega), en, eX_rlastOf hW.2.2.2.2 r1 (by omega), bnd2_e, if_neg hb]
        by_cases hk : z - 2 < R 1 (B.2.1 - 1)
        · rw [brc_t (show I (z - 2) < I (R 1 (B.2.1 - 1)) by rw [I_lt (by omega) (by omega)]; exact hk), chk_t (ib_I (by omega) (by omega)), bnd2_e, I_cl (by omega), a56 _ hk hb2, if_pos hk]
        · rw [brc_f (show ¬ I (z - 2) < I (R 1 (B.2.1 - 1)) by rw [I_lt (by omega) (by omega)]; exact hk), bnd2_e, if_neg hk]
theorem M_relay {T D R : Vw} {LD LP : List Nat} (hw : wfW T D R LD LP) (hS : 2 ≤ T 0 0) {ld : Nat} (hl : ld ≤ 60) {z : Nat} (hz : z < 2147483648) {σ : St} (hW : WM T D R LD LP σ) (h42 : σ.1 0 42 = -1) : wp (lp rM_relay_51L fu (I ld, I z, I 0, σ)) (fun r => r.1 = reA R (rlA T D R LD ld (R 0 0)) z ∧ hM σ r.2) := by
  have h37 := hw.2.2.2.1
  refine wp_for (fun n a => ∃ (p : Nat) (τ : St), p + n = R 0 0 ∧ a = (I ld, I z, I p, τ) ∧ atRM R (rlA T D R LD ld p) τ ∧ hM σ τ) ?_ ?_ (R 0 0) fu _ ⟨0, σ, by omega, rfl, ⟨h42, fun h => absurd rfl h, fun k _ h => absurd rfl h⟩, frO_refl⟩ (by unfold fu; omega)
  · rintro n a k ⟨p, τ, hp, rfl, t1, f⟩ hk
    have hp' : p < R 0 0 := by omega
    have hWτ := WM_h f hW
    obtain ⟨ra, rb, -⟩ := hw.2.2.2.2 p hp'
    show wp (rM_relay_51 (fun v1 v2 v3 σ => k (v1, v2, v3, σ)) (I ld) (I z) (I p) τ) _
    unfold rM_relay_51
    rw [hWτ.2.2.2.2.1, brc_f (show ¬ I (R 0 0) ≤ I p by rw [I_le (by omega) (by omega)]; omega)]
    refine wp_bnd1 (wp_mono (M_try hw hp' (R 1 p) 9 0 99 0 ld 0 (fun _ => 0) (rlA T D R LD ld p) τ (by omega) (by omega) (Or.inl ⟨rfl, rfl⟩) (Or.inl rfl) (by omega) (by omega) (by omega) (rlA_wf (by omega) p (by omega)) hWτ t1 (fun k hk => absurd hk (Nat.not_lt_zero _))) ?_)
    rintro υ ⟨u1, -, f2⟩
    rw [nmE, oi1, I_add]
    exact hk _ ⟨p + 1, υ, by omega, rfl, u1, frO_tr f f2⟩
  · rintro a k ⟨p, τ, hp, rfl, t1, f⟩
    have hWτ := WM_h f hW
    obtain ⟨w1, w2, w3⟩ := rlA_wf (T := T) (D := D) (R := R) (LD := LD) (ld := ld) (by omega) (R 0 0) (Nat.le_refl _)
    rw [show p = R 0 0 by omega] at t1 ⊢
    show wp (rM_relay_51 (fun v1 v2 v3 σ => k (v1, v2, v3, σ)) (I ld) (I z) (I (R 0 0)) τ) _
    unfold rM_relay_51 rM_relay_134
    rw [hWτ.2.2.2.2.1, brc_t (show I (R 0 0) ≤ I (R 0 0) by rw [I_le (by omega) (by omega)]; omega), t1.1]
    generalize rlA T D R LD ld (R 0 0) = B at *
    unfold reA
    by_cases hb : B.1 = 0
    · rw [hb, if_pos rfl, brc_f (by decide)]
      exact wp_some ⟨rfl, f⟩
    · have hb2 : ¬ B.2.1 = 0 := fun h => hb (w3.mpr h)
      have en1 : nz B.1 = I (B.1 - 1) := if_neg hb
      have en : nz B.2.1 = I (B.2.1 - 1) := if_neg hb2
      have ra := (hw.2.2.2.2 (B.2.1 - 1) (by omega)).1
      rw [if_neg hb, en1, brc_t (show 0 ≤ I (B.1 - 1) by rw [I0, I_le (by omega) (by omega)]; omega), t1.2.1 hb2, en]
      by_cases z0 : z = 0
      · rw [if_pos z0, brc_f (show ¬ ¬ I z = 0 by rw [z0]; exact fun h => h rfl)]
        exact wp_some ⟨rfl, f⟩
      · rw [if_neg z0, brc_t (show ¬ I z = 0 by rw [I0, I_inj (by omega) (by omega)]; exact z0)]
        by_cases z1 : z = 1
        · rw [if_pos z1, brc_f (show ¬ ¬ I z = 1 by rw [z1]; exact fun h => h rfl)]
          exact wp_some ⟨rfl, f⟩
        · rw [if_neg z1, brc_t (show ¬ I z = 1 by rw [I1, I_inj (by omega) (by omega)]; exact z1), eM_lengthOf hWτ.2.2.2.2 h37 (show B.2.1 - 1 < R 0 0 by omega), bnd2_e, I1, I_sub (by omega), Nat.add_sub_cancel, litN, I_sub (by omega)]
          by_cases hk : z - 2 < R 1 (B.2.1 - 1)
          · rw [brc_f (show ¬ I (R 1 (B.2.1 - 1)) ≤ I (z - 2) by rw [I_le (by omega) (by omega)]; omega), chk_t (ib_I (by omega) (by omega)), I_cl (by omega), t1.2.2 _ hk hb2, if_pos hk]
            exact wp_some ⟨rfl, f⟩
          · rw [brc_t (show I (R 1 (B.2.1 - 1)) ≤ I (z - 2) by rw [I_le (by omega) (by omega)]; omega), if_neg hk]
            exact wp_some ⟨rfl, f⟩
theorem po_relay : PO_relay Inv := by
  intro σx σm h v w
  obtain ⟨T, R, D, Mk, U, n, tp, LD, LP, hw, hx, hm⟩ := h
  have hm' := GM_0 hw 0 hm
  have h6 := hw.1.2.1
  have h7 := hw.1.1
  have no : rX_relay v w σx = some (-1, σx) → rM_relay v w σm = some (-1, setI σm 0 0 0) → ∃ (r : Int32) (x m : St), rX_relay v w σx = some (r, x) ∧ rM_relay v w σm = some (r, m) ∧ Inv x m := fun e1 e2 => ⟨-1, _, _, e1, e2, T, R, D, Mk, U, n, tp, LD, LP, hw, hx, hm'⟩
  by_cases hv : 0 ≤ v ∧ v ≤ 60
  · obtain ⟨ld, rfl, hld⟩ := I_of hv.1
    have hl : ld ≤ 60 := by
      have := hv.2
      rw [litN, I_le hld (by omega)] at this
      exact this
    have b1 : ¬ I ld < 0 := not_lt32.mpr hv.1
    have b2 : ¬ (60 : Int32) < I ld := not_lt32.mpr hv.2
    by_cases hz : w < 0
    · refine no ?_ ?_
      · unfold rX_relay rX_relay_36
        rw [brc_f b1, brc_f b2, brc_t hz]
      · unfold rM_relay rM_relay_42
        rw [nmE, eM_within, bnd2_e, b01_t hv, brc_f b01_1, brc_t hz]
    · obtain ⟨z, rfl, hz2⟩ := I_of (not_lt32.mp hz)
      by_cases hS : 2 ≤ T 0 0
      · by_cases h4 : T 0 2 ≤ 4
        · have hW := GW_W hw
          obtain ⟨τ, e1, ha, f1⟩ := eX_hmakeSure (wfW_dn hW) hS hl (WX_dn (GX_W hx)) hx.2.2.2.2.2.2.2.1
          have hxτ := GX_y hl f1 ha hx
          have eX : rX_relay (I ld) (I z) σx = some (reA R (rlA T (dn D) R LD ld (R 0 0)) z, τ) := by
            unfold rX_relay
            rw [brc_f b1, brc_f b2, brc_f hz, hx.1.1, brc_f (show ¬ I (T 0 0) < 2 by rw [litN, I_lt (by omega) (by omega)]; omega), hx.1.2.2.1, brc_t (show I (T 0 2) ≤ 4 by rw [litN, I_le (by omega) (by omega)]; exact h4), e1, bnd1_e]
            exact X_ans (wfW_dn hW) hl (WX_y f1 (WX_dn (GX_W hx))) ha hz2
          by_cases h0 : T 0 2 = 0
          · refine ⟨-1, τ, setI σm 0 0 0, ?_, ?_, T, R, D, Mk, U, n, tp, LD, LP, hw, hxτ, hm'⟩
            · rw [eX, rlA_0 (wfW_dn hW) hS h0 ld _ (Nat.le_refl _)]
              rfl
            · unfold rM_relay rM_relay_42
              rw [nmE, eM_within, bnd2_e, b01_t hv, brc_f b01_1, brc_f hz, eM_carriers, bnd2_e, hm'.1.2.2.1, brc_t (show I (T 0 2) = 0 by rw [h0]; rfl)]
          · have f0 : hM (setI σm 0 0 0) (setI (setI σm 0 0 0) 0 42 (-1)) := frO_f frO_refl _ (by decide)
            obtain ⟨⟨r, υ⟩, e2, er, f2⟩ := M_relay (wfW_dn hW) hS hl hz2 (WM_h f0 (WM_dn (GM_W hm'))) (gI_same _ _ _ _)
            simp only at er f2
            have eM : rM_relay (I ld) (I z) σm = some (r, υ) := by
              unfold rM_relay
              rw [nmE, eM_within, bnd2_e, b01_t hv, brc_f b01_1, brc_f hz, eM_carriers, bnd2_e, hm'.1.2.2.1, brc_f (show ¬ I (T 0 2) = 0 by rw [I0, I_inj (by omega) (by omega)]; exact h0), eM_carriers, bnd2_e, hm'.1.2.2.1, brc_f (show ¬ (4 : Int32) < I (T 0 2) by rw [litN, I_lt (by omega) (by omega)]; omega), eM_stations, bnd2_e, hm'.1.1, brc_t (show (2 : Int32) ≤ I (T 0 0) by rw [litN, I_le (by omega) (by omega)]; exact hS), nmE, nmE]
              exact e2
            refine ⟨r, τ, υ, by rw [eX, er], eM, T, R, D, Mk, U, n, tp, LD, LP, hw, hxτ, GM_s hw (frO_mono (fun i h => by revert h; simp [scM]; omega) (fun i h => by revert h; simp [scF]; omega) (frO_tr f0 f2)) hm'⟩
        · refine no ?_ ?_
          · unfold rX_relay rX_relay_36
            rw [brc_f b1, brc_f b2, brc_f hz, hx.1.1, brc_f (show ¬ I (T 0 0) < 2 by rw [litN, I_lt (by omega) (by omega)]; omega), hx.1.2.2.1, brc_f (show ¬ I (T 0 2) ≤ 4 by rw [litN, I_le (by omega) (by omega)]; exact h4)]
          · unfold rM_relay rM_relay_42
            rw [nmE, eM_within, bnd2_e, b01_t hv, brc_f b01_1, brc_f hz, eM_carriers, bnd2_e, hm'.1.2.2.1, brc_f (show ¬ I (T 0 2) = 0 by rw [I0, I_inj (by omega) (by omega)]; omega), eM_carriers, bnd2_e, hm'.1.2.2.1, brc_t (show (4 : Int32) < I (T 0 2) by rw [litN, I_lt (by omega) (by omega)]; omega)]
      · refine no ?_ ?_
        · unfold rX_relay rX_relay_36
          rw [brc_f b1, brc_f b2, brc_f hz, hx.1.1, brc_t (show I (T 0 0) < 2 by rw [litN, I_lt (by omega) (by omega)]; omega)]
        · unfold rM_relay rM_relay_42
          rw [nmE, eM_within, bnd2_e, b01_t hv, brc_f b01_1, brc_f hz, eM_carriers, bnd2_e, hm'.1.2.2.1]
          by_cases h0 : I (T 0 2) = 0
          · rw [brc_t h0]
          · rw [brc_f h0, eM_carriers, bnd2_e, hm'.1.2.2.1]
            by_cases h4 : (4 : Int32) < I (T 0 2)
            · rw [brc_t h4]
            · rw [brc_f h4, eM_stations, bnd2_e, hm'.1.1, brc_f (show ¬ (2 : Int32) ≤ I (T 0 0) by rw [litN, I_le (by omega) (by omega)]; exact hS)]
  · refine no ?_ ?_
    · unfold rX_relay rX_relay_36
      by_cases h0 : v < 0
      · rw [brc_t h0]
      · rw [brc_f h0, brc_t (not_le32.mp (fun h => hv ⟨not_lt32.mp h0, h⟩))]
    · unfold rM_relay rM_relay_42
      rw [nmE, eM_within, bnd2_e, b01_f hv, brc_t rfl]
