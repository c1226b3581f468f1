/-! all paths -/
def adR (R : Vw) (i : Nat) (w : Nat → Nat) : Vw := fun a b => if a = 0 then R 0 0 + 1 else if a = 1 then (if b = R 0 0 then i else R 1 b) else if a = 2 + R 0 0 then w b else R a b
def gn (T : Vw) : Nat → Nat → Nat → (Nat → Nat) → Vw → Vw
  | 0, i, _, w, R => if w i = T 0 0 - 1 then adR R i w else R
  | n + 1, i, ps, w, R => if w i = T 0 0 - 1 then adR R i w else fc (fun c R => if ¬ ps / 2 ^ c % 2 = 0 ∨ T 3 (7 * w i + c) = 0 then R else gn T n (i + 1) (ps ||| 2 ^ c) (updN w (i + 1) c) R) (T 0 0) R
theorem adR_0 (R : Vw) (i : Nat) (w : Nat → Nat) : adR R i w 0 0 = R 0 0 + 1 := rfl
theorem adR_1 (R : Vw) (i : Nat) (w : Nat → Nat) (p : Nat) : adR R i w 1 p = if p = R 0 0 then i else R 1 p := rfl
theorem adR_2 (R : Vw) (i : Nat) (w : Nat → Nat) (p b : Nat) : adR R i w (2 + p) b = if p = R 0 0 then w b else R (2 + p) b := by
  unfold adR
  rw [if_neg (by omega), if_neg (by omega)]
  by_cases e : p = R 0 0
  · rw [if_pos (by omega), if_pos e]
  · rw [if_neg (by omega), if_neg e]
/-- a row on its way -/
def wfw (T : Vw) (i : Nat) (w : Nat → Nat) : Prop := w 0 = 0 ∧ (∀ k, k ≤ i → w k < T 0 0) ∧ (∀ k, k < i → 0 < T 3 (7 * w k + w (k + 1)))
def wfR' (T R : Vw) : Prop := ∀ p, p < R 0 0 → R 1 p ≤ 6 ∧ (2 ≤ T 0 0 → 1 ≤ R 1 p) ∧ (∀ i, i ≤ R 1 p → R (2 + p) i < T 0 0) ∧ (∀ i, i < R 1 p → 0 < T 3 (7 * R (2 + p) i + R (2 + p) (i + 1)))
theorem adR_wf {T R : Vw} {i : Nat} {w : Nat → Nat} (hi : i ≤ 6) (hw : wfw T i w) (he : w i = T 0 0 - 1) (h : wfR' T R) : wfR' T (adR R i w) := by
  intro p hp
  rw [adR_0] at hp
  simp only [adR_1, adR_2]
  by_cases e : p = R 0 0
  · simp only [if_pos e]
    refine ⟨hi, fun h2 => ?_, hw.2.1, hw.2.2⟩
    by_cases e0 : i = 0
    · rw [e0, hw.1] at he; omega
    · omega
  · simp only [if_neg e]
    exact h p (by omega)
theorem updN_s (f : Nat → Nat) (i v : Nat) : updN f i v i = v := if_pos rfl
theorem updN_n (f : Nat → Nat) {i j : Nat} (v : Nat) (h : ¬ j = i) : updN f i v j = f j := if_neg h
theorem upd_wf {T : Vw} {i c : Nat} {w : Nat → Nat} (hw : wfw T i w) (hc : c < T 0 0) (ht : 0 < T 3 (7 * w i + c)) : wfw T (i + 1) (updN w (i + 1) c) := by
  refine ⟨by rw [updN_n _ _ (by omega)]; exact hw.1, fun k hk => ?_, fun k hk => ?_⟩
  · by_cases e : k = i + 1
    · rw [e, updN_s]; exact hc
    · rw [updN_n _ _ e]; exact hw.2.1 k (by omega)
  · rw [updN_n _ _ (show ¬ k = i + 1 by omega)]
    by_cases e : k = i
    · rw [e, updN_s]; exact ht
    · rw [updN_n _ _ (by omega)]; exact hw.2.2 k (by omega)
theorem fc_ind {β : Type} {f : Nat → β → β} {P : β → Prop} {N : Nat} (h : ∀ c b, c < N → P b → P (f c b)) : ∀ k b, k ≤ N → P b → P (fc f k b)
  | 0, _, _, hb => hb
  | k + 1, b, hk, hb => h k _ (by omega) (fc_ind h k b (by omega) hb)
theorem gn_mono {T : Vw} : ∀ (n i ps : Nat) (w : Nat → Nat) (R : Vw), R 0 0 ≤ gn T n i ps w R 0 0
  | 0, i, ps, w, R => by
    unfold gn
    split
    · rw [adR_0]; omega
    · exact Nat.le_refl _
  | n + 1, i, ps, w, R => by
    unfold gn
    split
    · rw [adR_0]; omega
    · refine fc_ind (P := fun R' : Vw => R 0 0 ≤ R' 0 0) (N := T 0 0) (fun c R' _ hR => ?_) _ _ (Nat.le_refl _) (Nat.le_refl _)
      split
      · exact hR
      · exact Nat.le_trans hR (gn_mono n _ _ _ _)
theorem gn_wf {T : Vw} : ∀ (n i ps : Nat) (w : Nat → Nat) (R : Vw), i + n = 6 → wfw T i w → wfR' T R → wfR' T (gn T n i ps w R)
  | 0, i, ps, w, R, hi, hw, hR => by
    unfold gn
    split
    · rename_i he; exact adR_wf (by omega) hw he hR
    · exact hR
  | n + 1, i, ps, w, R, hi, hw, hR => by
    unfold gn
    split
    · rename_i he; exact adR_wf (by omega) hw he hR
    · refine fc_ind (P := fun R' : Vw => wfR' T R') (N := T 0 0) (fun c R' hc hR' => ?_) _ _ (Nat.le_refl _) hR
      split
      · exact hR'
      · rename_i hno
        exact gn_wf n _ _ _ _ (by omega) (upd_wf hw hc (by omega)) hR'
theorem bit7 {m c : Nat} (hm : m < 128) (hc : c < 7) : (I m >>> (I c &&& 31)) &&& 1 = I (m / 2 ^ c % 2) ∧ I m ||| ((1 : Int32) <<< (I c &&& 31)) = I (m ||| 2 ^ c) ∧ m ||| 2 ^ c < 128 := by
  have h : ∀ m, m < 128 → ∀ c, c < 7 → (I m >>> (I c &&& 31)) &&& 1 = I (m / 2 ^ c % 2) ∧ I m ||| ((1 : Int32) <<< (I c &&& 31)) = I (m ||| 2 ^ c) ∧ m ||| 2 ^ c < 128 := by decide +kernel
  exact h m hm c hc
abbrev gX (σ τ : St) : Prop := frO [43, 44, 45] 42 [3] σ τ
theorem XMt_g {T : Vw} {σ τ : St} (h : gX σ τ) (hx : XMt T σ) : XMt T τ := XMt_fr (fun i h1 h2 => h.1 i (by simp; omega) (by omega)) hx
theorem eX_rkeep {R : Vw} {i : Nat} {w : Nat → Nat} {σ : St} (hi : i ≤ 6) (h37 : R 0 0 < 37) (hR6 : ∀ p, p < R 0 0 → R 1 p ≤ 6) (hx : XR R σ) (hrow : ∀ k, k ≤ i → σ.1 45 k = I (w k)) : ∃ τ, rX_rkeep (I i) σ = some τ ∧ XR (adR R i w) τ ∧ τ.1 45 = σ.1 45 ∧ gX σ τ := by
  unfold rX_rkeep rX_rkeep_51
  rw [hx.1, brc_f (show ¬ (37 : Int32) ≤ I (R 0 0) by rw [litN, I_le (by omega) (by omega)]; omega)]
  simp only [litN, I_mul, I_add]
  have ec : cpb (I 0) (I (R 0 0 * 7)) (I (i + 1)) 7 259 = true := by
    unfold cpb
    rw [I_toInt (by omega), I_toInt (by omega), I_toInt (by omega)]
    exact decide_eq_true ⟨by omega, by omega, by omega, by omega, by omega⟩
  rw [chk_t ec, nmE, setR_ne _ _ (show (42 : Nat) ≠ 43 by decide), hx.1, chk_t (ib_I h37 (by omega)), nmE, nmE, gI_ne1 _ _ _ (show (42 : Nat) ≠ 44 by decide), setR_ne _ _ (show (42 : Nat) ≠ 43 by decide), hx.1, I_add, I_cl (by omega), I_cl (by omega), I_cl (by omega), I_cl (by omega)]
  refine ⟨_, rfl, ⟨gI_same _ _ _ _, fun p hp => ?_⟩, ?_, frO_f (frO_c (frO_R frO_refl _ (by decide) (by decide)) _ (by decide) (by decide)) _ (by decide)⟩
  · rw [adR_0] at hp
    rw [gI_ne1 _ _ _ (show (44 : Nat) ≠ 42 by decide), gI_ne1 _ _ _ (show (43 : Nat) ≠ 42 by decide), gI_ne1 _ _ _ (show (43 : Nat) ≠ 44 by decide), setR_same]
    simp only [adR_1, adR_2]
    by_cases e : p = R 0 0
    · simp only [if_pos e]
      rw [e, gI_same]
      refine ⟨rfl, fun k hk => ?_⟩
      rw [cpy_at (by omega) (by omega), show 0 + (7 * R 0 0 + k - R 0 0 * 7) = k by omega]
      exact hrow k hk
    · simp only [if_neg e]
      rw [gI_ne2 _ _ _ e, setR_ne _ _ (show (44 : Nat) ≠ 43 by decide)]
      refine ⟨(hx.2 p (by omega)).1, fun k hk => ?_⟩
      have := hR6 p (by omega)
      rw [cpy_off (by omega)]
      exact (hx.2 p (by omega)).2 k hk
  · rw [gI_ne1 _ _ _ (by decide), gI_ne1 _ _ _ (by decide), setR_ne _ _ (by decide)]
theorem X_goOn {T : Vw} (hw : wfT T) (h1 : 1 ≤ T 0 0) : ∀ (n d i ps : Nat) (w : Nat → Nat) (R : Vw) (σ : St), i + n = 6 → n < d → ps < 128 → wfw T i w → wfR' T R → gn T n i ps w R 0 0 ≤ 37 → XMt T σ → XR R σ → (∀ k, k ≤ i → σ.1 45 k = I (w k)) → wp (rX_goOn d (I i) (I ps) σ) (fun τ => XR (gn T n i ps w R) τ ∧ (∀ k, k ≤ i → τ.1 45 k = I (w k)) ∧ gX σ τ) := by
  have h7 := hw.1
  intro n
  induction n with
  | zero =>
    intro d i ps w R σ hi hd hps hww hwR h37 hT hx hrow
    obtain ⟨d, rfl⟩ : ∃ k, d = k + 1 := ⟨d - 1, by omega⟩
    show wp (rX_goOnB (fun v2 v3 σ => lp rX_goOn_F d (v2, v3, σ)) (I i) (I ps) σ) _
    generalize (fun v2 v3 σ => lp rX_goOn_F d (v2, v3, σ) : Int32 → Int32 → St → Option St) = S
    have hwi := hww.2.1 i (Nat.le_refl _)
    unfold rX_goOnB
    rw [chk_t (ib_I (by omega) (by omega)), nmE, I_cl (by omega), hrow i (Nat.le_refl _), hT.1, I1, I_sub h1]
    unfold gn at h37 ⊢
    by_cases e : w i = T 0 0 - 1
    · rw [if_pos e] at h37 ⊢
      rw [adR_0] at h37
      rw [brc_f (show ¬ ¬ I (w i) = I (T 0 0 - 1) by rw [e]; exact fun h => h rfl)]
      obtain ⟨τ, e1, x1, x2, x3⟩ := eX_rkeep (by omega) (by omega) (fun p hp => (hwR p hp).1) hx hrow
      rw [e1, bnd1_e]
      exact wp_some ⟨x1, fun k hk => by rw [x2]; exact hrow k hk, x3⟩
    · rw [if_neg e]
      rw [brc_t (show ¬ I (w i) = I (T 0 0 - 1) by rw [I_inj (by omega) (by omega)]; exact e), I_add, brc_f (show ¬ I (i + 1) < 7 by rw [litN, I_lt (by omega) (by omega)]; omega)]
      exact wp_some ⟨hx, hrow, frO_refl⟩
  | succ n ih =>
    intro d i ps w R σ hi hd hps hww hwR h37 hT hx hrow
    obtain ⟨d, rfl⟩ : ∃ k, d = k + 1 := ⟨d - 1, by omega⟩
    obtain ⟨S, hS⟩ : ∃ S : Int32 → Int32 → St → Option St, S = fun v2 v3 σ => lp rX_goOn_F d (v2, v3, σ) := ⟨_, rfl⟩
    replace ih : ∀ (ps : Nat) (w : Nat → Nat) (R : Vw) (σ : St), ps < 128 → wfw T (i + 1) w → wfR' T R → gn T n (i + 1) ps w R 0 0 ≤ 37 → XMt T σ → XR R σ → (∀ k, k ≤ i + 1 → σ.1 45 k = I (w k)) → wp (S (I (i + 1)) (I ps) σ) (fun τ => XR (gn T n (i + 1) ps w R) τ ∧ (∀ k, k ≤ i + 1 → τ.1 45 k = I (w k)) ∧ gX σ τ) := fun ps w R σ b1 b2 b3 b4 b5 b6 b7 => by
      rw [hS]
      exact ih d (i + 1) ps w R σ (by omega) (by omega) b1 b2 b3 b4 b5 b6 b7
    show wp (rX_goOnB (fun v2 v3 σ => lp rX_goOn_F d (v2, v3, σ)) (I i) (I ps) σ) _
    rw [← hS]
    clear hS
    have hwi := hww.2.1 i (Nat.le_refl _)
    unfold rX_goOnB
    rw [chk_t (ib_I (by omega) (by omega)), nmE, I_cl (by omega), hrow i (Nat.le_refl _), hT.1, I1, I_sub h1]
    unfold gn at h37 ⊢
    by_cases e : w i = T 0 0 - 1
    · rw [if_pos e] at h37 ⊢
      rw [adR_0] at h37
      rw [brc_f (show ¬ ¬ I (w i) = I (T 0 0 - 1) by rw [e]; exact fun h => h rfl)]
      obtain ⟨τ, e1, x1, x2, x3⟩ := eX_rkeep (by omega) (by omega) (fun p hp => (hwR p hp).1) hx hrow
      rw [e1, bnd1_e]
      exact wp_some ⟨x1, fun k hk => by rw [x2]; exact hrow k hk, x3⟩
    · rw [if_neg e] at h37 ⊢
      rw [brc_t (show ¬ I (w i) = I (T 0 0 - 1) by rw [I_inj (by omega) (by omega)]; exact e), I_add, brc_t (show I (i + 1) < 7 by rw [litN, I_lt (by omega) (by omega)]; omega), nmE]
      generalize hf : (fun c R => if ¬ ps / 2 ^ c % 2 = 0 ∨ T 3 (7 * w i + c) = 0 then R else gn T n (i + 1) (ps ||| 2 ^ c) (updN w (i + 1) c) R : Nat → Vw → Vw) = f at h37 ⊢
      have fmono : ∀ c R', R' 0 0 ≤ f c R' 0 0 := fun c R' => by
        rw [← hf]
        show R' 0 0 ≤ (if ¬ ps / 2 ^ c % 2 = 0 ∨ T 3 (7 * w i + c) = 0 then R' else gn T n (i + 1) (ps ||| 2 ^ c) (updN w (i + 1) c) R') 0 0
        split
        · exact Nat.le_refl _
        · exact gn_mono _ _ _ _ _
      have fcm : ∀ m c, fc f c R 0 0 ≤ fc f (c + m) R 0 0 := by
        intro m
        induction m with
        | zero => intro c; exact Nat.le_refl _
        | succ m ihm => intro c; exact Nat.le_trans (ihm c) (fmono (c + m) _)
      refine wp_for (fun n2 a => ∃ (c : Nat) (τ : St), c + n2 = T 0 0 ∧ a = (I i, I ps, I (w i), I c, τ) ∧ wfR' T (fc f c R) ∧ XR (fc f c R) τ ∧ (∀ k, k ≤ i → τ.1 45 k = I (w k)) ∧ gX σ τ) ?_ ?_ (T 0 0) fu _ ⟨0, σ, by omega, rfl, hwR, hx, hrow, frO_refl⟩ (by unfold fu; omega)
      · rintro n2 a k ⟨c, τ, hc, rfl, wR, t1, t2, fg⟩ hk
        have hTτ := XMt_g fg hT
        have hb := bit7 hps (show c < 7 by omega)
        have ef : fc f (c + 1) R = f c (fc f c R) := rfl
        have hle : f c (fc f c R) 0 0 ≤ 37 := by
          have := fcm n2 (c + 1)
          rw [show c + 1 + n2 = T 0 0 by omega, ef] at this
          omega
        have next : ∀ υ : St, XR (f c (fc f c R)) υ → wfR' T (f c (fc f c R)) → (∀ k, k ≤ i → υ.1 45 k = I (w k)) → gX σ υ → wp (rX_goOnB_90 S (fun v2 v3 v4 v5 σ => k (v2, v3, v4, v5, σ)) (I i) (I ps) (I (w i)) (I c) υ) (fun τ => XR (fc f (T 0 0) R) τ ∧ (∀ k, k ≤ i → τ.1 45 k = I (w k)) ∧ gX σ τ) := by
          intro υ u1 u2 u3 u4
          unfold rX_goOnB_90
          rw [nmE, oi1, I_add]
          exact hk _ ⟨c + 1, υ, by omega, rfl, by rw [ef]; exact u2, by rw [ef]; exact u1, u3, u4⟩
        generalize fc f c R = R1 at *
        have efc : f c R1 = if ¬ ps / 2 ^ c % 2 = 0 ∨ T 3 (7 * w i + c) = 0 then R1 else gn T n (i + 1) (ps ||| 2 ^ c) (updN w (i + 1) c) R1 := by rw [← hf]
        show wp (rX_goOnB_37 S (fun v2 v3 v4 v5 σ => k (v2, v3, v4, v5, σ)) (I i) (I ps) (I (w i)) (I c) τ) _
        unfold rX_goOnB_37
        rw [hTτ.1, brc_f (show ¬ I (T 0 0) ≤ I c by rw [I_le (by omega) (by omega)]; omega), hb.1]
        have hq := (hw.2.2.2.2.2.2.1 (7 * w i + c) (by omega)).1
        by_cases b0 : ps / 2 ^ c % 2 = 0
        · rw [brc_f (show ¬ ¬ I (ps / 2 ^ c % 2) = 0 by rw [b0]; exact fun h => h rfl), eX_hasWay _ (by omega) (by omega), bnd2_e, (hTτ.2.2.2.2.2.2.2.1 (7 * w i + c) (by omega)).1]
          by_cases t0 : T 3 (7 * w i + c) = 0
          · rw [if_pos (Or.inr t0)] at efc
            rw [b01_f (show ¬ 0 < I (T 3 (7 * w i + c)) by rw [t0]; decide), brc_t rfl]
            exact next τ (by rw [efc]; exact t1) (by rw [efc]; exact wR) t2 fg
          · rw [if_neg (by omega)] at efc
            rw [b01_t (show 0 < I (T 3 (7 * w i + c)) by rw [I0, I_lt (by omega) (by omega)]; omega), brc_f b01_1, I1, I_add, chk_t (ib_I (by omega) (by omega)), nmE, I_cl (by omega), show I ps ||| (I 1 <<< (I c &&& 31)) = I (ps ||| 2 ^ c) from hb.2.1]
            have hwu := upd_wf hww (show c < T 0 0 by omega) (show 0 < T 3 (7 * w i + c) by omega)
            rw [efc] at hle
            have f1 : gX τ (setI τ 45 (i + 1) (I c)) := frO_c frO_refl _ (by decide) (by decide)
            refine wp_bnd1 (wp_mono (ih (ps ||| 2 ^ c) (updN w (i + 1) c) R1 (setI τ 45 (i + 1) (I c)) hb.2.2 hwu wR hle (XMt_g f1 hTτ) (XR_fr (by rw [gI_ne1 _ _ _ (by decide)]) (gI_ne1 _ _ _ (by decide)) (gI_ne1 _ _ _ (by decide)) t1) (fun q hq' => ?_)) ?_)
            · unfold updN
              by_cases e2 : q = i + 1
              · rw [if_pos e2, e2, gI_same]
              · rw [if_neg e2, gI_ne2 _ _ _ e2]; exact t2 q (by omega)
            · rintro ω ⟨w1, w2, f3⟩
              refine next ω (by rw [efc]; exact w1) (by rw [efc]; exact gn_wf n _ _ _ _ (by omega) hwu wR) (fun q hq' => ?_) (frO_tr (frO_tr fg f1) f3)
              rw [w2 q (by omega)]
              unfold updN
              rw [if_neg (by omega)]
        · rw [if_pos (Or.inl b0)] at efc
          rw [brc_t (show ¬ I (ps / 2 ^ c % 2) = 0 by rw [I0, I_inj (by omega) (by omega)]; exact b0)]
          exact next τ (by rw [efc]; exact t1) (by rw [efc]; exact wR) t2 fg
      · rintro a k ⟨c, τ, hc, rfl, wR, t1, t2, fg⟩
        have hTτ := XMt_g fg hT
        show wp (rX_goOnB_37 S (fun v2 v3 v4 v5 σ => k (v2, v3, v4, v5, σ)) (I i) (I ps) (I (w i)) (I c) τ) _
        unfold rX_goOnB_37
        rw [hTτ.1, brc_t (show I (T 0 0) ≤ I c by rw [I_le (by omega) (by omega)]; omega)]
        rw [show c = T 0 0 by omega] at t1
        exact wp_some ⟨t1, t2, fg⟩
def R00 (T : Vw) : Vw := if T 0 0 = 0 then zV else gn T 6 0 1 (fun _ => 0) zV
theorem zV_wf (T : Vw) : wfR' T zV := fun p hp => absurd hp (Nat.not_lt_zero _)
theorem R00_wf {T : Vw} (h37 : R00 T 0 0 ≤ 37) : wfR T (R00 T) := by
  refine ⟨h37, ?_⟩
  have : wfR' T (R00 T) := by
    unfold R00
    split
    · exact zV_wf T
    · rename_i h0
      exact gn_wf 6 0 1 _ _ (by omega) ⟨rfl, fun k _ => by show 0 < T 0 0; omega, fun k hk => absurd hk (Nat.not_lt_zero _)⟩ (zV_wf T)
  exact this
theorem eX_rfind {T : Vw} {σ : St} (hw : wfT T) (h37 : R00 T 0 0 ≤ 37) (hT : XMt T σ) : wp (rX_rfind σ) (fun τ => XR (R00 T) τ ∧ gX σ τ) := by
  unfold rX_rfind rX_rfind_26
  have f1 : gX σ (setI σ 42 3 0) := frO_f frO_refl _ (by decide)
  rw [nmE, gI_ne1 _ _ _ (show (23 : Nat) ≠ 42 by decide), hT.1]
  by_cases h0 : T 0 0 = 0
  · rw [brc_t (show I (T 0 0) ≤ 0 by rw [h0]; decide)]
    unfold R00
    rw [if_pos h0]
    exact wp_some ⟨⟨gI_same _ _ _ _, fun p hp => absurd hp (Nat.not_lt_zero _)⟩, f1⟩
  · have h7 := hw.1
    rw [brc_f (show ¬ I (T 0 0) ≤ 0 by rw [I0, I_le (by omega) (by omega)]; omega), show ib (0 : Int32) 7 = true from rfl, chk_e, nmE, show (0 : Int32).toNatClampNeg = 0 from rfl]
    unfold R00 at h37 ⊢
    rw [if_neg h0] at h37 ⊢
    have f2 : gX σ (setI (setI σ 42 3 0) 45 0 0) := frO_c f1 _ (by decide) (by decide)
    refine wp_bnd1 (wp_mono (X_goOn hw (by omega) 6 9 0 1 (fun _ => 0) zV _ (by omega) (by omega) (by omega) ⟨rfl, fun k _ => by show 0 < T 0 0; omega, fun k hk => absurd hk (Nat.not_lt_zero _)⟩ (zV_wf T) h37 (XMt_g f2 hT) ⟨by rw [gI_ne1 _ _ _ (by decide), gI_same]; rfl, fun p hp => absurd hp (Nat.not_lt_zero _)⟩ (fun k hk => ?_)) ?_)
    · have : k = 0 := by omega
      rw [this, gI_same]; rfl
    · rintro τ ⟨x1, -, f3⟩
      exact wp_some ⟨x1, frO_tr f2 f3⟩
