/-! the price; send -/
def fxP (D : Vw) : Nat → Int32 := fun k => if k = 5 then I (D 4 3) else I (D 4 4)
def prc (D : Vw) (LP : List Nat) : Nat := min (lvR (fxP D) LP 0 (fun _ => 0)).toNatClampNeg 99
theorem clampP (r : Int32) : (if (0 : Int32) < (if (99 : Int32) < r then (99 : Int32) else r) then (if (99 : Int32) < r then (99 : Int32) else r) else (0 : Int32)) = I (min r.toNatClampNeg 99) := by
  by_cases h : 0 ≤ r
  · obtain ⟨n, rfl, hn⟩ := I_of h
    rw [I_cl hn, litN 99]
    by_cases h1 : 99 < n
    · rw [if_pos (show I 99 < I n by rw [I_lt (by omega) hn]; exact h1), if_pos (show (0 : Int32) < I 99 by decide), Nat.min_eq_right (by omega)]
    · rw [if_neg (show ¬ I 99 < I n by rw [I_lt (by omega) hn]; exact h1), Nat.min_eq_left (by omega)]
      by_cases h2 : n = 0
      · rw [h2]; rfl
      · rw [if_pos (show (0 : Int32) < I n by rw [I0, I_lt (by omega) hn]; omega)]
  · have h1 : r < 0 := not_le32.mp h
    have h2 : ¬ (99 : Int32) < r := by
      rw [Int32.lt_iff_toInt_lt, show (0 : Int32).toInt = 0 from rfl] at h1
      rw [Int32.lt_iff_toInt_lt, show (99 : Int32).toInt = 99 from rfl]
      omega
    have h3 : r.toNatClampNeg = 0 := by
      rw [Int32.lt_iff_toInt_lt, show (0 : Int32).toInt = 0 from rfl] at h1
      show r.toInt.toNat = 0
      omega
    rw [if_neg h2, if_neg (fun h9 => h (by
      rw [Int32.lt_iff_toInt_lt] at h9
      rw [Int32.le_iff_toInt_le]
      omega)), h3]
    rfl
theorem eX_priceNow {n : Nat} {D : Vw} {LD LP : List Nat} {σ : St} (hD : XD 33 n D σ) (hwl : wfL LD LP) (hL : XL LD LP σ) : ∃ τ, rX_priceNow σ = some (I (prc D LP), τ) ∧ frO [47, 48] 46 [] σ τ := by
  obtain ⟨y1, y2, y3, y4, y5, y6, y7, y8, y9, y10, y11⟩ := hD
  unfold rX_priceNow
  rw [show ib (5 : Int32) 7 = true from rfl, chk_e, nmE, show ib (6 : Int32) 7 = true from rfl, chk_e, nmE, show (5 : Int32).toNatClampNeg = 5 from rfl, show (6 : Int32).toNatClampNeg = 6 from rfl, gI_ne1 _ _ _ (show (33 : Nat) ≠ 47 by decide), y5, y6]
  generalize hσ1 : setI (setI σ 47 5 (I (D 4 3))) 47 6 (I (D 4 4)) = σ1
  have f1 : frO [47, 48] 46 [] σ σ1 := by
    rw [← hσ1]
    exact frO_c (frO_c frO_refl _ (by decide) (by decide)) _ (by decide) (by decide)
  have hL1 := XL_fr (τ := σ1) (by rw [f1.2.2]) hL
  obtain ⟨g, hg⟩ := eX_valueOf (by decide) hL1.2.2.1 hwl.2.2.1 hwl.2.2.2 hL1.2.2.2
  have hfx : ∀ k, 5 ≤ k → k < 7 → σ1.1 47 k = fxP D k := fun k h1 h2 => by
    have : k = 5 ∨ k = 6 := by omega
    rw [← hσ1]
    rcases this with rfl | rfl
    · rw [gI_ne2 _ _ _ (by decide), gI_same]; rfl
    · rw [gI_same]; rfl
  rw [hg, bnd2_e, lvR_congr (by decide) hfx LP 0 _ (fun _ => 0) hwl.2.2.1 (fun _ _ => rfl), clampP]
  exact ⟨_, rfl, frO_R f1 _ (by decide) (by decide)⟩
theorem eM_priceNow {n : Nat} {D : Vw} {LD LP : List Nat} {σ : St} (hD : MD 0 n D σ) (hwl : wfL LD LP) (hL : MLw LD LP σ) : ∃ τ, rM_priceNow σ = some (I (prc D LP), τ) ∧ frO [14, 15] 0 [] σ τ := by
  have y := MD0 hD
  unfold rM_priceNow rM_priceNow_70
  rw [show ib (7 : Int32) 320 = true from rfl, chk_e, show (7 : Int32).toNatClampNeg = 7 from rfl]
  rcases hL.2 with ⟨h1, h2⟩ | ⟨a, ha, h1, h2⟩
  · rw [h1, brc_f (by decide)]
    refine ⟨σ, ?_, frO_refl⟩
    have : prc D LP = 1 := by rw [h2]; rfl
    rw [this]; rfl
  · rw [h1, brc_t (show 0 ≤ I a by rw [I0, I_le (by omega) (by omega)]; omega), show ib (38 : Int32) 6000 = true from rfl, chk_e, show ib (0 : Int32) 5 = true from rfl, chk_e, nmE, show ib (40 : Int32) 6000 = true from rfl, chk_e, show ib (1 : Int32) 5 = true from rfl, chk_e, nmE, chk_e, show (38 : Int32).toNatClampNeg = 38 from rfl, show (40 : Int32).toNatClampNeg = 40 from rfl, show (0 : Int32).toNatClampNeg = 0 from rfl, show (1 : Int32).toNatClampNeg = 1 from rfl, gI_ne1 _ _ _ (show (16 : Nat) ≠ 14 by decide), y.2.2.2.2.1, y.2.2.2.2.2.1, gI_ne1 _ _ _ (show (6 : Nat) ≠ 14 by decide), gI_ne1 _ _ _ (show (6 : Nat) ≠ 14 by decide), h1]
    generalize hσ1 : setI (setI σ 14 0 (I (D 4 3))) 14 1 (I (D 4 4)) = σ1
    have f1 : frO [14, 15] 0 [] σ σ1 := by
      rw [← hσ1]
      exact frO_c (frO_c frO_refl _ (by decide) (by decide)) _ (by decide) (by decide)
    have hml : ML 5 σ1 a LP := ML_fr (f1.1 8 (by decide) (by decide)) (f1.1 9 (by decide) (by decide)) LP a h2
    obtain ⟨g, hg⟩ := eM_worthAt (σ := σ1) (b := 5) (by decide) (by decide) (by decide) hwl.2.2.1 hwl.2.2.2 hml
    have hfx : ∀ k, 5 ≤ k → k < 7 → σ1.1 14 (k - 5) = fxP D k := fun k h1 h2 => by
      have : k = 5 ∨ k = 6 := by omega
      rw [← hσ1]
      rcases this with rfl | rfl
      · rw [gI_ne2 _ _ _ (by decide), gI_same]; rfl
      · rw [gI_same]; rfl
    rw [hg, bnd2_e, lvR_congr (by decide) hfx LP 0 _ (fun _ => 0) hwl.2.2.1 (fun _ _ => rfl), nmE]
    have ep : prc D LP = min (lvR (fxP D) LP 0 (fun _ => 0)).toNatClampNeg 99 := by unfold prc; rfl
    rw [ep]
    generalize lvR (fxP D) LP 0 (fun _ => 0) = r
    refine ⟨setR σ1 15 g, ?_, frO_R f1 _ (by decide) (by decide)⟩
    by_cases h : 0 ≤ r
    · obtain ⟨n, rfl, hn⟩ := I_of h
      rw [brc_t h, I_cl hn]
      by_cases h3 : n ≤ 99
      · rw [brc_t (show I n ≤ 99 by rw [litN, I_le hn (by omega)]; exact h3), Nat.min_eq_left h3]
      · rw [brc_f (show ¬ I n ≤ 99 by rw [litN, I_le hn (by omega)]; exact h3), Nat.min_eq_right (by omega)]; rfl
    · rw [brc_f h]
      have h3 : r.toNatClampNeg = 0 := by
        rw [Int32.le_iff_toInt_le, show (0 : Int32).toInt = 0 from rfl] at h
        show r.toInt.toNat = 0
        omega
      rw [h3]; rfl
/-- a sent skin: left, minutes, the day -/
def sdS (T D R : Vw) (LD : List Nat) (c p i : Nat) (t : Nat × Nat × Vw) : Nat × Nat × Vw :=
  if i + 1 < R 1 p then
    (gtL T t.2.2 c (R (2 + p) (i + 1)) (t.1 - drp T (D 4 5) c (trQ R p i) t.1) + gtF T t.2.2 c (R (2 + p) (i + 1)) (t.1 - drp T (D 4 5) c (trQ R p i) t.1) - drk T D LD c (R (2 + p) (i + 1)) (gtL T t.2.2 c (R (2 + p) (i + 1)) (t.1 - drp T (D 4 5) c (trQ R p i) t.1) + gtF T t.2.2 c (R (2 + p) (i + 1)) (t.1 - drp T (D 4 5) c (trQ R p i) t.1)) (t.2.1 + mns T c (trQ R p i)),
      t.2.1 + mns T c (trQ R p i),
      wrV (gtV T t.2.2 c (R (2 + p) (i + 1)) (t.1 - drp T (D 4 5) c (trQ R p i) t.1)) c (R (2 + p) (i + 1)) (drk T D LD c (R (2 + p) (i + 1)) (gtL T t.2.2 c (R (2 + p) (i + 1)) (t.1 - drp T (D 4 5) c (trQ R p i) t.1) + gtF T t.2.2 c (R (2 + p) (i + 1)) (t.1 - drp T (D 4 5) c (trQ R p i) t.1)) (t.2.1 + mns T c (trQ R p i))))
  else (t.1 - drp T (D 4 5) c (trQ R p i) t.1, t.2.1 + mns T c (trQ R p i), t.2.2)
def sd (T D R : Vw) (LD : List Nat) (c p ld : Nat) : Nat → Nat × Nat × Vw
  | 0 => (ld, 0, D)
  | i + 1 => sdS T D R LD c p i (sd T D R LD c p ld i)
theorem gt_le (T D : Vw) (c s l : Nat) : gtL T D c s l + gtF T D c s l ≤ hol T c := by
  have h1 : gtL T D c s l ≤ hol T c := by unfold gtL; exact Nat.min_le_right _ _
  have h2 : gtF T D c s l ≤ hol T c - gtL T D c s l := by unfold gtF; exact Nat.min_le_right _ _
  omega
theorem gtV_wf {T D : Vw} (n : Nat) (h : wfD n D) (c s l : Nat) : wfD n (gtV T D c s l) := by
  obtain ⟨d1, d2, d3, d4, d5, d6⟩ := h
  have o1 := gtV_o T D c s l
  have o2 := gtV_g T D c s l
  have o3 := gtV_3 T D c s l
  refine ⟨by rw [o1 4 5 (by omega) (by omega)]; exact d1, by rw [o1 4 6 (by omega) (by omega)]; exact d2, ?_, by rw [o1 4 2 (by omega) (by omega)]; exact d4, by rw [o1 4 0 (by omega) (by omega)]; exact d5, fun x hx => ?_⟩
  · rw [o2]
    unfold fgG
    split
    · exact nxG_lt _
    · exact d3
  · rw [o3]
    have := d6 x hx
    by_cases e : x = s
    · rw [if_pos e]
      rw [e] at this
      omega
    · rw [if_neg e]; exact this
theorem wrV_wf {D : Vw} (n : Nat) (h : wfD n D) (c s m : Nat) : wfD n (wrV D c s m) := by
  by_cases e : 0 < m ∧ D 4 2 < 60
  · obtain ⟨d1, d2, d3, d4, d5, d6⟩ := h
    obtain ⟨o1, o2, o6, o7, o8⟩ := wrV_y (c := c) (s := s) (m := m) e
    exact ⟨by rw [o1 4 5 (by omega) (by omega)]; exact d1, by rw [o1 4 6 (by omega) (by omega)]; exact d2, by rw [o1 4 1 (by omega) (by omega)]; exact d3, by rw [o2]; omega, by rw [o1 4 0 (by omega) (by omega)]; exact d5, fun x hx => by rw [o1 3 x (by omega) (by omega)]; exact d6 x hx⟩
  · rw [wrV_n e]; exact h
theorem wrV_k {D : Vw} {c s m : Nat} {a b : Nat} (h1 : ¬ (a = 6 ∨ a = 7 ∨ a = 8)) (h2 : ¬ (a = 4 ∧ b = 2)) : wrV D c s m a b = D a b := by
  by_cases e : 0 < m ∧ D 4 2 < 60
  · exact (wrV_y e).1 a b h1 h2
  · rw [wrV_n e]
theorem sd_ok {T D R : Vw} {LD : List Nat} {c p ld n : Nat} (hd : wfD n D) (hl : ld ≤ hol T c) : ∀ i, (sd T D R LD c p ld i).1 ≤ hol T c ∧ wfD n (sd T D R LD c p ld i).2.2 ∧ (∀ q, (sd T D R LD c p ld i).2.2 0 q = D 0 q) ∧ (sd T D R LD c p ld i).2.2 4 5 = D 4 5
  | 0 => ⟨hl, hd, fun _ => rfl, rfl⟩
  | i + 1 => by
    obtain ⟨a, b, e, f⟩ := sd_ok (R := R) (LD := LD) (p := p) hd hl i
    unfold sd sdS
    by_cases h : i + 1 < R 1 p
    · rw [if_pos h]
      refine ⟨?_, wrV_wf n (gtV_wf n b _ _ _) _ _ _, fun q => ?_, ?_⟩
      · exact Nat.le_trans (Nat.sub_le _ _) (gt_le _ _ _ _ _)
      · show wrV _ _ _ _ 0 q = _
        rw [wrV_k (by omega) (by omega), gtV_o _ _ _ _ _ _ _ (by omega) (by omega)]; exact e q
      · show wrV _ _ _ _ 4 5 = _
        rw [wrV_k (by omega) (by omega), gtV_o _ _ _ _ _ _ _ (by omega) (by omega)]; exact f
    · rw [if_neg h]
      exact ⟨Nat.le_trans (Nat.sub_le _ _) a, b, e, f⟩
def atSX (n : Nat) (t : Nat × Nat × Vw) (σ : St) : Prop := σ.1 46 5 = I t.1 ∧ σ.1 46 6 = I t.2.1 ∧ XD 33 n t.2.2 σ
def atSM (n : Nat) (t : Nat × Nat × Vw) (σ : St) : Prop := σ.1 0 30 = I t.1 ∧ σ.1 0 31 = I t.2.1 ∧ MD 0 n t.2.2 σ
theorem drk_le (T D : Vw) (LD : List Nat) (c s l m : Nat) : drk T D LD c s l m ≤ l := by
  unfold drk
  split
  · exact Nat.zero_le _
  · split
    · exact Nat.min_le_right _ _
    · exact Nat.min_le_right _ _
theorem XD_s {d n : Nat} {D : Vw} {σ τ : St} (hd : d = 33) (h : sX σ τ) (hx : XD d n D σ) : XD d n D τ :=
  XD_fr (fun i h1 h2 => h.1 i (by simp; omega) (by omega)) (by rw [h.2.2]) hx
theorem MD_s {n : Nat} {D : Vw} {σ τ : St} (hn : n ≤ 7) (hb : D 4 2 ≤ 60) (h : sM σ τ) (hx : MD 0 n D σ) : MD 0 n D τ :=
  MD_fr hn hb (fun q _ => by rw [h.1 16 (by decide) (by decide)]) hx
theorem X_send {T D R : Vw} {LD LP : List Nat} {c p ld : Nat} (hw : wfW T D R LD LP) (hwd : wfD (T 0 0) D) (hc : c < T 0 2) (hp : p < R 0 0) (hld : ld ≤ hol T c) : ∀ (n i : Nat) (σ : St) (fuel : Nat), WX T D R LD LP σ → i + n = R 1 p → n < fuel → atSX (T 0 0) (sd T D R LD c p ld i) σ → ∃ τ, lp rX_goAll_33L fuel (I c, I p, 1, I (R 1 p), I (i + 1), σ) = some τ ∧ atSX (T 0 0) (sd T D R LD c p ld (R 1 p)) τ ∧ vX σ τ := by
  intro n
  obtain ⟨w1, w2, w3, r1, r2⟩ := hw
  obtain ⟨ra, rb, rc, rd⟩ := r2 p hp
  have hh := hol_le w1 hc
  induction n with
  | zero =>
    intro i σ fuel hW hi hf ha
    obtain ⟨fuel, rfl⟩ : ∃ k, fuel = k + 1 := ⟨fuel - 1, by omega⟩
    refine ⟨σ, ?_, ?_, ⟨fun _ _ => rfl, fun _ _ => rfl, rfl⟩⟩
    · show rX_goAll_33 _ (I c) (I p) 1 (I (R 1 p)) (I (i + 1)) σ = _
      unfold rX_goAll_33
      rw [brc_t (show I (R 1 p) < I (i + 1) by rw [I_lt (by omega) (by omega)]; omega)]
    · rw [show R 1 p = i by omega]; exact ha
  | succ n ih =>
    intro i σ fuel hW hi hf ha
    obtain ⟨fuel, rfl⟩ : ∃ k, fuel = k + 1 := ⟨fuel - 1, by omega⟩
    obtain ⟨K, hK⟩ : ∃ K : Int32 → Int32 → Int32 → Int32 → Int32 → St → Option St, K = fun v1 v2 v4 v5 v6 σ => lp rX_goAll_33L fuel (v1, v2, v4, v5, v6, σ) := ⟨_, rfl⟩
    replace ih : ∀ (σ : St), WX T D R LD LP σ → atSX (T 0 0) (sd T D R LD c p ld (i + 1)) σ → ∃ τ, K (I c) (I p) 1 (I (R 1 p)) (I (i + 1 + 1)) σ = some τ ∧ atSX (T 0 0) (sd T D R LD c p ld (R 1 p)) τ ∧ vX σ τ := fun σ h1 h2 => by
      rw [hK]
      exact ih (i + 1) σ fuel h1 (by omega) (by omega) h2
    show ∃ τ, rX_goAll_33 (fun v1 v2 v4 v5 v6 σ => lp rX_goAll_33L fuel (v1, v2, v4, v5, v6, σ)) (I c) (I p) 1 (I (R 1 p)) (I (i + 1)) σ = some τ ∧ _
    rw [← hK]
    clear hK
    unfold rX_goAll_33
    have hs0 := rc i (by omega)
    have hs1 := rc (i + 1) (by omega)
    have h7 : T 0 0 ≤ 7 := w1.1
    obtain ⟨a5, a6, aD⟩ := ha
    obtain ⟨o1, o2, o3, o4⟩ := sd_ok (R := R) (LD := LD) (p := p) hwd hld i
    have estep : sd T D R LD c p ld (i + 1) = sdS T D R LD c p i (sd T D R LD c p ld i) := rfl
    generalize sd T D R LD c p ld i = t at *
    rw [estep] at ih
    rw [brc_f (show ¬ I (R 1 p) < I (i + 1) by rw [I_lt (by omega) (by omega)]; omega), eX_rstationAt hW.2.2.2.2 r1 hp ra (by omega), bnd2_e, nmE, I1, I_sub (by omega), Nat.add_sub_cancel, eX_rstationAt hW.2.2.2.2 r1 hp ra (by omega), bnd2_e,
      eX_goOver w1 hW.1 hW.2.2.1 hc (by omega) (by omega) (rd i (by omega)) a5 a6 (by omega), bnd1_e]
    generalize hσ1 : setI (setI (setI σ 46 5 _) 46 8 _) 46 6 _ = σ1
    have f1 : sX σ σ1 := by
      rw [← hσ1]
      exact frO_c (frO_c (frO_c frO_refl _ (by decide) (by decide)) _ (by decide) (by decide)) _ (by decide) (by decide)
    have g5 : σ1.1 46 5 = I (t.1 - drp T (D 4 5) c (trQ R p i) t.1) := by
      rw [← hσ1, gI_ne2 _ _ _ (by decide), gI_ne2 _ _ _ (by decide), gI_same]; rfl
    have g6 : σ1.1 46 6 = I (t.2.1 + mns T c (trQ R p i)) := by
      rw [← hσ1, gI_same]; rfl
    have hW1 := WX_s f1 hW
    have aD1 := XD_s rfl f1 aD
    unfold sdS at ih
    unfold rX_goAll_116 rX_goAll_90 rX_goAll_116
    by_cases hlast : i + 1 < R 1 p
    · rw [if_pos hlast] at ih
      rw [brc_f (show ¬ I (R 1 p) ≤ I (i + 1) by rw [I_le (by omega) (by omega)]; omega), brc_f (show ¬ I 1 = 0 by decide)]
      have hl1 : t.1 - drp T (D 4 5) c (trQ R p i) t.1 ≤ hol T c := by omega
      generalize t.1 - drp T (D 4 5) c (trQ R p i) t.1 = l1 at *
      obtain ⟨τ, e1, t5, tj, tD, f2⟩ := eX_gather w1 hW1.1 o2 aD1 hc hs1 g5 hl1
      have hgl := gt_le T t.2.2 c (R (2 + p) (i + 1)) l1
      have hW2 := WX_v f2 hW1
      have t6 : τ.1 46 6 = I (t.2.1 + mns T c (trQ R p i)) := by rw [tj 6 (by decide)]; exact g6
      have hwg := gtV_wf (T := T) (T 0 0) o2 c (R (2 + p) (i + 1)) l1
      generalize gtL T t.2.2 c (R (2 + p) (i + 1)) l1 + gtF T t.2.2 c (R (2 + p) (i + 1)) l1 = l2 at *
      generalize gtV T t.2.2 c (R (2 + p) (i + 1)) l1 = D2 at *
      obtain ⟨υ, e2, u5, u6, u7, u8, f3⟩ := eX_drinkAt w1 hW2.1 hW2.2.1 w3 hW2.2.2.2.1 hc hs1 t5 t6 (by omega)
      have hdl := drk_le T D LD c (R (2 + p) (i + 1)) l2 (t.2.1 + mns T c (trQ R p i))
      generalize drk T D LD c (R (2 + p) (i + 1)) l2 (t.2.1 + mns T c (trQ R p i)) = n1 at *
      have uD := XD_s rfl f3 tD
      obtain ⟨ω, e3, wD, w4, w5⟩ := eX_write (c := c) (s := R (2 + p) (i + 1)) (m := n1) hwg uD (by omega)
      rw [e1, bnd1_e, e2, bnd2_e, nmE, brc_f (show ¬ I 1 = 0 by decide), e3, bnd1_e, nmE, oi1, I_add]
      have f4 : vX υ ω := ⟨fun i hi => w4 i (by simp at hi ⊢; omega), fun i _ => by rw [w5], by rw [w5]⟩
      have f5 := vX_tr (vX_tr (vX_tr (vX_s f1) f2) (vX_s f3)) f4
      obtain ⟨ζ, e4, z1, f6⟩ := ih ω (WX_v f5 hW) ⟨by rw [w4 46 (by decide)]; exact u5, by rw [w4 46 (by decide)]; exact u6, wD⟩
      exact ⟨ζ, e4, z1, vX_tr f5 f6⟩
    · rw [if_neg hlast] at ih
      rw [brc_t (show I (R 1 p) ≤ I (i + 1) by rw [I_le (by omega) (by omega)]; omega), nmE, oi1, I_add]
      obtain ⟨ζ, e4, z1, f6⟩ := ih σ1 hW1 ⟨g5, g6, aD1⟩
      exact ⟨ζ, e4, z1, vX_tr (vX_s f1) f6⟩
