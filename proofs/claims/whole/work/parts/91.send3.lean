/-! send -/
def enV (D : Vw) (c l pr : Nat) : Vw := upV (upV (upV D 5 c (D 5 c + pr * l)) 4 3 (D 4 3 + l)) 4 4 (D 4 4 + 1)
theorem enV_o (D : Vw) (c l pr : Nat) : (∀ a b, ¬ a = 5 → ¬ (a = 4 ∧ (b = 3 ∨ b = 4)) → enV D c l pr a b = D a b) ∧ enV D c l pr 4 3 = D 4 3 + l ∧ enV D c l pr 4 4 = D 4 4 + 1 ∧ (∀ x, enV D c l pr 5 x = if x = c then D 5 c + pr * l else D 5 x) := by
  unfold enV upV
  refine ⟨fun a b h1 h2 => ?_, ?_, ?_, fun x => ?_⟩
  · rw [if_neg (by omega), if_neg (by omega), if_neg (by omega)]
  · rw [if_neg (by omega), if_pos ⟨rfl, rfl⟩]
  · rw [if_pos ⟨rfl, rfl⟩]
  · rw [if_neg (show ¬ ((5 : Nat) = 4 ∧ x = 4) by omega), if_neg (show ¬ ((5 : Nat) = 4 ∧ x = 3) by omega)]
    by_cases e : x = c
    · rw [if_pos ⟨rfl, e⟩, if_pos e]
    · rw [if_neg (fun h => e h.2), if_neg e]
theorem enV_wf {n : Nat} {D : Vw} (h : wfD n D) (c l pr : Nat) : wfD n (enV D c l pr) := by
  obtain ⟨d1, d2, d3, d4, d5, d6⟩ := h
  obtain ⟨o1, -⟩ := enV_o D c l pr
  exact ⟨by rw [o1 4 5 (by omega) (by omega)]; exact d1, by rw [o1 4 6 (by omega) (by omega)]; exact d2, by rw [o1 4 1 (by omega) (by omega)]; exact d3, by rw [o1 4 2 (by omega) (by omega)]; exact d4, by rw [o1 4 0 (by omega) (by omega)]; exact d5, fun x hx => by rw [o1 3 x (by omega) (by omega)]; exact d6 x hx⟩
theorem WM_v {T D R : Vw} {LD LP : List Nat} {σ τ : St} {n : Nat} {D' : Vw} (h : vM σ τ) (hd : MD 0 n D' τ) (h0 : ∀ q, D' 0 q = D 0 q) (h5 : D' 4 5 = D 4 5) (hx : WM T D R LD LP σ) : WM T D R LD LP τ := by
  obtain ⟨a, b, c, d, e⟩ := hx
  have y := MD0 hd
  exact ⟨MT_fr (h.1 6 (by decide)) a, fun q hq => by rw [y.1 q hq, h0 q], by rw [y.2.1, h5], MLw_fr (h.1 6 (by decide)) (h.1 8 (by decide)) (h.1 9 (by decide)) d, MR_fr (h.2.1 27 (by decide)) (h.1 18 (by decide)) e⟩
theorem M_send {T D R : Vw} {LD LP : List Nat} {c p ld : Nat} (hw : wfW T D R LD LP) (hwd : wfD (T 0 0) D) (hc : c < T 0 2) (hp : p < R 0 0) (hld : ld ≤ hol T c) : ∀ (n i : Nat) (σ : St) (fuel : Nat), WM T D R LD LP σ → i + n = R 1 p → n < fuel → atSM (T 0 0) (sd T D R LD c p ld i) σ → ∃ τ, lp rM_send_82L fuel (I c, I p, I (i + 1), σ) = some (I (sd T D R LD c p ld (R 1 p)).1, τ) ∧ MD 0 (T 0 0) (enV (sd T D R LD c p ld (R 1 p)).2.2 c (sd T D R LD c p ld (R 1 p)).1 (prc (sd T D R LD c p ld (R 1 p)).2.2 LP)) τ ∧ vM σ τ := by
  intro n
  obtain ⟨w1, w2, w3, r1, r2⟩ := hw
  obtain ⟨ra, rb, rc, rd⟩ := r2 p hp
  have hh := hol_le w1 hc
  have h7 : T 0 0 ≤ 7 := w1.1
  have h6 : T 0 2 ≤ 6 := w1.2.1
  induction n with
  | zero =>
    intro i σ fuel hW hi hf ha
    obtain ⟨fuel, rfl⟩ : ∃ k, fuel = k + 1 := ⟨fuel - 1, by omega⟩
    rw [show R 1 p = i by omega]
    obtain ⟨a5, a6, aD⟩ := ha
    obtain ⟨o1, o2, o3, o4⟩ := sd_ok (R := R) (LD := LD) (p := p) hwd hld i
    generalize sd T D R LD c p ld i = t at *
    show ∃ τ, rM_send_82 (fun v1 v2 v4 σ => lp rM_send_82L fuel (v1, v2, v4, σ)) (I c) (I p) (I (i + 1)) σ = some _ ∧ _
    generalize (fun v1 v2 v4 σ => lp rM_send_82L fuel (v1, v2, v4, σ) : Int32 → Int32 → Int32 → St → Option (Int32 × St)) = K
    unfold rM_send_82
    obtain ⟨τ, e1, f1⟩ := eM_priceNow (LD := LD) (LP := LP) aD w3 hW.2.2.2.1
    have y := MD0 aD
    obtain ⟨y1, y2, y3, y4, y5, y6, y7, y8, y9, y10, y11⟩ := y
    rw [eM_lengthOf hW.2.2.2.2 r1 hp, bnd2_e, brc_t (show I (R 1 p + 1) ≤ I (i + 1) by rw [I_le (by omega) (by omega)]; omega), e1, bnd2_e, litN, I_add, chk_t (ib_I (by omega) (by omega)), chk_t (ib_I (by omega) (by omega)), nmE, show ib (38 : Int32) 6000 = true from rfl, chk_e, chk_e, nmE, show ib (40 : Int32) 6000 = true from rfl, chk_e, chk_e, nmE, I_cl (by omega), show (38 : Int32).toNatClampNeg = 38 from rfl, show (40 : Int32).toNatClampNeg = 40 from rfl, y11 c (by omega), a5, I_mul, I_add]
    have t16 : τ.1 16 = σ.1 16 := f1.1 16 (by decide) (by decide)
    have t0 : τ.1 0 = σ.1 0 := by funext j; exact f1.2.1 j (List.not_mem_nil)
    have h60 := o2.2.2.2.1
    rw [gI_ne2 _ _ _ (show 38 ≠ 50 + c by omega), t16, y5]
    simp (disch := decide) only [gI_ne1, t0, a5, I_add]
    rw [gI_ne2 _ _ _ (show (40 : Nat) ≠ 38 by decide), gI_ne2 _ _ _ (show 40 ≠ 50 + c by omega), t16, y6, I1, I_add]
    obtain ⟨q1, q2, q3, q4⟩ := enV_o t.2.2 c t.1 (prc t.2.2 LP)
    rw [Nat.mul_comm t.1 (prc t.2.2 LP)]
    generalize prc t.2.2 LP = pr at *
    generalize enV t.2.2 c t.1 pr = D' at *
    generalize hυ : setI (setI (setI τ 16 (50 + c) (I (t.2.2 5 c + pr * t.1))) 16 38 (I (t.2.2 4 3 + t.1))) 16 40 (I (t.2.2 4 4 + 1)) = υ
    have k : ∀ q, q ≠ 38 → q ≠ 40 → q ≠ 50 + c → υ.1 16 q = σ.1 16 q := fun q g1 g2 g3 => by
      rw [← hυ, gI_ne2 _ _ _ g2, gI_ne2 _ _ _ g1, gI_ne2 _ _ _ g3, t16]
    refine ⟨υ, rfl, ?_, ?_, ?_, ?_, ?_⟩
    · unfold MD
      simp only [Nat.zero_add]
      refine ⟨fun q hq => ?_, ?_, ?_, ?_, ?_, ?_, ?_, ?_, fun j hj => ?_, fun s' hs' => ?_, fun x hx => ?_⟩
      · rw [k q (by omega) (by omega) (by omega), q1 0 q (by omega) (by omega)]; exact y1 q hq
      · rw [k 36 (by omega) (by omega) (by omega), q1 4 5 (by omega) (by omega)]; exact y2
      · rw [k 41 (by omega) (by omega) (by omega), q1 4 6 (by omega) (by omega)]; exact y3
      · rw [k 37 (by omega) (by omega) (by omega), q1 4 1 (by omega) (by omega)]; exact y4
      · rw [q2, ← hυ, gI_ne2 _ _ _ (by omega), gI_same]
      · rw [q3, ← hυ, gI_same]
      · rw [k 39 (by omega) (by omega) (by omega), q1 4 0 (by omega) (by omega)]; exact y7
      · rw [k 42 (by omega) (by omega) (by omega), q1 4 2 (by omega) (by omega)]; exact y8
      · rw [q1 4 2 (by omega) (by omega)] at hj
        rw [k _ (by omega) (by omega) (by omega), k _ (by omega) (by omega) (by omega), k _ (by omega) (by omega) (by omega), q1 6 j (by omega) (by omega), q1 7 j (by omega) (by omega), q1 8 j (by omega) (by omega)]; exact y9 j hj
      · rw [k _ (by omega) (by omega) (by omega), q1 3 s' (by omega) (by omega)]; exact y10 s' hs'
      · rw [q4]
        by_cases e : x = c
        · rw [if_pos e, e, ← hυ, gI_ne2 _ _ _ (by omega), gI_ne2 _ _ _ (by omega), gI_same]
        · rw [if_neg e, k _ (by omega) (by omega) (by omega)]; exact y11 x hx
    · intro j hj
      simp at hj
      rw [← hυ, gI_ne1 _ _ _ (by omega), gI_ne1 _ _ _ (by omega), gI_ne1 _ _ _ (by omega), f1.1 j (by simp; omega) (by omega)]
    · intro j hj
      rw [← hυ, gI_ne1 _ _ _ (by decide), gI_ne1 _ _ _ (by decide), gI_ne1 _ _ _ (by decide), t0]
    · intro q hq
      exact k q (by omega) (by omega) (by omega)
    · rw [← hυ]; exact f1.2.2
  | succ n ih =>
    intro i σ fuel hW hi hf ha
    obtain ⟨fuel, rfl⟩ : ∃ k, fuel = k + 1 := ⟨fuel - 1, by omega⟩
    obtain ⟨K, hK⟩ : ∃ K : Int32 → Int32 → Int32 → St → Option (Int32 × St), K = fun v1 v2 v4 σ => lp rM_send_82L fuel (v1, v2, v4, σ) := ⟨_, rfl⟩
    obtain ⟨Fin, hFin⟩ : ∃ Fin : St → Int32 × St → Prop, Fin = fun σ r => r.1 = I (sd T D R LD c p ld (R 1 p)).1 ∧ MD 0 (T 0 0) (enV (sd T D R LD c p ld (R 1 p)).2.2 c (sd T D R LD c p ld (R 1 p)).1 (prc (sd T D R LD c p ld (R 1 p)).2.2 LP)) r.2 ∧ vM σ r.2 := ⟨_, rfl⟩
    have hFtr : ∀ σ τ r, vM σ τ → Fin τ r → Fin σ r := fun σ τ r h1 h2 => by
      rw [hFin] at h2 ⊢
      exact ⟨h2.1, h2.2.1, vM_tr h1 h2.2.2⟩
    replace ih : ∀ (σ : St), WM T D R LD LP σ → atSM (T 0 0) (sd T D R LD c p ld (i + 1)) σ → wp (K (I c) (I p) (I (i + 1 + 1)) σ) (Fin σ) := fun σ h1 h2 => by
      obtain ⟨τ, e1, e2, e3⟩ := ih (i + 1) σ fuel h1 (by omega) (by omega) h2
      rw [hK, hFin]
      exact ⟨_, e1, rfl, e2, e3⟩
    have goal : wp (rM_send_82 K (I c) (I p) (I (i + 1)) σ) (Fin σ) := by
      clear hK hFin
      unfold rM_send_82 rM_send_150
      have hs0 := rc i (by omega)
      have hs1 := rc (i + 1) (by omega)
      obtain ⟨a5, a6, aD⟩ := ha
      obtain ⟨o1, o2, o3, o4⟩ := sd_ok (R := R) (LD := LD) (p := p) hwd hld i
      obtain ⟨-, p2, p3, p4⟩ := sd_ok (R := R) (LD := LD) (p := p) hwd hld (i + 1)
      have estep : sd T D R LD c p ld (i + 1) = sdS T D R LD c p i (sd T D R LD c p ld i) := rfl
      rw [estep] at p2 p3 p4 ih
      generalize sd T D R LD c p ld i = t at *
      rw [eM_lengthOf hW.2.2.2.2 r1 hp, bnd2_e, brc_f (show ¬ I (R 1 p + 1) ≤ I (i + 1) by rw [I_le (by omega) (by omega)]; omega), I1, I_sub (by omega), Nat.add_sub_cancel, eM_stationOf hW.2.2.2.2 r1 hp ra (by omega), bnd2_e, nmE, eM_stationOf hW.2.2.2.2 r1 hp ra (by omega), bnd2_e,
        eM_goesWay w1 hW.1 hW.2.2.1 w2 hc (by omega) (by omega) (rd i (by omega)) a5 a6 (by omega), bnd1_e]
      generalize hσ1 : setI (setI (setI σ 0 30 _) 0 33 _) 0 31 _ = σ1
      have f1 : sM σ σ1 := by
        rw [← hσ1]
        exact frO_f (frO_f (frO_f frO_refl _ (by decide)) _ (by decide)) _ (by decide)
      have g5 : σ1.1 0 30 = I (t.1 - drp T (D 4 5) c (trQ R p i) t.1) := by
        rw [← hσ1, gI_ne2 _ _ _ (by decide), gI_ne2 _ _ _ (by decide), gI_same]; rfl
      have g6 : σ1.1 0 31 = I (t.2.1 + mns T c (trQ R p i)) := by
        rw [← hσ1, gI_same]; rfl
      have hW1 := WM_s f1 hW
      have aD1 := MD_s h7 o2.2.2.2.1 f1 aD
      rw [eM_lengthOf hW1.2.2.2.2 r1 hp, bnd2_e, I_sub (by omega), Nat.add_sub_cancel]
      unfold sdS at ih p2 p3 p4
      by_cases hlast : i + 1 < R 1 p
      · rw [if_pos hlast] at ih p2 p3 p4
        rw [brc_f (show ¬ I (R 1 p) ≤ I (i + 1) by rw [I_le (by omega) (by omega)]; omega)]
        have hl1 : t.1 - drp T (D 4 5) c (trQ R p i) t.1 ≤ hol T c := by omega
        generalize t.1 - drp T (D 4 5) c (trQ R p i) t.1 = l1 at *
        obtain ⟨τ, e1, t5, tj, tD, f2⟩ := eM_fills w1 hW1.1 o2 aD1 hc hs1 g5 (by omega)
        have hgl := gt_le T t.2.2 c (R (2 + p) (i + 1)) l1
        have hwg := gtV_wf (T := T) (T 0 0) o2 c (R (2 + p) (i + 1)) l1
        have hW2 := WM_v (D := D) f2 tD (fun q => by rw [gtV_o _ _ _ _ _ _ _ (by omega) (by omega)]; exact o3 q) (by rw [gtV_o _ _ _ _ _ _ _ (by omega) (by omega)]; exact o4) hW1
        have t6 : τ.1 0 31 = I (t.2.1 + mns T c (trQ R p i)) := by rw [tj 31 (by decide)]; exact g6
        generalize gtL T t.2.2 c (R (2 + p) (i + 1)) l1 + gtF T t.2.2 c (R (2 + p) (i + 1)) l1 = l2 at *
        generalize gtV T t.2.2 c (R (2 + p) (i + 1)) l1 = D2 at *
        obtain ⟨υ, e2, u5, u6, u7, u8, f3⟩ := eM_drinksAt w1 hW2.1 hW2.2.1 w3 hW2.2.2.2.1 hc hs1 t5 t6 (by omega)
        have hdl := drk_le T D LD c (R (2 + p) (i + 1)) l2 (t.2.1 + mns T c (trQ R p i))
        generalize drk T D LD c (R (2 + p) (i + 1)) l2 (t.2.1 + mns T c (trQ R p i)) = n1 at *
        have uD := MD_s h7 hwg.2.2.2.1 f3 tD
        obtain ⟨ω, e3, wD, w4, w5, w6⟩ := eM_writes (c := c) (s := R (2 + p) (i + 1)) (m := n1) h7 hwg uD (by omega)
        rw [e1, bnd1_e, e2, bnd2_e, e3, bnd1_e, nmE, oi1, I_add]
        have f4 : vM υ ω := ⟨fun i hi => w4 i (by simp at hi; omega), fun j _ => by rw [w4 0 (by decide)], w5, w6⟩
        have f5 := vM_tr (vM_tr (vM_tr (vM_s f1) f2) (vM_s f3)) f4
        exact wp_mono (ih ω (WM_v f5 wD p3 p4 hW) ⟨by rw [w4 0 (by decide)]; exact u5, by rw [w4 0 (by decide)]; exact u6, wD⟩) (fun r hr => hFtr _ _ _ f5 hr)
      · rw [if_neg hlast] at ih
        rw [brc_t (show I (R 1 p) ≤ I (i + 1) by rw [I_le (by omega) (by omega)]; omega), nmE, oi1, I_add]
        exact wp_mono (ih σ1 hW1 ⟨g5, g6, aD1⟩) (fun r hr => hFtr _ _ _ (vM_s f1) hr)
    obtain ⟨⟨r, τ⟩, e1, e2⟩ := goal
    rw [hFin] at e2
    refine ⟨τ, ?_, e2.2⟩
    show rM_send_82 (fun v1 v2 v4 σ => lp rM_send_82L fuel (v1, v2, v4, σ)) (I c) (I p) (I (i + 1)) σ = _
    rw [← hK, e1, show r = _ from e2.1]
theorem bitor {m c e : Nat} (hm : m < 64) (hc : c < 6) (he : e < 6) : (m ||| 2 ^ c) / 2 ^ e % 2 = if e = c then 1 else m / 2 ^ e % 2 := by
  have h : ∀ m, m < 64 → ∀ c, c < 6 → ∀ e, e < 6 → (m ||| 2 ^ c) / 2 ^ e % 2 = if e = c then 1 else m / 2 ^ e % 2 := by decide +kernel
  exact h m hm c hc e he
theorem bitorlt {m c : Nat} (hm : m < 64) (hc : c < 6) : m ||| 2 ^ c < 64 := by
  have h : ∀ m, m < 64 → ∀ c, c < 6 → m ||| 2 ^ c < 64 := by decide +kernel
  exact h m hm c hc
theorem bitorI {m c : Nat} (hm : m < 64) (hc : c < 6) : I m ||| ((1 : Int32) <<< (I c &&& 31)) = I (m ||| 2 ^ c) := by
  have h : ∀ m, m < 64 → ∀ c, c < 6 → I m ||| ((1 : Int32) <<< (I c &&& 31)) = I (m ||| 2 ^ c) := by decide +kernel
  exact h m hm c hc
def s0V (D : Vw) (c ld : Nat) : Vw := upV (upV D 4 6 (D 4 6 ||| 2 ^ c)) 4 0 (D 4 0 - ld)
theorem s0V_o (D : Vw) (c ld : Nat) : (∀ a b, ¬ (a = 4 ∧ (b = 0 ∨ b = 6)) → s0V D c ld a b = D a b) ∧ s0V D c ld 4 0 = D 4 0 - ld ∧ s0V D c ld 4 6 = D 4 6 ||| 2 ^ c := by
  unfold s0V upV
  refine ⟨fun a b h => ?_, ?_, ?_⟩
  · rw [if_neg (by omega), if_neg (by omega)]
  · rw [if_pos ⟨rfl, rfl⟩]
  · rw [if_neg (by omega), if_pos ⟨rfl, rfl⟩]
theorem po_send : PO_send Inv := by
  intro σx σm h v w u
  obtain ⟨T, R, D, Mk, U, n, tp, LD, LP, hw, hx, hm⟩ := h
  have hm' := GM_0 hw 0 hm
  have h37 := hw.2.2.1.1
  have h6 := hw.1.2.1
  have h7 := hw.1.1
  have hd := MD0 hm'.2.1
  have no : rX_send v w u σx = some (-1, σx) → rM_send v w u σm = some (-1, setI σm 0 0 0) → ∃ (r : Int32) (x m : St), rX_send v w u σx = some (r, x) ∧ rM_send v w u σm = some (r, m) ∧ Inv x m := fun e1 e2 => ⟨-1, _, _, e1, e2, T, R, D, Mk, U, n, tp, LD, LP, hw, hx, hm'⟩
  by_cases hc : okC T v u
  · by_cases hp : inR w (I (R 0 0))
    · obtain ⟨c, ld, rfl, rfl, hcc, hl, hl2⟩ := okC_I hw.1 hc
      obtain ⟨p, rfl, hpp⟩ := inR_I (by omega) hp
      have hc6 : c < 6 := by omega
      obtain ⟨y1, y2, y3, y4, y5, y6, y7, y8, y9, y10, y11⟩ := hx.2.1
      have h35 : σx.1 35 c = I (D 4 6 / 2 ^ c % 2) := y3 c hc6
      have g64 := hw.2.1.2.1
      have d200 := hw.2.1.2.2.2.2.1
      have hbit : D 4 6 / 2 ^ c % 2 = 0 ∨ D 4 6 / 2 ^ c % 2 = 1 := by omega
      have eX : rX_send (I c) (I p) (I ld) σx = brc (¬ I (D 4 6 / 2 ^ c % 2) = 0) (some (-1, σx)) (brc (I ld ≤ I (D 4 0)) (bnd1 (rX_goAll (I c) (I p) (I ld) 1 (setI (setI σx 35 c 1) 33 2 (I (D 4 0) - I ld))) fun σ_9 => bnd2 (rX_priceNow σ_9) fun r_14 σ_12 => some (σ_9.1 46 5, setI (setI (setI σ_12 36 c (σ_9.1 36 c + r_14 * σ_9.1 46 5)) 33 0 ((setI σ_12 36 c (σ_9.1 36 c + r_14 * σ_9.1 46 5)).1 33 0 + σ_9.1 46 5)) 33 1 ((setI (setI σ_12 36 c (σ_9.1 36 c + r_14 * σ_9.1 46 5)) 33 0 ((setI σ_12 36 c (σ_9.1 36 c + r_14 * σ_9.1 46 5)).1 33 0 + σ_9.1 46 5)).1 33 1 + 1))) (some (-1, σx))) := by
        unfold rX_send rX_send_43
        rw [eX_canCarry hw.1 hx.1, bnd2_e, b01_t hc, brc_f b01_1, eX_rhas, bnd2_e, hx.2.2.1.1, b01_t hp, brc_f b01_1]
        simp only [chk_t (ib_I hc6 (show 6 < 2147483648 by omega)), I_cl (show c < 2147483648 by omega), h35, nmS, gI_ne1 σx c 1 (show (33 : Nat) ≠ 35 by decide), y7]
      have eM : rM_send (I c) (I p) (I ld) σm = brc (I (D 4 6 / 2 ^ c % 2) = 1) (some (-1, setI σm 0 0 0)) (brc (I ld ≤ I (D 4 0)) (bnd1 (rM_starts (I ld) (setI (setI (setI σm 0 0 0) 16 39 (I (D 4 0) - I ld)) 16 41 (I (D 4 6 ||| 2 ^ c)))) fun σ_10 => lp rM_send_82L fu (I c, I p, 1, σ_10)) (some (-1, setI σm 0 0 0))) := by
        unfold rM_send rM_send_48
        rw [nmE, eM_canCarry hw.1 hm'.1, bnd2_e, b01_t hc, brc_f b01_1, eM_isPath, bnd2_e, hm'.2.2.1.1, b01_t hp, brc_f b01_1, show ib (41 : Int32) 6000 = true from rfl, chk_e, show ib (39 : Int32) 6000 = true from rfl, chk_e, show (41 : Int32).toNatClampNeg = 41 from rfl, show (39 : Int32).toNatClampNeg = 39 from rfl, hd.2.2.1, show (I (D 4 6) >>> (I c &&& 31)) &&& 1 = I (D 4 6 / 2 ^ c % 2) from I_bit g64 hc6, hd.2.2.2.2.2.2.1, chk_e, chk_e, nmE, chk_e, chk_e, nmE, gI_ne2 _ _ _ (show (41 : Nat) ≠ 39 by decide), hd.2.2.1, bitorI g64 hc6]
        rfl
      by_cases hgone : D 4 6 / 2 ^ c % 2 = 0
      · rw [hgone, brc_f (show ¬ ¬ I 0 = 0 from fun h => h rfl)] at eX
        rw [hgone, brc_f (show ¬ I 0 = 1 by decide)] at eM
        by_cases hsp : ld ≤ D 4 0
        · rw [brc_t (show I ld ≤ I (D 4 0) by rw [I_le (by omega) (by omega)]; exact hsp), I_sub hsp] at eX eM
          obtain ⟨q1, q2, q3⟩ := s0V_o D c ld
          have hw0 : wfD (T 0 0) (s0V D c ld) := by
            obtain ⟨d1, d2, d3, d4, d5, d6⟩ := hw.2.1
            exact ⟨by rw [q1 4 5 (by omega)]; exact d1, by rw [q3]; exact bitorlt g64 hc6, by rw [q1 4 1 (by omega)]; exact d3, by rw [q1 4 2 (by omega)]; exact d4, by rw [q2]; omega, fun x hx => by rw [q1 3 x (by omega)]; exact d6 x hx⟩
          have hWW : wfW T (s0V D c ld) R LD LP := ⟨hw.1, by rw [q1 4 5 (by omega)]; exact hw.2.1.1, hw.2.2.2.2.2.2, hw.2.2.1⟩
          -- the class
          generalize hσ0 : setI (setI σx 35 c 1) 33 2 (I (D 4 0 - ld)) = σ0 at eX
          have kx : ∀ i, i ≠ 33 → i ≠ 35 → σ0.1 i = σx.1 i := fun i h1 h2 => by rw [← hσ0, gI_ne1 _ _ _ h1, gI_ne1 _ _ _ h2]
          have kx33 : ∀ j, j ≠ 2 → σ0.1 33 j = σx.1 33 j := fun j hj => by rw [← hσ0, gI_ne2 _ _ _ hj, gI_ne1 _ _ _ (by decide)]
          have kx2 : σ0.2 = σx.2 := by rw [← hσ0]; rfl
          have hD0 : XD 33 (T 0 0) (s0V D c ld) σ0 := by
            refine ⟨fun q hq => ?_, fun q hq => ?_, fun q hq => ?_, ?_, ?_, ?_, ?_, ?_, fun i hi => ?_, fun q hq => ?_, fun q hq => ?_⟩
            · rw [kx 38 (by decide) (by decide), q1 0 q (by omega)]; exact y1 q hq
            · rw [kx 37 (by decide) (by decide), q1 4 5 (by omega)]; exact y2 q hq
            · rw [q3, bitor g64 hc6 hq, ← hσ0, gI_ne1 _ _ _ (by decide)]
              by_cases e : q = c
              · rw [if_pos e, e, gI_same]; rfl
              · rw [if_neg e, gI_ne2 _ _ _ e]; exact y3 q hq
            · rw [kx2, q1 4 1 (by omega)]; exact y4
            · rw [kx33 0 (by decide), q1 4 3 (by omega)]; exact y5
            · rw [kx33 1 (by decide), q1 4 4 (by omega)]; exact y6
            · rw [q2, ← hσ0, gI_same]
            · rw [kx33 4 (by decide), q1 4 2 (by omega)]; exact y8
            · rw [q1 4 2 (by omega)] at hi
              rw [kx 39 (by decide) (by decide), kx 40 (by decide) (by decide), kx 41 (by decide) (by decide), q1 6 i (by omega), q1 7 i (by omega), q1 8 i (by omega)]; exact y9 i hi
            · rw [kx 34 (by decide) (by decide), q1 3 q (by omega)]; exact y10 q hq
            · rw [kx 36 (by decide) (by decide), q1 5 q (by omega)]; exact y11 q hq
          have hW0 : WX T (s0V D c ld) R LD LP σ0 := ⟨XMt_fr (fun i h1 h2 => kx i (by omega) (by omega)) hx.1, hD0.1, hD0.2.1, XL_fr (by rw [kx2]) hx.2.2.2.2.2.2.1, XR_fr (by rw [kx 42 (by decide) (by decide)]) (kx 43 (by decide) (by decide)) (kx 44 (by decide) (by decide)) hx.2.2.1⟩
          have hgo : ∃ τ, rX_goAll (I c) (I p) (I ld) 1 σ0 = some τ ∧ atSX (T 0 0) (sd T (s0V D c ld) R LD c p ld (R 1 p)) τ ∧ vX σ0 τ := by
            unfold rX_goAll
            rw [eX_rlastOf hW0.2.2.2.2 h37 hpp, bnd2_e, nmE, nmE, nmE, nmE, nmE, nmE]
            have f1 : sX σ0 (setI (setI (setI (setI σ0 46 5 (I ld)) 46 6 0) 46 7 0) 46 8 0) :=
              frO_c (frO_c (frO_c (frO_c frO_refl _ (by decide) (by decide)) _ (by decide) (by decide)) _ (by decide) (by decide)) _ (by decide) (by decide)
            have r6 := (hw.2.2.1.2 p hpp).1
            obtain ⟨τ, e, t, f2⟩ := X_send hWW hw0 hcc hpp hl (R 1 p) 0 _ fu (WX_s f1 hW0) (by omega) (by unfold fu; omega) (by
              refine ⟨?_, ?_, XD_s rfl f1 hD0⟩
              · rw [gI_ne2 _ _ _ (by decide), gI_ne2 _ _ _ (by decide), gI_ne2 _ _ _ (by decide), gI_same]; rfl
              · rw [gI_ne2 _ _ _ (by decide), gI_ne2 _ _ _ (by decide), gI_same]; rfl)
            exact ⟨τ, e, t, vX_tr (vX_s f1) f2⟩
          obtain ⟨τ, e1, ⟨t5, t6, tD⟩, f1⟩ := hgo
          have hWτ := WX_v f1 hW0
          obtain ⟨υ, e2, f2⟩ := eX_priceNow tD hw.2.2.2.2.2.2 hWτ.2.2.2.1
          -- the reference
          generalize hμ0 : setI (setI (setI σm 0 0 0) 16 39 (I (D 4 0 - ld))) 16 41 (I (D 4 6 ||| 2 ^ c)) = μ0 at eM
          have km : ∀ i, i ≠ 16 → μ0.1 i = (setI σm 0 0 0).1 i := fun i h1 => by rw [← hμ0, gI_ne1 _ _ _ h1, gI_ne1 _ _ _ h1]
          have km16 : ∀ q, q ≠ 39 → q ≠ 41 → μ0.1 16 q = (setI σm 0 0 0).1 16 q := fun q h1 h2 => by rw [← hμ0, gI_ne2 _ _ _ h2, gI_ne2 _ _ _ h1]
          have h60 := hw.2.1.2.2.2.1
          have hM0 : MD 0 (T 0 0) (s0V D c ld) μ0 := by
            unfold MD
            simp only [Nat.zero_add]
            refine ⟨fun q hq => ?_, ?_, ?_, ?_, ?_, ?_, ?_, ?_, fun i hi => ?_, fun q hq => ?_, fun q hq => ?_⟩
            · rw [km16 q (by omega) (by omega), q1 0 q (by omega)]; exact hd.1 q hq
            · rw [km16 36 (by omega) (by omega), q1 4 5 (by omega)]; exact hd.2.1
            · rw [q3, ← hμ0, gI_same]
            · rw [km16 37 (by omega) (by omega), q1 4 1 (by omega)]; exact hd.2.2.2.1
            · rw [km16 38 (by omega) (by omega), q1 4 3 (by omega)]; exact hd.2.2.2.2.1
            · rw [km16 40 (by omega) (by omega), q1 4 4 (by omega)]; exact hd.2.2.2.2.2.1
            · rw [q2, ← hμ0, gI_ne2 _ _ _ (by decide), gI_same]
            · rw [km16 42 (by omega) (by omega), q1 4 2 (by omega)]; exact hd.2.2.2.2.2.2.2.1
            · rw [q1 4 2 (by omega)] at hi
              rw [km16 _ (by omega) (by omega), km16 _ (by omega) (by omega), km16 _ (by omega) (by omega), q1 6 i (by omega), q1 7 i (by omega), q1 8 i (by omega)]; exact hd.2.2.2.2.2.2.2.2.1 i hi
            · rw [km16 _ (by omega) (by omega), q1 3 q (by omega)]; exact hd.2.2.2.2.2.2.2.2.2.1 q hq
            · rw [km16 _ (by omega) (by omega), q1 5 q (by omega)]; exact hd.2.2.2.2.2.2.2.2.2.2 q hq
          have v0 : vM (setI σm 0 0 0) μ0 := ⟨fun i hi => km i (by simp at hi; omega), fun j _ => by rw [km 0 (by decide)], fun q hq => km16 q (by omega) (by omega), by rw [← hμ0]; rfl⟩
          have hWM0 : WM T (s0V D c ld) R LD LP μ0 := by
            have y := MD0 hM0
            exact ⟨MT_fr (km 6 (by decide)) hm'.1, y.1, y.2.1, MLw_fr (km 6 (by decide)) (km 8 (by decide)) (km 9 (by decide)) hm'.2.2.2.2.2.2.1, MR_fr (by rw [km 0 (by decide)]) (km 18 (by decide)) hm'.2.2.1⟩
          have f3 : sM μ0 (setI (setI (setI (setI μ0 0 30 (I ld)) 0 31 0) 0 32 0) 0 33 0) :=
            frO_f (frO_f (frO_f (frO_f frO_refl _ (by decide)) _ (by decide)) _ (by decide)) _ (by decide)
          have r6 := (hw.2.2.1.2 p hpp).1
          obtain ⟨ω, e3, wD, f4⟩ := M_send hWW hw0 hcc hpp hl (R 1 p) 0 _ fu (WM_s f3 hWM0) (by omega) (by unfold fu; omega) (by
            refine ⟨?_, ?_, MD_s h7 hw0.2.2.2.1 f3 hM0⟩
            · rw [gI_ne2 _ _ _ (by decide), gI_ne2 _ _ _ (by decide), gI_ne2 _ _ _ (by decide), gI_same]; rfl
            · rw [gI_ne2 _ _ _ (by decide), gI_ne2 _ _ _ (by decide), gI_same]; rfl)
          have eMs : rM_starts (I ld) μ0 = some (setI (setI (setI (setI μ0 0 30 (I ld)) 0 31 0) 0 32 0) 0 33 0) := rfl
          rw [eMs, bnd1_e] at eM
          have eM' : rM_send (I c) (I p) (I ld) σm = some (I (sd T (s0V D c ld) R LD c p ld (R 1 p)).1, ω) := eM.trans e3
          obtain ⟨o1, o2, o3, o4⟩ := sd_ok (R := R) (LD := LD) (p := p) hw0 hl (R 1 p)
          rw [e1, bnd1_e, e2, bnd2_e] at eX
          generalize sd T (s0V D c ld) R LD c p ld (R 1 p) = t at *
          obtain ⟨z1, z2, z3, z4⟩ := enV_o t.2.2 c t.1 (prc t.2.2 LP)
          have zwf := enV_wf o2 c t.1 (prc t.2.2 LP)
          generalize prc t.2.2 LP = pr at *
          generalize enV t.2.2 c t.1 pr = D' at *
          obtain ⟨x1, x2, x3, x4, x5, x6, x7, x8, x9, x10, x11⟩ := tD
          have u46 : υ.1 33 = τ.1 33 := f2.1 33 (by decide) (by decide)
          rw [t5, show τ.1 36 c = I (t.2.2 5 c) from x11 c hc6, I_mul, I_add, gI_ne1 _ _ _ (show (33 : Nat) ≠ 36 by decide), u46, x5, I_add, gI_ne2 _ _ _ (show (1 : Nat) ≠ 0 by decide), gI_ne1 _ _ _ (show (33 : Nat) ≠ 36 by decide), u46, x6, I1, I_add] at eX
          have hU : ∀ q, q < 36 → D' 0 q = D 0 q := fun q hq => by rw [z1 0 q (by omega) (by omega), o3, q1 0 q (by omega)]
          have hU5 : D' 4 5 = D 4 5 := by rw [z1 4 5 (by omega) (by omega), o4, q1 4 5 (by omega)]
          refine ⟨_, _, _, eX, eM', T, R, D', Mk, U, n, tp, LD, LP, ⟨hw.1, zwf, hw.2.2.1, hw.2.2.2.1, ?_, hw.2.2.2.2.2⟩, ?_, ?_⟩
          · obtain ⟨u1, u2, u3, u4⟩ := hw.2.2.2.2.1
            exact ⟨u1, fun q hq => by rw [hU q hq]; exact u2 q hq, by rw [hU5]; exact u3, u4⟩
          · have kk : ∀ i, i ≠ 33 → i ≠ 36 → i ∉ [46, 47, 48] → (setI (setI (setI υ 36 c (I (t.2.2 5 c + pr * t.1))) 33 0 (I (t.2.2 4 3 + t.1))) 33 1 (I (t.2.2 4 4 + 1))).1 i = τ.1 i := fun i h1 h2 h3 => by
              rw [gI_ne1 _ _ _ h1, gI_ne1 _ _ _ h1, gI_ne1 _ _ _ h2, f2.1 i (by simp at h3 ⊢; omega) (by simp at h3; omega)]
            have kk33 : ∀ j, j ≠ 0 → j ≠ 1 → (setI (setI (setI υ 36 c (I (t.2.2 5 c + pr * t.1))) 33 0 (I (t.2.2 4 3 + t.1))) 33 1 (I (t.2.2 4 4 + 1))).1 33 j = τ.1 33 j := fun j h1 h2 => by
              rw [gI_ne2 _ _ _ h2, gI_ne2 _ _ _ h1, gI_ne1 _ _ _ (by decide), u46]
            have kk2 : (setI (setI (setI υ 36 c (I (t.2.2 5 c + pr * t.1))) 33 0 (I (t.2.2 4 3 + t.1))) 33 1 (I (t.2.2 4 4 + 1))).2 = τ.2 := f2.2.2
            refine GX_d hx (fun i h1 h2 h3 => ?_) (fun j _ _ => ?_) (fun i _ h => ?_) ?_ ⟨fun q hq => ?_, fun q hq => ?_, fun q hq => ?_, ?_, ?_, ?_, ?_, ?_, fun i hi => ?_, fun q hq => ?_, fun q hq => ?_⟩ (dn_eq hU hU5)
            · have h4 : i ∉ [46, 47, 48] := fun h => h1 (by revert h; simp [scX]; omega)
              rw [kk i (by omega) (by omega) h4, f1.1 i (by simp at h4 ⊢; omega), kx i (by omega) (by omega)]
            · rw [kk 49 (by decide) (by decide) (by decide), f1.1 49 (by decide), kx 49 (by decide) (by decide)]
            · rw [kk2, f1.2.1 i h, kx2]
            · rw [kk2, f1.2.2, kx2]
            · rw [kk 38 (by decide) (by decide) (by decide), z1 0 q (by omega) (by omega)]; exact x1 q hq
            · rw [kk 37 (by decide) (by decide) (by decide), z1 4 5 (by omega) (by omega)]; exact x2 q hq
            · rw [kk 35 (by decide) (by decide) (by decide), z1 4 6 (by omega) (by omega)]; exact x3 q hq
            · rw [kk2, z1 4 1 (by omega) (by omega)]; exact x4
            · rw [z2, gI_ne2 _ _ _ (by decide), gI_same]
            · rw [z3, gI_same]
            · rw [kk33 2 (by decide) (by decide), z1 4 0 (by omega) (by omega)]; exact x7
            · rw [kk33 4 (by decide) (by decide), z1 4 2 (by omega) (by omega)]; exact x8
            · rw [z1 4 2 (by omega) (by omega)] at hi
              rw [kk 39 (by decide) (by decide) (by decide), kk 40 (by decide) (by decide) (by decide), kk 41 (by decide) (by decide) (by decide), z1 6 i (by omega) (by omega), z1 7 i (by omega) (by omega), z1 8 i (by omega) (by omega)]; exact x9 i hi
            · rw [kk 34 (by decide) (by decide) (by decide), z1 3 q (by omega) (by omega)]; exact x10 q hq
            · rw [z4, gI_ne1 _ _ _ (show (33 + 3 : Nat) ≠ 33 by decide), gI_ne1 _ _ _ (show (33 + 3 : Nat) ≠ 33 by decide)]
              by_cases e : q = c
              · rw [if_pos e, e, gI_same]
              · rw [if_neg e, gI_ne2 _ _ _ e, f2.1 36 (by decide) (by decide)]; exact x11 q hq
          · have f5 := vM_tr (vM_tr v0 (vM_s f3)) f4
            exact GM_d hw hm' (fun i h1 h2 h3 => f5.1 i (fun h => h1 (by revert h; simp [scM]; omega))) (fun j hj => f5.2.1 j (fun h => hj (by revert h; simp [scF]; omega))) (fun q h1 _ => f5.2.2.1 q h1) (by rw [f5.2.2.2]) wD
        · rw [brc_f (show ¬ I ld ≤ I (D 4 0) by rw [I_le (by omega) (by omega)]; exact hsp)] at eX eM
          exact no eX eM
      · have h1 : D 4 6 / 2 ^ c % 2 = 1 := by omega
        rw [h1, brc_t (show ¬ I 1 = 0 by decide)] at eX
        rw [h1, brc_t (show I 1 = 1 from rfl)] at eM
        exact no eX eM
    · refine no ?_ ?_
      · unfold rX_send rX_send_43
        rw [eX_canCarry hw.1 hx.1, bnd2_e, b01_t hc, brc_f b01_1, eX_rhas, bnd2_e, hx.2.2.1.1, b01_f hp, brc_t rfl]
      · unfold rM_send rM_send_48
        rw [nmE, eM_canCarry hw.1 hm'.1, bnd2_e, b01_t hc, brc_f b01_1, eM_isPath, bnd2_e, hm'.2.2.1.1, b01_f hp, brc_t rfl]
  · refine no ?_ ?_
    · unfold rX_send rX_send_43
      rw [eX_canCarry hw.1 hx.1, bnd2_e, b01_f hc, brc_t rfl]
    · unfold rM_send rM_send_48
      rw [nmE, eM_canCarry hw.1 hm'.1, bnd2_e, b01_f hc, brc_t rfl]
