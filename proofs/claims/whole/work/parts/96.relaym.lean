/-! the relay, in the reference -/
abbrev hM (σ τ : St) : Prop := frO [14, 15, 23, 24] 0 [30, 31, 32, 33, 41, 42] σ τ
theorem hM_s {σ τ : St} (h : sM σ τ) : hM σ τ := frO_mono (fun i h => by revert h; simp; omega) (fun i h => by revert h; simp; omega) h
theorem WM_h {T D R : Vw} {LD LP : List Nat} {σ τ : St} (h : hM σ τ) (hx : WM T D R LD LP σ) : WM T D R LD LP τ :=
  WM_fr (h.1 6 (by decide) (by decide)) (h.1 8 (by decide) (by decide)) (h.1 9 (by decide) (by decide)) (fun q _ => by rw [h.1 16 (by decide) (by decide)]) (h.2.1 27 (by decide)) (h.1 18 (by decide) (by decide)) hx
def atRM (R : Vw) (B : RB) (σ : St) : Prop := σ.1 0 42 = nz B.1 ∧ (¬ B.2.1 = 0 → σ.1 0 41 = nz B.2.1) ∧ (∀ k, k < R 1 (B.2.1 - 1) → ¬ B.2.1 = 0 → σ.1 24 k = I (B.2.2 k))
theorem M_try {T D R : Vw} {LD LP : List Nat} {p : Nat} (hw : wfW T D R LD LP) (hp : p < R 0 0) : ∀ (n d i h had l m : Nat) (w : Nat → Nat) (B : RB) (σ : St), i + n = R 1 p → n < d → ((i = 0 ∧ h = 99) ∨ (1 ≤ i ∧ w (i - 1) = h)) → (h = 99 ∨ h < 6) → had < 64 → l ≤ 900 → m ≤ 200 * i → wfB R B → WM T D R LD LP σ → atRM R B σ → (∀ k, k < i → σ.1 23 (k + 1) = I (w k)) → wp (rM_hands d (I p) (I (i + 1)) (I had) (I l) (I m) σ) (fun τ => atRM R (rl T D R LD p n i h had l m w B) τ ∧ (∀ k, k < i → τ.1 23 (k + 1) = I (w k)) ∧ hM σ τ) := by
  have h6 := hw.1.2.1
  have h7 := hw.1.1
  have h5 := hw.1.2.2.2.2.1
  have r1 := hw.2.2.2.1
  obtain ⟨ra, rb, rc, rd⟩ := hw.2.2.2.2 p hp
  intro n
  induction n with
  | zero =>
    intro d i h had l m w B σ hi hd hh0 hh hhad hl hm hB hW hat hrow
    obtain ⟨d, rfl⟩ : ∃ k, d = k + 1 := ⟨d - 1, by omega⟩
    obtain ⟨S, hS⟩ : ∃ S : Int32 → Int32 → Int32 → Int32 → Int32 → St → Option St, S = fun v1 v2 v3 v4 v5 σ => lp rM_hands_F d (v1, v2, v3, v4, v5, σ) := ⟨_, rfl⟩
    show wp (rM_handsB (fun v1 v2 v3 v4 v5 σ => lp rM_hands_F d (v1, v2, v3, v4, v5, σ)) (I p) (I (i + 1)) (I had) (I l) (I m) σ) _
    rw [← hS]
    clear hS
    unfold rM_handsB rM_handsB_71
    have hB1 := hB.1
    rw [eM_lengthOf hW.2.2.2.2 r1 hp, bnd2_e, brc_f (show ¬ ¬ I (i + 1) = I (R 1 p + 1) by rw [show i = R 1 p by omega]; exact fun h => h rfl), show ib (5 : Int32) 320 = true from rfl, chk_e, show (5 : Int32).toNatClampNeg = 5 from rfl, hW.1.2.2.2.2.2.1, hat.1]
    unfold rl
    by_cases hn : m ≤ T 0 5
    · rw [brc_f (show ¬ I (T 0 5) < I m by rw [I_lt (by omega) (by omega)]; omega)]
      by_cases hb : B.1 < l + 1
      · rw [brc_f (show ¬ I l ≤ nz B.1 by rw [le_nz (by omega) (by omega)]; omega), if_pos ⟨hn, hb⟩, nmE, nmE, nmE]
        have f1 : hM σ (setI (setI σ 0 42 (I l)) 0 41 (I p)) := frO_f (frO_f frO_refl _ (by decide)) _ (by decide)
        refine wp_for (fun n2 a => ∃ (q : Nat) (τ : St), q + n2 = i + 1 ∧ 1 ≤ q ∧ a = (I (i + 1), I q, τ) ∧ (∀ k, k + 1 < q → τ.1 24 k = I (w k)) ∧ (∀ k, k < i → τ.1 23 (k + 1) = I (w k)) ∧ τ.1 0 42 = I l ∧ τ.1 0 41 = I p ∧ hM σ τ) ?_ ?_ i fu _ ⟨1, _, by omega, by omega, rfl, fun k h => by omega, fun k hk => ?_, ?_, ?_, f1⟩ (by unfold fu; omega)
        · rintro n2 a k ⟨q, τ, hq, hq1, rfl, t1, t2, t3, t4, f⟩ hk
          show wp (rM_handsB_43 S (fun v2 v6 σ => k (v2, v6, σ)) (I (i + 1)) (I q) τ) _
          unfold rM_handsB_43
          rw [brc_f (show ¬ I (i + 1) ≤ I q by rw [I_le (by omega) (by omega)]; omega), chk_t (ib_I (show q < 7 by omega) (by omega)), I1, I_sub (by omega), chk_t (ib_I (show q - 1 < 7 by omega) (by omega)), nmE, nmE, oi1, I_add, I_cl (by omega), I_cl (by omega)]
          refine hk _ ⟨q + 1, _, by omega, by omega, rfl, fun k hk' => ?_, fun k hk' => ?_, ?_, ?_, frO_c f _ (by decide) (by decide)⟩
          · by_cases e : k = q - 1
            · rw [e, gI_same]
              have := t2 (q - 1) (by omega)
              rw [show q - 1 + 1 = q by omega] at this
              exact this
            · rw [gI_ne2 _ _ _ e]; exact t1 k (by omega)
          · rw [gI_ne1 _ _ _ (by decide)]; exact t2 k hk'
          · rw [gI_ne1 _ _ _ (by decide)]; exact t3
          · rw [gI_ne1 _ _ _ (by decide)]; exact t4
        · rintro a k ⟨q, τ, hq, hq1, rfl, t1, t2, t3, t4, f⟩
          show wp (rM_handsB_43 S (fun v2 v6 σ => k (v2, v6, σ)) (I (i + 1)) (I q) τ) _
          unfold rM_handsB_43 rM_handsB_71
          rw [brc_t (show I (i + 1) ≤ I q by rw [I_le (by omega) (by omega)]; omega)]
          refine wp_some ⟨⟨t3, fun _ => t4, fun k hk _ => t1 k ?_⟩, t2, f⟩
          have hk' : k < R 1 p := hk
          omega
        · rw [gI_ne1 _ _ _ (by decide), gI_ne1 _ _ _ (by decide)]; exact hrow k hk
        · rw [gI_ne2 _ _ _ (by decide), gI_same]
        · rw [gI_same]
      · rw [brc_t (show I l ≤ nz B.1 by rw [le_nz (by omega) (by omega)]; omega), if_neg (fun h => hb h.2)]
        exact wp_some ⟨hat, hrow, frO_refl⟩
    · rw [brc_t (show I (T 0 5) < I m by rw [I_lt (by omega) (by omega)]; omega), if_neg (fun h => hn h.1)]
      exact wp_some ⟨hat, hrow, frO_refl⟩
  | succ n ih =>
    intro d i h had l m w B σ hi hd hh0 hh hhad hl hm hB hW hat hrow
    obtain ⟨d, rfl⟩ : ∃ k, d = k + 1 := ⟨d - 1, by omega⟩
    have hs0 := rc i (by omega)
    have hs1 := rc (i + 1) (by omega)
    obtain ⟨S, hS⟩ : ∃ S : Int32 → Int32 → Int32 → Int32 → Int32 → St → Option St, S = fun v1 v2 v3 v4 v5 σ => lp rM_hands_F d (v1, v2, v3, v4, v5, σ) := ⟨_, rfl⟩
    have hrec : ∀ (h had l m : Nat) (w : Nat → Nat) (B : RB) (σ : St), w i = h → h < 6 → had < 64 → l ≤ 900 → m ≤ 200 * (i + 1) → wfB R B → WM T D R LD LP σ → atRM R B σ → (∀ k, k < i + 1 → σ.1 23 (k + 1) = I (w k)) → wp (S (I p) (I (i + 1 + 1)) (I had) (I l) (I m) σ) (fun τ => atRM R (rl T D R LD p n (i + 1) h had l m w B) τ ∧ (∀ k, k < i + 1 → τ.1 23 (k + 1) = I (w k)) ∧ hM σ τ) := fun h had l m w B σ b1 b2 b3 b4 b5 b6 b7 b8 b9 => by
      rw [hS]
      exact ih d (i + 1) h had l m w B σ (by omega) (by omega) (Or.inr ⟨by omega, by rw [Nat.add_sub_cancel]; exact b1⟩) (Or.inr b2) b3 b4 b5 b6 b7 b8 b9
    show wp (rM_handsB (fun v1 v2 v3 v4 v5 σ => lp rM_hands_F d (v1, v2, v3, v4, v5, σ)) (I p) (I (i + 1)) (I had) (I l) (I m) σ) _
    rw [← hS]
    clear hS ih
    unfold rM_handsB
    rw [eM_lengthOf hW.2.2.2.2 r1 hp, bnd2_e, brc_t (show ¬ I (i + 1) = I (R 1 p + 1) by rw [I_inj (by omega) (by omega)]; omega), nmE]
    have erl : rl T D R LD p (n + 1) i h had l m w B = fc (fun c B => if ¬ c = h ∧ ¬ had / 2 ^ c % 2 = 0 then B else
      rl T D R LD p n (i + 1) c (had ||| 2 ^ c)
        (min l (hol T c) - drp T (D 4 5) c (trQ R p i) (min l (hol T c)) - rlD T D LD R p i c (min l (hol T c) - drp T (D 4 5) c (trQ R p i) (min l (hol T c))) (m + mns T c (trQ R p i)))
        (m + mns T c (trQ R p i)) (updN w i c) B) (T 0 2) B := by rw [rl]
    rw [erl]
    generalize hf : (fun c B => if ¬ c = h ∧ ¬ had / 2 ^ c % 2 = 0 then B else
      rl T D R LD p n (i + 1) c (had ||| 2 ^ c)
        (min l (hol T c) - drp T (D 4 5) c (trQ R p i) (min l (hol T c)) - rlD T D LD R p i c (min l (hol T c) - drp T (D 4 5) c (trQ R p i) (min l (hol T c))) (m + mns T c (trQ R p i)))
        (m + mns T c (trQ R p i)) (updN w i c) B : Nat → RB → RB) = f
    refine wp_for (fun n2 a => ∃ (c : Nat) (τ : St), c + n2 = T 0 2 ∧ a = (I p, I (i + 1), I had, I l, I m, I c, τ) ∧ wfB R (fc f c B) ∧ atRM R (fc f c B) τ ∧ (∀ k, k < i → τ.1 23 (k + 1) = I (w k)) ∧ hM σ τ) ?_ ?_ (T 0 2) fu _ ⟨0, σ, by omega, rfl, hB, hat, hrow, frO_refl⟩ (by unfold fu; omega)
    · rintro n2 a k ⟨c, τ, hcn, rfl, wB, t1, t2, fh⟩ hk
      have hc : c < T 0 2 := by omega
      have hc6 : c < 6 := by omega
      have hhol := hol_le hw.1 hc
      have hWτ := WM_h fh hW
      have ef : fc f (c + 1) B = f c (fc f c B) := rfl
      have next : ∀ υ : St, atRM R (f c (fc f c B)) υ → wfB R (f c (fc f c B)) → (∀ k, k < i → υ.1 23 (k + 1) = I (w k)) → hM σ υ → wp (rM_handsB_229 S (fun v1 v2 v3 v4 v5 v6 σ => k (v1, v2, v3, v4, v5, v6, σ)) (I p) (I (i + 1)) (I had) (I l) (I m) (I c) υ) (fun τ => atRM R (fc f (T 0 2) B) τ ∧ (∀ k, k < i → τ.1 23 (k + 1) = I (w k)) ∧ hM σ τ) := by
        intro υ u1 u2 u3 u4
        unfold rM_handsB_229
        rw [nmE, oi1, I_add]
        exact hk _ ⟨c + 1, υ, by omega, rfl, by rw [ef]; exact u2, by rw [ef]; exact u1, u3, u4⟩
      generalize fc f c B = B1 at *
      have efc : f c B1 = if ¬ c = h ∧ ¬ had / 2 ^ c % 2 = 0 then B1 else
        rl T D R LD p n (i + 1) c (had ||| 2 ^ c)
        (min l (hol T c) - drp T (D 4 5) c (trQ R p i) (min l (hol T c)) - rlD T D LD R p i c (min l (hol T c) - drp T (D 4 5) c (trQ R p i) (min l (hol T c))) (m + mns T c (trQ R p i)))
        (m + mns T c (trQ R p i)) (updN w i c) B1 := by rw [← hf]
      show wp (rM_handsB_75 S (fun v1 v2 v3 v4 v5 v6 σ => k (v1, v2, v3, v4, v5, v6, σ)) (I p) (I (i + 1)) (I had) (I l) (I m) (I c) τ) _
      unfold rM_handsB_75 rM_handsB_106
      rw [eM_carriers, bnd2_e, hWτ.1.2.2.1, brc_f (show ¬ I (T 0 2) ≤ I c by rw [I_le (by omega) (by omega)]; omega)]
      have take : ¬ (¬ c = h ∧ ¬ had / 2 ^ c % 2 = 0) → wp (rM_handsB_123 S (fun v1 v2 v3 v4 v5 v6 σ => k (v1, v2, v3, v4, v5, v6, σ)) (I p) (I (i + 1)) (I had) (I l) (I m) (I c) τ) (fun τ => atRM R (fc f (T 0 2) B) τ ∧ (∀ k, k < i → τ.1 23 (k + 1) = I (w k)) ∧ hM σ τ) := by
        intro hno
        rw [if_neg hno] at efc
        unfold rM_handsB_123
        have f0 : hM τ (setI τ 23 (i + 1) (I c)) := frO_c frO_refl _ (by decide) (by decide)
        have hW0 := WM_h f0 hWτ
        rw [chk_t (ib_I (show i + 1 < 7 by omega) (by omega)), nmE, I_cl (by omega), eM_holdsT hw.1 hW0.1 hc, bnd2_e, eM_holdsT hw.1 hW0.1 hc, bnd2_e]
        have hrow0 : ∀ q, q < i + 1 → (setI τ 23 (i + 1) (I c)).1 23 (q + 1) = I (updN w i c q) := fun q hq => by
          unfold updN
          by_cases e : q = i
          · rw [if_pos e, e, gI_same]
          · rw [if_neg e, gI_ne2 _ _ _ (by omega)]; exact t2 q (by omega)
        have hat0 : atRM R B1 (setI τ 23 (i + 1) (I c)) := by
          unfold atRM
          rw [gI_ne1 _ _ _ (by decide), gI_ne1 _ _ _ (by decide)]; exact t1
        have g154 : ∀ l0, l0 = min l (hol T c) → wp (rM_handsB_154 S (fun v1 v2 v3 v4 v5 v6 σ => k (v1, v2, v3, v4, v5, v6, σ)) (I p) (I (i + 1)) (I had) (I l) (I m) (I c) (I l0) (setI τ 23 (i + 1) (I c))) (fun τ => atRM R (fc f (T 0 2) B) τ ∧ (∀ k, k < i → τ.1 23 (k + 1) = I (w k)) ∧ hM σ τ) := by
          intro l0 el
          have hml : l0 ≤ l := by rw [el]; exact Nat.min_le_left _ _
          rw [← el] at efc
          unfold rM_handsB_154
          rw [nmE, nmE]
          generalize hσ1 : setI (setI (setI τ 23 (i + 1) (I c)) 0 30 (I l0)) 0 31 (I m) = σ1
          have f1 : sM (setI τ 23 (i + 1) (I c)) σ1 := by
            rw [← hσ1]
            exact frO_f (frO_f frO_refl _ (by decide)) _ (by decide)
          have a5 : σ1.1 0 30 = I l0 := by rw [← hσ1, gI_ne2 _ _ _ (by decide), gI_same]
          have a6 : σ1.1 0 31 = I m := by rw [← hσ1, gI_same]
          have hW1 := WM_s f1 hW0
          rw [I1, I_sub (by omega), Nat.add_sub_cancel, eM_stationOf hW1.2.2.2.2 r1 hp ra (by omega), bnd2_e, eM_stationOf hW1.2.2.2.2 r1 hp ra (by omega), bnd2_e, eM_goesWay hw.1 hW1.1 hW1.2.2.1 hw.2.1 hc (by omega) (by omega) (rd i (by omega)) a5 a6 (by omega), bnd1_e]
          generalize hσ2 : setI (setI (setI σ1 0 30 _) 0 33 _) 0 31 _ = σ2
          have f2 : sM σ1 σ2 := by
            rw [← hσ2]
            exact frO_f (frO_f (frO_f frO_refl _ (by decide)) _ (by decide)) _ (by decide)
          have g5 : σ2.1 0 30 = I (l0 - drp T (D 4 5) c (trQ R p i) l0) := by
            rw [← hσ2, gI_ne2 _ _ _ (by decide), gI_ne2 _ _ _ (by decide), gI_same]; rfl
          have g6 : σ2.1 0 31 = I (m + mns T c (trQ R p i)) := by
            rw [← hσ2, gI_same]; rfl
          have hW2 := WM_s f2 hW1
          have hmn : mns T c (trQ R p i) ≤ 200 := mns_le hw.1 c (by unfold trQ; omega)
          have f12 := frO_tr f1 f2
          have hdr : l0 - drp T (D 4 5) c (trQ R p i) l0 ≤ 900 := by omega
          generalize l0 - drp T (D 4 5) c (trQ R p i) l0 = l1 at *
          have hmm : m + mns T c (trQ R p i) ≤ 200 * (i + 1) := by omega
          generalize m + mns T c (trQ R p i) = m1 at *
          rw [eM_lengthOf hW2.2.2.2.2 r1 hp, bnd2_e, I_sub (by omega), Nat.add_sub_cancel]
          have fin : ∀ (υ : St) (n1 : Nat), n1 = rlD T D LD R p i c l1 m1 → υ.1 0 30 = I (l1 - n1) → υ.1 0 31 = I m1 → sM (setI τ 23 (i + 1) (I c)) υ → wp (rM_handsB_207 S (fun v1 v2 v3 v4 v5 v6 σ => k (v1, v2, v3, v4, v5, v6, σ)) (I p) (I (i + 1)) (I had) (I l) (I m) (I c) υ) (fun τ => atRM R (fc f (T 0 2) B) τ ∧ (∀ k, k < i → τ.1 23 (k + 1) = I (w k)) ∧ hM σ τ) := by
            intro υ n1 en v5 v6 fυ
            rw [← en] at efc
            unfold rM_handsB_207
            rw [v5, v6, I1, I_add, show I had ||| I 1 <<< (I c &&& 31) = I (had ||| 2 ^ c) from bitorI hhad hc6]
            have fA := frO_tr fh (frO_tr f0 (hM_s fυ))
            have hwf : wfB R (f c B1) := by rw [efc]; exact rl_wf hp _ _ _ _ _ _ _ _ (by omega) wB
            have e23 : υ.1 23 = (setI τ 23 (i + 1) (I c)).1 23 := fυ.1 23 (by decide) (by decide)
            refine wp_bnd1 (wp_mono (hrec c (had ||| 2 ^ c) (l1 - n1) m1 (updN w i c) B1 υ (if_pos rfl) hc6 (bitorlt hhad hc6) (by omega) hmm wB (WM_h fA hW) (by
              unfold atRM
              rw [fυ.2.1 42 (by decide), fυ.2.1 41 (by decide), fυ.1 24 (by decide) (by decide)]; exact hat0) (fun q hq => by rw [e23]; exact hrow0 q hq)) ?_)
            rintro ω ⟨w1, w2, f6⟩
            refine next ω (by rw [efc]; exact w1) hwf (fun q hq => ?_) (frO_tr fA f6)
            rw [w2 q (by omega)]
            unfold updN
            rw [if_neg (by omega)]
          by_cases hlast : i + 1 < R 1 p
          · rw [brc_f (show ¬ I (R 1 p) ≤ I (i + 1) by rw [I_le (by omega) (by omega)]; omega), eM_stationOf hW2.2.2.2.2 r1 hp ra (by omega), bnd2_e]
            obtain ⟨υ, e1, v5, v6, v7, v8, f4⟩ := eM_drinksAt hw.1 hW2.1 hW2.2.1 hw.2.2.1 hW2.2.2.2.1 hc hs1 g5 g6 (by omega)
            rw [e1, bnd2_e]
            exact fin υ _ (by unfold rlD; rw [if_pos hlast]) v5 v6 (frO_tr f12 f4)
          · rw [brc_t (show I (R 1 p) ≤ I (i + 1) by rw [I_le (by omega) (by omega)]; omega)]
            exact fin σ2 0 (by unfold rlD; rw [if_neg hlast]) (by rw [Nat.sub_zero]; exact g5) g6 f12
        by_cases hle : l ≤ hol T c
        · rw [brc_t (show I l ≤ I (hol T c) by rw [I_le (by omega) (by omega)]; exact hle)]
          exact g154 l (Nat.min_eq_left hle).symm
        · rw [brc_f (show ¬ I l ≤ I (hol T c) by rw [I_le (by omega) (by omega)]; exact hle)]
          exact g154 _ (Nat.min_eq_right (by omega)).symm
      have other : ¬ c = h → wp (rM_handsB_107 S (fun v1 v2 v3 v4 v5 v6 σ => k (v1, v2, v3, v4, v5, v6, σ)) (I p) (I (i + 1)) (I had) (I l) (I m) (I c) 0 τ) (fun τ => atRM R (fc f (T 0 2) B) τ ∧ (∀ k, k < i → τ.1 23 (k + 1) = I (w k)) ∧ hM σ τ) := by
        intro hne
        unfold rM_handsB_107
        rw [nmE, brc_f (show ¬ ¬ (0 : Int32) = 0 from fun h => h rfl), show (I had >>> (I c &&& 31)) &&& (1 : Int32) = I (had / 2 ^ c % 2) from I_bit hhad hc6]
        refine wp_brc (fun e3 => ?_) (fun e3 => ?_)
        · have hb : ¬ had / 2 ^ c % 2 = 0 := fun e4 => e3 (by rw [e4]; rfl)
          rw [if_pos ⟨hne, hb⟩] at efc
          exact next τ (by rw [efc]; exact t1) (by rw [efc]; exact wB) t2 fh
        · exact take (fun h9 => e3 (fun e5 => h9.2 ((I_inj (by omega) (by omega)).mp e5)))
      rcases hh0 with ⟨hi0, h99⟩ | ⟨hi1, hwi⟩
      · rw [brc_t (show I (i + 1) ≤ 1 by rw [hi0]; decide)]
        exact other (by omega)
      · rw [brc_f (show ¬ I (i + 1) ≤ 1 by rw [I1, I_le (by omega) (by omega)]; omega), I1, I_sub (by omega), Nat.add_sub_cancel, chk_t (ib_I (show i < 7 by omega) (by omega)), I_cl (by omega)]
        have e23 : τ.1 23 i = I (w (i - 1)) := by
          have := t2 (i - 1) (by omega)
          rw [show i - 1 + 1 = i by omega] at this
          exact this
        rw [e23, hwi]
        have h6' : h = 99 ∨ h < 6 := hh
        refine wp_brc (fun e => ?_) (fun e => ?_)
        · exact other (fun e2 => e (by rw [e2]))
        · have e2 : h = c := (I_inj (by omega) (by omega)).mp (Classical.not_not.mp e)
          unfold rM_handsB_107
          rw [nmE, brc_t (show ¬ I 1 = 0 by decide)]
          exact take (fun h9 => h9.1 e2.symm)
    · rintro a k ⟨c, τ, hcn, rfl, wB, t1, t2, fh⟩
      have hWτ := WM_h fh hW
      show wp (rM_handsB_75 S (fun v1 v2 v3 v4 v5 v6 σ => k (v1, v2, v3, v4, v5, v6, σ)) (I p) (I (i + 1)) (I had) (I l) (I m) (I c) τ) _
      unfold rM_handsB_75
      rw [eM_carriers, bnd2_e, hWτ.1.2.2.1, brc_t (show I (T 0 2) ≤ I c by rw [I_le (by omega) (by omega)]; omega)]
      rw [show c = T 0 2 by omega] at t1
      exact wp_some ⟨t1, t2, fh⟩
