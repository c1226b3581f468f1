/-! a trip -/
def trQ (R : Vw) (p i : Nat) : Nat := 7 * R (2 + p) i + R (2 + p) (i + 1)
def trN (T D R : Vw) (LD : List Nat) (c p i l m : Nat) : Nat := if i + 1 < R 1 p then drk T D LD c (R (2 + p) (i + 1)) l m else 0
def trS (T D R : Vw) (LD : List Nat) (c p i : Nat) (t : Nat × Nat × Nat × Nat) : Nat × Nat × Nat × Nat :=
  (t.1 - drp T (D 4 5) c (trQ R p i) t.1 - trN T D R LD c p i (t.1 - drp T (D 4 5) c (trQ R p i) t.1) (t.2.1 + mns T c (trQ R p i)), t.2.1 + mns T c (trQ R p i), t.2.2.1 + trN T D R LD c p i (t.1 - drp T (D 4 5) c (trQ R p i) t.1) (t.2.1 + mns T c (trQ R p i)), t.2.2.2 + drp T (D 4 5) c (trQ R p i) t.1)
def tr (T D R : Vw) (LD : List Nat) (c p ld : Nat) : Nat → Nat × Nat × Nat × Nat
  | 0 => (ld, 0, 0, 0)
  | i + 1 => trS T D R LD c p i (tr T D R LD c p ld i)
theorem tr_le (T D R : Vw) (LD : List Nat) (c p ld : Nat) : ∀ i, (tr T D R LD c p ld i).1 ≤ ld
  | 0 => Nat.le_refl _
  | i + 1 => by
    have := tr_le T D R LD c p ld i
    show (tr T D R LD c p ld i).1 - _ - _ ≤ ld
    omega
/-- what a walk needs of the class's and of the reference's state -/
def wfW (T D R : Vw) (LD LP : List Nat) : Prop := wfT T ∧ D 4 5 < 64 ∧ wfL LD LP ∧ wfR T R
def WX (T D R : Vw) (LD LP : List Nat) (σ : St) : Prop := XMt T σ ∧ (∀ q, q < 36 → σ.1 38 q = I (D 0 q)) ∧ (∀ c, c < 6 → σ.1 37 c = I (D 4 5 / 2 ^ c % 2)) ∧ XL LD LP σ ∧ XR R σ
def WM (T D R : Vw) (LD LP : List Nat) (σ : St) : Prop := MT T σ ∧ (∀ q, q < 36 → σ.1 16 q = I (D 0 q)) ∧ σ.1 16 36 = I (D 4 5) ∧ MLw LD LP σ ∧ MR R σ
theorem XL_fr {LD LP : List Nat} {σ τ : St} (h : τ.2.2 = σ.2.2) (hx : XL LD LP σ) : XL LD LP τ := by
  unfold XL lawok lawc Kn at *
  rw [h]
  exact hx
theorem MLw_fr {LD LP : List Nat} {σ τ : St} (h6 : τ.1 6 = σ.1 6) (h8 : τ.1 8 = σ.1 8) (h9 : τ.1 9 = σ.1 9) (hx : MLw LD LP σ) : MLw LD LP τ := by
  unfold MLw at *
  rw [h6]
  refine ⟨?_, ?_⟩
  · rcases hx.1 with h | ⟨a, h1, h2, h3⟩
    · exact Or.inl h
    · exact Or.inr ⟨a, h1, h2, ML_fr h8 h9 _ _ h3⟩
  · rcases hx.2 with h | ⟨a, h1, h2, h3⟩
    · exact Or.inl h
    · exact Or.inr ⟨a, h1, h2, ML_fr h8 h9 _ _ h3⟩
theorem WX_fr {T D R : Vw} {LD LP : List Nat} {σ τ : St} (h1 : ∀ i, 23 ≤ i → i ≤ 31 → τ.1 i = σ.1 i) (h2 : τ.1 37 = σ.1 37) (h3 : τ.1 38 = σ.1 38) (h4 : τ.1 42 3 = σ.1 42 3) (h5 : τ.1 43 = σ.1 43) (h6 : τ.1 44 = σ.1 44) (h7 : τ.2.2 = σ.2.2) (hx : WX T D R LD LP σ) : WX T D R LD LP τ := by
  obtain ⟨a, b, c, d, e⟩ := hx
  refine ⟨XMt_fr h1 a, ?_, ?_, XL_fr h7 d, XR_fr h4 h5 h6 e⟩
  · rw [h3]; exact b
  · rw [h2]; exact c
theorem WX_s {T D R : Vw} {LD LP : List Nat} {σ τ : St} (h : sX σ τ) (hx : WX T D R LD LP σ) : WX T D R LD LP τ :=
  WX_fr (fun i h1 h2 => h.1 i (by simp; omega) (by omega)) (h.1 37 (by decide) (by decide)) (h.1 38 (by decide) (by decide)) (by rw [h.1 42 (by decide) (by decide)]) (h.1 43 (by decide) (by decide)) (h.1 44 (by decide) (by decide)) (by rw [h.2.2]) hx
theorem WM_fr {T D R : Vw} {LD LP : List Nat} {σ τ : St} (h6 : τ.1 6 = σ.1 6) (h8 : τ.1 8 = σ.1 8) (h9 : τ.1 9 = σ.1 9) (h16 : ∀ q, q ≤ 36 → τ.1 16 q = σ.1 16 q) (h0 : τ.1 0 27 = σ.1 0 27) (h18 : τ.1 18 = σ.1 18) (hx : WM T D R LD LP σ) : WM T D R LD LP τ := by
  obtain ⟨a, b, c, d, e⟩ := hx
  exact ⟨MT_fr h6 a, fun q hq => by rw [h16 q (by omega)]; exact b q hq, by rw [h16 36 (by omega)]; exact c, MLw_fr h6 h8 h9 d, MR_fr h0 h18 e⟩
theorem WM_s {T D R : Vw} {LD LP : List Nat} {σ τ : St} (h : sM σ τ) (hx : WM T D R LD LP σ) : WM T D R LD LP τ :=
  WM_fr (h.1 6 (by decide) (by decide)) (h.1 8 (by decide) (by decide)) (h.1 9 (by decide) (by decide)) (fun q _ => by rw [h.1 16 (by decide) (by decide)]) (h.2.1 27 (by decide)) (h.1 18 (by decide) (by decide)) hx
theorem eX_rlastOf {R : Vw} {σ : St} (hR : XR R σ) {p : Nat} (h37 : R 0 0 ≤ 37) (hp : p < R 0 0) : rX_rlastOf (I p) σ = some (I (R 1 p), σ) := by
  unfold rX_rlastOf
  rw [chk_t (ib_I (by omega) (by omega)), I_cl (by omega), (hR.2 p hp).1]
theorem eX_rstationAt {R : Vw} {σ : St} (hR : XR R σ) {p i : Nat} (h37 : R 0 0 ≤ 37) (hp : p < R 0 0) (hl : R 1 p ≤ 6) (hi : i ≤ R 1 p) : rX_rstationAt (I p) (I i) σ = some (I (R (2 + p) i), σ) := by
  unfold rX_rstationAt
  simp only [litN, I_mul, I_add]
  rw [Nat.mul_comm p 7, chk_t (ib_I (by omega) (by omega)), I_cl (by omega), (hR.2 p hp).2 i hi]
theorem eM_lengthOf {R : Vw} {σ : St} (hR : MR R σ) {p : Nat} (h37 : R 0 0 ≤ 37) (hp : p < R 0 0) : rM_lengthOf (I p) σ = some (I (R 1 p + 1), σ) := by
  unfold rM_lengthOf
  simp only [litN, I_mul]
  rw [chk_t (ib_I (by omega) (by omega)), I_cl (by omega), (hR.2 p hp).1]
theorem eM_stationOf {R : Vw} {σ : St} (hR : MR R σ) {p i : Nat} (h37 : R 0 0 ≤ 37) (hp : p < R 0 0) (hl : R 1 p ≤ 6) (hi : i ≤ R 1 p) : rM_stationOf (I p) (I i) σ = some (I (R (2 + p) i), σ) := by
  unfold rM_stationOf
  simp only [litN, I_mul, I_add]
  rw [chk_t (ib_I (by omega) (by omega)), I_cl (by omega), (hR.2 p hp).2 i hi]
def atX (t : Nat × Nat × Nat × Nat) (σ : St) : Prop := σ.1 46 5 = I t.1 ∧ σ.1 46 6 = I t.2.1 ∧ σ.1 46 7 = I t.2.2.1 ∧ σ.1 46 8 = I t.2.2.2
def atM (t : Nat × Nat × Nat × Nat) (σ : St) : Prop := σ.1 0 30 = I t.1 ∧ σ.1 0 31 = I t.2.1 ∧ σ.1 0 32 = I t.2.2.1 ∧ σ.1 0 33 = I t.2.2.2
theorem X_trip {T D R : Vw} {LD LP : List Nat} {c p ld : Nat} (hw : wfW T D R LD LP) (hc : c < T 0 2) (hp : p < R 0 0) (hld : ld ≤ 1000) : ∀ (n i : Nat) (σ : St) (fuel : Nat), WX T D R LD LP σ → i + n = R 1 p → n < fuel → atX (tr T D R LD c p ld i) σ → ∃ τ, lp rX_goAll_33L fuel (I c, I p, 0, I (R 1 p), I (i + 1), σ) = some τ ∧ atX (tr T D R LD c p ld (R 1 p)) τ ∧ sX σ τ := by
  intro n
  obtain ⟨w1, w2, w3, r1, r2⟩ := hw
  obtain ⟨ra, rb, rc, rd⟩ := r2 p hp
  induction n with
  | zero =>
    intro i σ fuel hW hi hf ha
    obtain ⟨fuel, rfl⟩ : ∃ k, fuel = k + 1 := ⟨fuel - 1, by omega⟩
    refine ⟨σ, ?_, ?_, frO_refl⟩
    · show rX_goAll_33 _ (I c) (I p) 0 (I (R 1 p)) (I (i + 1)) σ = _
      unfold rX_goAll_33
      rw [brc_t (show I (R 1 p) < I (i + 1) by rw [I_lt (by omega) (by omega)]; omega)]
    · rw [show R 1 p = i by omega]; exact ha
  | succ n ih =>
    intro i σ fuel hW hi hf ha
    obtain ⟨fuel, rfl⟩ : ∃ k, fuel = k + 1 := ⟨fuel - 1, by omega⟩
    obtain ⟨K, hK⟩ : ∃ K : Int32 → Int32 → Int32 → Int32 → Int32 → St → Option St, K = fun v1 v2 v4 v5 v6 σ => lp rX_goAll_33L fuel (v1, v2, v4, v5, v6, σ) := ⟨_, rfl⟩
    replace ih : ∀ (σ : St), WX T D R LD LP σ → atX (tr T D R LD c p ld (i + 1)) σ → ∃ τ, K (I c) (I p) 0 (I (R 1 p)) (I (i + 1 + 1)) σ = some τ ∧ atX (tr T D R LD c p ld (R 1 p)) τ ∧ sX σ τ := fun σ h1 h2 => by
      rw [hK]
      exact ih (i + 1) σ fuel h1 (by omega) (by omega) h2
    show ∃ τ, rX_goAll_33 (fun v1 v2 v4 v5 v6 σ => lp rX_goAll_33L fuel (v1, v2, v4, v5, v6, σ)) (I c) (I p) 0 (I (R 1 p)) (I (i + 1)) σ = some τ ∧ _
    rw [← hK]
    clear hK
    unfold rX_goAll_33
    have hs0 := rc i (by omega)
    have hs1 := rc (i + 1) (by omega)
    have h7 : T 0 0 ≤ 7 := w1.1
    obtain ⟨a5, a6, a7, a8⟩ := ha
    have hle := tr_le T D R LD c p ld i
    rw [brc_f (show ¬ I (R 1 p) < I (i + 1) by rw [I_lt (by omega) (by omega)]; omega), eX_rstationAt hW.2.2.2.2 r1 hp ra (by omega), bnd2_e, nmE, I1, I_sub (by omega), Nat.add_sub_cancel, eX_rstationAt hW.2.2.2.2 r1 hp ra (by omega), bnd2_e,
      eX_goOver w1 hW.1 hW.2.2.1 hc (by omega) (by omega) (rd i (by omega)) a5 a6 (by omega), bnd1_e]
    generalize hσ1 : setI (setI (setI σ 46 5 _) 46 8 _) 46 6 _ = σ1
    have f1 : sX σ σ1 := by
      rw [← hσ1]
      exact frO_c (frO_c (frO_c frO_refl _ (by decide) (by decide)) _ (by decide) (by decide)) _ (by decide) (by decide)
    have g5 : σ1.1 46 5 = I ((tr T D R LD c p ld i).1 - drp T (D 4 5) c (trQ R p i) (tr T D R LD c p ld i).1) := by
      rw [← hσ1, gI_ne2 _ _ _ (by decide), gI_ne2 _ _ _ (by decide), gI_same]; rfl
    have g6 : σ1.1 46 6 = I ((tr T D R LD c p ld i).2.1 + mns T c (trQ R p i)) := by
      rw [← hσ1, gI_same]; rfl
    have g7 : σ1.1 46 7 = I (tr T D R LD c p ld i).2.2.1 := by
      rw [← hσ1, gI_ne2 _ _ _ (by decide), gI_ne2 _ _ _ (by decide), gI_ne2 _ _ _ (by decide)]; exact a7
    have g8 : σ1.1 46 8 = I ((tr T D R LD c p ld i).2.2.2 + drp T (D 4 5) c (trQ R p i) (tr T D R LD c p ld i).1) := by
      rw [← hσ1, gI_ne2 _ _ _ (by decide), gI_same, a8, I_add]; rfl
    have hW1 := WX_s f1 hW
    unfold rX_goAll_116 rX_goAll_90 rX_goAll_116
    by_cases hlast : i + 1 < R 1 p
    · rw [brc_f (show ¬ I (R 1 p) ≤ I (i + 1) by rw [I_le (by omega) (by omega)]; omega), brc_t rfl]
      obtain ⟨τ, e1, t5, t6, t7, t8, f2⟩ := eX_drinkAt w1 hW1.1 hW1.2.1 w3 hW1.2.2.2.1 hc hs1 g5 g6 (by omega)
      rw [e1, bnd2_e, nmE, brc_t rfl, nmE, oi1, I_add]
      obtain ⟨υ, e2, u1, f3⟩ := ih τ (WX_s f2 hW1) (by
        have hN : trN T D R LD c p i ((tr T D R LD c p ld i).1 - drp T (D 4 5) c (trQ R p i) (tr T D R LD c p ld i).1) ((tr T D R LD c p ld i).2.1 + mns T c (trQ R p i)) = drk T D LD c (R (2 + p) (i + 1)) ((tr T D R LD c p ld i).1 - drp T (D 4 5) c (trQ R p i) (tr T D R LD c p ld i).1) ((tr T D R LD c p ld i).2.1 + mns T c (trQ R p i)) := if_pos hlast
        unfold atX tr trS
        rw [hN]
        refine ⟨t5, t6, ?_, ?_⟩
        · rw [t7, g7, I_add]
        · rw [t8, g8])
      exact ⟨υ, e2, u1, frO_tr (frO_tr f1 f2) f3⟩
    · rw [brc_t (show I (R 1 p) ≤ I (i + 1) by rw [I_le (by omega) (by omega)]; omega), nmE, oi1, I_add]
      obtain ⟨υ, e2, u1, f3⟩ := ih σ1 hW1 (by
        have hN : trN T D R LD c p i ((tr T D R LD c p ld i).1 - drp T (D 4 5) c (trQ R p i) (tr T D R LD c p ld i).1) ((tr T D R LD c p ld i).2.1 + mns T c (trQ R p i)) = 0 := if_neg hlast
        unfold atX tr trS
        rw [hN]
        exact ⟨g5, g6, g7, g8⟩)
      exact ⟨υ, e2, u1, frO_tr f1 f3⟩
theorem eX_goAll0 {T D R : Vw} {LD LP : List Nat} {c p ld : Nat} (hw : wfW T D R LD LP) (hc : c < T 0 2) (hp : p < R 0 0) (hld : ld ≤ 1000) {σ : St} (hW : WX T D R LD LP σ) : ∃ τ, rX_goAll (I c) (I p) (I ld) 0 σ = some τ ∧ atX (tr T D R LD c p ld (R 1 p)) τ ∧ sX σ τ := by
  obtain ⟨ra, rb, rc, rd⟩ := hw.2.2.2.2 p hp
  unfold rX_goAll
  rw [eX_rlastOf hW.2.2.2.2 hw.2.2.2.1 hp, bnd2_e, nmE, nmE, nmE, nmE, nmE, nmE]
  have f1 : sX σ (setI (setI (setI (setI σ 46 5 (I ld)) 46 6 0) 46 7 0) 46 8 0) :=
    frO_c (frO_c (frO_c (frO_c frO_refl _ (by decide) (by decide)) _ (by decide) (by decide)) _ (by decide) (by decide)) _ (by decide) (by decide)
  obtain ⟨τ, e, t, f2⟩ := X_trip hw hc hp hld (R 1 p) 0 _ fu (WX_s f1 hW) (by omega) (by unfold fu; omega) (by
    refine ⟨?_, ?_, ?_, ?_⟩
    · rw [gI_ne2 _ _ _ (by decide), gI_ne2 _ _ _ (by decide), gI_ne2 _ _ _ (by decide), gI_same]; rfl
    · rw [gI_ne2 _ _ _ (by decide), gI_ne2 _ _ _ (by decide), gI_same]; rfl
    · rw [gI_ne2 _ _ _ (by decide), gI_same]; rfl
    · rw [gI_same]; rfl)
  exact ⟨τ, e, t, frO_tr f1 f2⟩
theorem M_trip {T D R : Vw} {LD LP : List Nat} {c p ld : Nat} (hw : wfW T D R LD LP) (hc : c < T 0 2) (hp : p < R 0 0) (hld : ld ≤ 1000) : ∀ (n i : Nat) (σ : St) (fuel : Nat), WM T D R LD LP σ → i + n = R 1 p → n < fuel → atM (tr T D R LD c p ld i) σ → ∃ τ, lp rM_goesTrip_8L fuel (I c, I p, I (i + 1), σ) = some τ ∧ atM (tr T D R LD c p ld (R 1 p)) τ ∧ sM σ τ := by
  intro n
  obtain ⟨w1, w2, w3, r1, r2⟩ := hw
  obtain ⟨ra, rb, rc, rd⟩ := r2 p hp
  induction n with
  | zero =>
    intro i σ fuel hW hi hf ha
    obtain ⟨fuel, rfl⟩ : ∃ k, fuel = k + 1 := ⟨fuel - 1, by omega⟩
    refine ⟨σ, ?_, ?_, frO_refl⟩
    · show rM_goesTrip_8 _ (I c) (I p) (I (i + 1)) σ = _
      unfold rM_goesTrip_8
      rw [eM_lengthOf hW.2.2.2.2 r1 hp, bnd2_e, brc_t (show I (R 1 p + 1) ≤ I (i + 1) by rw [I_le (by omega) (by omega)]; omega)]
    · rw [show R 1 p = i by omega]; exact ha
  | succ n ih =>
    intro i σ fuel hW hi hf ha
    obtain ⟨fuel, rfl⟩ : ∃ k, fuel = k + 1 := ⟨fuel - 1, by omega⟩
    obtain ⟨K, hK⟩ : ∃ K : Int32 → Int32 → Int32 → St → Option St, K = fun v1 v2 v4 σ => lp rM_goesTrip_8L fuel (v1, v2, v4, σ) := ⟨_, rfl⟩
    replace ih : ∀ (σ : St), WM T D R LD LP σ → atM (tr T D R LD c p ld (i + 1)) σ → ∃ τ, K (I c) (I p) (I (i + 1 + 1)) σ = some τ ∧ atM (tr T D R LD c p ld (R 1 p)) τ ∧ sM σ τ := fun σ h1 h2 => by
      rw [hK]
      exact ih (i + 1) σ fuel h1 (by omega) (by omega) h2
    show ∃ τ, rM_goesTrip_8 (fun v1 v2 v4 σ => lp rM_goesTrip_8L fuel (v1, v2, v4, σ)) (I c) (I p) (I (i + 1)) σ = some τ ∧ _
    rw [← hK]
    clear hK
    unfold rM_goesTrip_8
    have hs0 := rc i (by omega)
    have hs1 := rc (i + 1) (by omega)
    have h7 : T 0 0 ≤ 7 := w1.1
    obtain ⟨a5, a6, a7, a8⟩ := ha
    have hle := tr_le T D R LD c p ld i
    rw [eM_lengthOf hW.2.2.2.2 r1 hp, bnd2_e, brc_f (show ¬ I (R 1 p + 1) ≤ I (i + 1) by rw [I_le (by omega) (by omega)]; omega), I1, I_sub (by omega), Nat.add_sub_cancel, eM_stationOf hW.2.2.2.2 r1 hp ra (by omega), bnd2_e, eM_stationOf hW.2.2.2.2 r1 hp ra (by omega), bnd2_e,
      eM_goesWay w1 hW.1 hW.2.2.1 w2 hc (by omega) (by omega) (rd i (by omega)) a5 a6 (by omega), bnd1_e]
    generalize hσ1 : setI (setI (setI σ 0 30 _) 0 33 _) 0 31 _ = σ1
    have f1 : sM σ σ1 := by
      rw [← hσ1]
      exact frO_f (frO_f (frO_f frO_refl _ (by decide)) _ (by decide)) _ (by decide)
    have g5 : σ1.1 0 30 = I ((tr T D R LD c p ld i).1 - drp T (D 4 5) c (trQ R p i) (tr T D R LD c p ld i).1) := by
      rw [← hσ1, gI_ne2 _ _ _ (by decide), gI_ne2 _ _ _ (by decide), gI_same]; rfl
    have g6 : σ1.1 0 31 = I ((tr T D R LD c p ld i).2.1 + mns T c (trQ R p i)) := by
      rw [← hσ1, gI_same]; rfl
    have g7 : σ1.1 0 32 = I (tr T D R LD c p ld i).2.2.1 := by
      rw [← hσ1, gI_ne2 _ _ _ (by decide), gI_ne2 _ _ _ (by decide), gI_ne2 _ _ _ (by decide)]; exact a7
    have g8 : σ1.1 0 33 = I ((tr T D R LD c p ld i).2.2.2 + drp T (D 4 5) c (trQ R p i) (tr T D R LD c p ld i).1) := by
      rw [← hσ1, gI_ne2 _ _ _ (by decide), gI_same, a8, I_add]; rfl
    have hW1 := WM_s f1 hW
    rw [eM_lengthOf hW1.2.2.2.2 r1 hp, bnd2_e, I_sub (by omega), Nat.add_sub_cancel]
    unfold rM_goesTrip_64
    by_cases hlast : i + 1 < R 1 p
    · rw [brc_f (show ¬ I (R 1 p) ≤ I (i + 1) by rw [I_le (by omega) (by omega)]; omega), eM_stationOf hW1.2.2.2.2 r1 hp ra (by omega), bnd2_e]
      obtain ⟨τ, e1, t5, t6, t7, t8, f2⟩ := eM_drinksAt w1 hW1.1 hW1.2.1 w3 hW1.2.2.2.1 hc hs1 g5 g6 (by omega)
      rw [e1, bnd2_e, nmE, oi1, I_add]
      obtain ⟨υ, e2, u1, f3⟩ := ih τ (WM_s f2 hW1) (by
        have hN : trN T D R LD c p i ((tr T D R LD c p ld i).1 - drp T (D 4 5) c (trQ R p i) (tr T D R LD c p ld i).1) ((tr T D R LD c p ld i).2.1 + mns T c (trQ R p i)) = drk T D LD c (R (2 + p) (i + 1)) ((tr T D R LD c p ld i).1 - drp T (D 4 5) c (trQ R p i) (tr T D R LD c p ld i).1) ((tr T D R LD c p ld i).2.1 + mns T c (trQ R p i)) := if_pos hlast
        unfold atM tr trS
        rw [hN]
        refine ⟨t5, t6, ?_, ?_⟩
        · rw [t7, g7, I_add]
        · rw [t8, g8])
      exact ⟨υ, e2, u1, frO_tr (frO_tr f1 f2) f3⟩
    · rw [brc_t (show I (R 1 p) ≤ I (i + 1) by rw [I_le (by omega) (by omega)]; omega), nmE, oi1, I_add]
      obtain ⟨υ, e2, u1, f3⟩ := ih σ1 hW1 (by
        have hN : trN T D R LD c p i ((tr T D R LD c p ld i).1 - drp T (D 4 5) c (trQ R p i) (tr T D R LD c p ld i).1) ((tr T D R LD c p ld i).2.1 + mns T c (trQ R p i)) = 0 := if_neg hlast
        unfold atM tr trS
        rw [hN]
        exact ⟨g5, g6, g7, g8⟩)
      exact ⟨υ, e2, u1, frO_tr f1 f3⟩
theorem eM_goesTrip {T D R : Vw} {LD LP : List Nat} {c p ld : Nat} (hw : wfW T D R LD LP) (hc : c < T 0 2) (hp : p < R 0 0) (hld : ld ≤ 1000) {σ : St} (hW : WM T D R LD LP σ) : ∃ τ, rM_goesTrip (I c) (I p) (I ld) σ = some τ ∧ atM (tr T D R LD c p ld (R 1 p)) τ ∧ sM σ τ := by
  obtain ⟨ra, rb, rc, rd⟩ := hw.2.2.2.2 p hp
  unfold rM_goesTrip rM_starts
  rw [nmE, nmE, nmE, nmE, bnd1_e, nmE]
  have f1 : sM σ (setI (setI (setI (setI σ 0 30 (I ld)) 0 31 0) 0 32 0) 0 33 0) :=
    frO_f (frO_f (frO_f (frO_f frO_refl _ (by decide)) _ (by decide)) _ (by decide)) _ (by decide)
  obtain ⟨τ, e, t, f2⟩ := M_trip hw hc hp hld (R 1 p) 0 _ fu (WM_s f1 hW) (by omega) (by unfold fu; omega) (by
    refine ⟨?_, ?_, ?_, ?_⟩
    · rw [gI_ne2 _ _ _ (by decide), gI_ne2 _ _ _ (by decide), gI_ne2 _ _ _ (by decide), gI_same]; rfl
    · rw [gI_ne2 _ _ _ (by decide), gI_ne2 _ _ _ (by decide), gI_same]; rfl
    · rw [gI_ne2 _ _ _ (by decide), gI_same]; rfl
    · rw [gI_same]; rfl)
  exact ⟨τ, e, t, frO_tr f1 f2⟩
