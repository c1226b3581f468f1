/-! the relay, in the class -/
theorem fc_id {β : Type} {f : Nat → β → β} (h : ∀ c b, f c b = b) : ∀ k b, fc f k b = b
  | 0, _ => rfl
  | k + 1, b => by
    unfold fc
    rw [h, fc_id h k b]
theorem rl_late {T D R : Vw} {LD : List Nat} {p : Nat} : ∀ (n i h had l m : Nat) (w : Nat → Nat) (B : RB), T 0 5 < m → rl T D R LD p n i h had l m w B = B
  | 0, i, h, had, l, m, w, B, hm => by
    unfold rl
    rw [if_neg (fun h9 => by omega)]
  | n + 1, i, h, had, l, m, w, B, hm => by
    unfold rl
    refine fc_id (fun c b => ?_) _ _
    split
    · rfl
    · exact rl_late n _ _ _ _ _ _ _ (by omega)
abbrev hX (σ τ : St) : Prop := frO [46, 47, 48, 55, 56] 54 [7, 8] σ τ
theorem hX_s {σ τ : St} (h : sX σ τ) : hX σ τ := ⟨fun i hi _ => by
    by_cases e : i = 49
    · rw [e]; funext j; exact h.2.1 j (List.not_mem_nil)
    · exact h.1 i (by simp at hi ⊢; omega) e, fun j _ => by rw [h.1 54 (by decide) (by decide)], h.2.2⟩
theorem WX_h {T D R : Vw} {LD LP : List Nat} {σ τ : St} (h : hX σ τ) (hx : WX T D R LD LP σ) : WX T D R LD LP τ :=
  WX_fr (fun i h1 h2 => h.1 i (by simp; omega) (by omega)) (h.1 37 (by decide) (by decide)) (h.1 38 (by decide) (by decide)) (by rw [h.1 42 (by decide) (by decide)]) (h.1 43 (by decide) (by decide)) (h.1 44 (by decide) (by decide)) (by rw [h.2.2]) hx
def wfB (R : Vw) (B : RB) : Prop := B.1 ≤ 1000 ∧ B.2.1 ≤ R 0 0 ∧ (B.1 = 0 ↔ B.2.1 = 0)
def atRX (R : Vw) (B : RB) (σ : St) : Prop := σ.1 54 8 = nz B.1 ∧ σ.1 54 7 = nz B.2.1 ∧ (∀ k, k < R 1 (B.2.1 - 1) → ¬ B.2.1 = 0 → σ.1 56 k = I (B.2.2 k))
theorem rl_wf {T D R : Vw} {LD : List Nat} {p : Nat} (hp : p < R 0 0) : ∀ (n i h had l m : Nat) (w : Nat → Nat) (B : RB), l ≤ 900 → wfB R B → wfB R (rl T D R LD p n i h had l m w B)
  | 0, i, h, had, l, m, w, B, hl, hB => by
    unfold rl
    split
    · exact ⟨by show l + 1 ≤ 1000; omega, by show p + 1 ≤ R 0 0; omega, by constructor <;> intro h <;> (simp at h)⟩
    · exact hB
  | n + 1, i, h, had, l, m, w, B, hl, hB => by
    unfold rl
    have : ∀ k, wfB R (fc (fun c B => if ¬ c = h ∧ ¬ had / 2 ^ c % 2 = 0 then B else
      rl T D R LD p n (i + 1) c (had ||| 2 ^ c)
        (min l (hol T c) - drp T (D 4 5) c (trQ R p i) (min l (hol T c)) - rlD T D LD R p i c (min l (hol T c) - drp T (D 4 5) c (trQ R p i) (min l (hol T c))) (m + mns T c (trQ R p i)))
        (m + mns T c (trQ R p i)) (updN w i c) B) k B) := by
      intro k
      induction k with
      | zero => exact hB
      | succ k ih =>
        unfold fc
        split
        · exact ih
        · exact rl_wf hp n _ _ _ _ _ _ _ (by have := Nat.min_le_left l (hol T k); omega) ih
    exact this _
def hI (h : Nat) : Int32 := if h = 99 then -1 else I h
theorem hI_eq {c h : Nat} (hc : c < 6) (hh : h = 99 ∨ h < 6) : (I c = hI h) ↔ c = h := by
  unfold hI
  rcases hh with e | e
  · rw [if_pos e]
    constructor
    · intro h9
      have := congrArg Int32.toInt h9
      rw [I_toInt (by omega), show (-1 : Int32).toInt = -1 from rfl] at this
      omega
    · intro h9; omega
  · rw [if_neg (by omega), I_inj (by omega) (by omega)]
theorem eX_keepBetter {R : Vw} {σ : St} {B : RB} {p l : Nat} {w : Nat → Nat} (hp : p < R 0 0) (h37 : R 0 0 ≤ 37) (h6 : R 1 p ≤ 6) (hB : wfB R B) (ha : atRX R B σ) (h46 : σ.1 46 5 = I l) (hl : l ≤ 900) (hr : σ.1 54 6 = I p) (hw : ∀ k, k < R 1 p → σ.1 55 k = I (w k)) : ∃ τ, rX_keepBetter (I (R 1 p)) σ = some τ ∧ atRX R (if B.1 < l + 1 then (l + 1, p + 1, w) else B) τ ∧ (∀ k, τ.1 55 k = σ.1 55 k) ∧ hX σ τ := by
  have hb := hB.1
  unfold rX_keepBetter rX_keepBetter_47
  rw [h46, ha.1]
  by_cases e : B.1 < l + 1
  · rw [brc_f (show ¬ I l ≤ nz B.1 by rw [le_nz (by omega) (by omega)]; omega), if_pos e, nmE, nmE, gI_ne2 _ _ _ (show (6 : Nat) ≠ 8 by decide), hr]
    have ec : cpb (0 : Int32) (0 : Int32) (I (R 1 p)) 7 7 = true := by
      unfold cpb
      rw [I_toInt (by omega), show (0 : Int32).toInt = 0 from rfl]
      exact decide_eq_true ⟨by omega, by omega, by omega, by omega, by omega⟩
    rw [chk_t ec, nmE]
    refine ⟨_, rfl, ⟨?_, ?_, ?_⟩, ?_, ?_⟩
    · rw [setR_ne _ _ (by decide), gI_ne2 _ _ _ (by decide), gI_same]; rfl
    · rw [setR_ne _ _ (by decide), gI_same]; rfl
    · intro k hk _
      have hk' : k < R 1 p := hk
      rw [setR_same, I_cl (by omega), show (0 : Int32).toNatClampNeg = 0 from rfl, cpy_at (by omega) (by omega), gI_ne1 _ _ _ (by decide), gI_ne1 _ _ _ (by decide), show 0 + (k - 0) = k by omega]
      exact hw k hk'
    · intro k
      rw [setR_ne _ _ (by decide), gI_ne1 _ _ _ (by decide), gI_ne1 _ _ _ (by decide)]
    · exact frO_R (frO_f (frO_f frO_refl _ (by decide)) _ (by decide)) _ (by decide) (by decide)
  · rw [brc_t (show I l ≤ nz B.1 by rw [le_nz (by omega) (by omega)]; omega), if_neg e]
    exact ⟨σ, rfl, ha, fun _ => rfl, frO_refl⟩
theorem X_try {T D R : Vw} {LD LP : List Nat} {p : Nat} (hw : wfW T D R LD LP) (hp : p < R 0 0) : ∀ (n d i h had l m : Nat) (w : Nat → Nat) (B : RB) (σ : St), i + (n + 1) = R 1 p → n + 1 < d → (h = 99 ∨ h < 6) → had < 64 → l ≤ 900 → m ≤ 200 * i → wfB R B → WX T D R LD LP σ → σ.1 54 6 = I p → atRX R B σ → (∀ k, k < i → σ.1 55 k = I (w k)) → wp (rX_tryWay d (I i) (hI h) (I had) (I l) (I m) σ) (fun τ => atRX R (rl T D R LD p (n + 1) i h had l m w B) τ ∧ (∀ k, k < i → τ.1 55 k = I (w k)) ∧ hX σ τ) := by
  have h6 := hw.1.2.1
  have h7 := hw.1.1
  have h5 := hw.1.2.2.2.2.1
  have r1 := hw.2.2.2.1
  obtain ⟨ra, rb, rc, rd⟩ := hw.2.2.2.2 p hp
  intro n
  induction n using Nat.strongRecOn with
  | ind n ih =>
    intro d i h had l m w B σ hi hd hh hhad hl hm hB hW hr hat hrow
    obtain ⟨d, rfl⟩ : ∃ k, d = k + 1 := ⟨d - 1, by omega⟩
    have hs0 := rc i (by omega)
    have hs1 := rc (i + 1) (by omega)
    obtain ⟨S, hS⟩ : ∃ S : Int32 → Int32 → Int32 → Int32 → Int32 → St → Option St, S = fun v1 v2 v3 v4 v5 σ => lp rX_tryWay_F d (v1, v2, v3, v4, v5, σ) := ⟨_, rfl⟩
    show wp (rX_tryWayB (fun v1 v2 v3 v4 v5 σ => lp rX_tryWay_F d (v1, v2, v3, v4, v5, σ)) (I i) (hI h) (I had) (I l) (I m) σ) _
    have hrec : ∀ n', n' < n → ∀ (i h had l m : Nat) (w : Nat → Nat) (B : RB) (σ : St), i + (n' + 1) = R 1 p → (h = 99 ∨ h < 6) → had < 64 → l ≤ 900 → m ≤ 200 * i → wfB R B → WX T D R LD LP σ → σ.1 54 6 = I p → atRX R B σ → (∀ k, k < i → σ.1 55 k = I (w k)) → wp (S (I i) (hI h) (I had) (I l) (I m) σ) (fun τ => atRX R (rl T D R LD p (n' + 1) i h had l m w B) τ ∧ (∀ k, k < i → τ.1 55 k = I (w k)) ∧ hX σ τ) := fun n' hn' i h had l m w B σ b1 b2 b3 b4 b5 b6 b7 b8 b9 b10 => by
      rw [hS]
      exact ih n' hn' d i h had l m w B σ b1 (by omega) b2 b3 b4 b5 b6 b7 b8 b9 b10
    rw [← hS]
    clear hS ih
    unfold rX_tryWayB
    rw [hr, eX_rlastOf hW.2.2.2.2 r1 hp, bnd2_e, nmE, brc_t (show I i < I (R 1 p) by rw [I_lt (by omega) (by omega)]; omega), hr, eX_rstationAt hW.2.2.2.2 r1 hp ra (by omega), bnd2_e, nmE, hr, I1, I_add, eX_rstationAt hW.2.2.2.2 r1 hp ra (by omega), bnd2_e, nmE, nmE]
    have erl : rl T D R LD p (n + 1) i h had l m w B = fc (fun c B => if ¬ c = h ∧ ¬ had / 2 ^ c % 2 = 0 then B else
      rl T D R LD p n (i + 1) c (had ||| 2 ^ c)
        (min l (hol T c) - drp T (D 4 5) c (trQ R p i) (min l (hol T c)) - rlD T D LD R p i c (min l (hol T c) - drp T (D 4 5) c (trQ R p i) (min l (hol T c))) (m + mns T c (trQ R p i)))
        (m + mns T c (trQ R p i)) (updN w i c) B) (T 0 2) B := by rw [rl]
    rw [erl]
    generalize hf : (fun c B => if ¬ c = h ∧ ¬ had / 2 ^ c % 2 = 0 then B else
      rl T D R LD p n (i + 1) c (had ||| 2 ^ c)
        (min l (hol T c) - drp T (D 4 5) c (trQ R p i) (min l (hol T c)) - rlD T D LD R p i c (min l (hol T c) - drp T (D 4 5) c (trQ R p i) (min l (hol T c))) (m + mns T c (trQ R p i)))
        (m + mns T c (trQ R p i)) (updN w i c) B : Nat → RB → RB) = f
    refine wp_for (fun n2 a => ∃ (c : Nat) (τ : St), c + n2 = T 0 2 ∧ a = (I i, hI h, I had, I l, I m, I (R 1 p), I (R (2 + p) i), I (R (2 + p) (i + 1)), I c, τ) ∧ wfB R (fc f c B) ∧ atRX R (fc f c B) τ ∧ (∀ k, k < i → τ.1 55 k = I (w k)) ∧ hX σ τ) ?_ ?_ (T 0 2) fu _ ⟨0, σ, by omega, rfl, hB, hat, hrow, frO_refl⟩ (by unfold fu; omega)
    · rintro n2 a k ⟨c, τ, hcn, rfl, wB, t1, t2, fh⟩ hk
      have hc : c < T 0 2 := by omega
      have hc6 : c < 6 := by omega
      have hhol := hol_le hw.1 hc
      have hWτ := WX_h fh hW
      have hrτ : τ.1 54 6 = I p := by rw [fh.2.1 6 (by decide)]; exact hr
      have ef : fc f (c + 1) B = f c (fc f c B) := rfl
      have next : ∀ υ : St, atRX R (f c (fc f c B)) υ → wfB R (f c (fc f c B)) → (∀ k, k < i → υ.1 55 k = I (w k)) → hX σ υ → wp (rX_tryWayB_212 S (fun v1 v2 v3 v4 v5 v6 v7 v8 v9 σ => k (v1, v2, v3, v4, v5, v6, v7, v8, v9, σ)) (I i) (hI h) (I had) (I l) (I m) (I (R 1 p)) (I (R (2 + p) i)) (I (R (2 + p) (i + 1))) (I c) υ) (fun τ => atRX R (fc f (T 0 2) B) τ ∧ (∀ k, k < i → τ.1 55 k = I (w k)) ∧ hX σ τ) := by
        intro υ u1 u2 u3 u4
        unfold rX_tryWayB_212
        rw [nmE, oi1, I_add]
        exact hk _ ⟨c + 1, υ, by omega, rfl, by rw [ef]; exact u2, by rw [ef]; exact u1, u3, u4⟩
      generalize fc f c B = B1 at *
      have efc : f c B1 = if ¬ c = h ∧ ¬ had / 2 ^ c % 2 = 0 then B1 else
        rl T D R LD p n (i + 1) c (had ||| 2 ^ c)
        (min l (hol T c) - drp T (D 4 5) c (trQ R p i) (min l (hol T c)) - rlD T D LD R p i c (min l (hol T c) - drp T (D 4 5) c (trQ R p i) (min l (hol T c))) (m + mns T c (trQ R p i)))
        (m + mns T c (trQ R p i)) (updN w i c) B1 := by rw [← hf]
      show wp (rX_tryWayB_53 S (fun v1 v2 v3 v4 v5 v6 v7 v8 v9 σ => k (v1, v2, v3, v4, v5, v6, v7, v8, v9, σ)) (I i) (hI h) (I had) (I l) (I m) (I (R 1 p)) (I (R (2 + p) i)) (I (R (2 + p) (i + 1))) (I c) τ) _
      unfold rX_tryWayB_53
      rw [hWτ.1.2.2.1, brc_f (show ¬ I (T 0 2) ≤ I c by rw [I_le (by omega) (by omega)]; omega)]
      have take : ¬ (¬ c = h ∧ ¬ had / 2 ^ c % 2 = 0) → wp (rX_tryWayB_83 S (fun v1 v2 v3 v4 v5 v6 v7 v8 v9 σ => k (v1, v2, v3, v4, v5, v6, v7, v8, v9, σ)) (I i) (hI h) (I had) (I l) (I m) (I (R 1 p)) (I (R (2 + p) i)) (I (R (2 + p) (i + 1))) (I c) τ) (fun τ => atRX R (fc f (T 0 2) B) τ ∧ (∀ k, k < i → τ.1 55 k = I (w k)) ∧ hX σ τ) := by
        intro hno
        rw [if_neg hno] at efc
        unfold rX_tryWayB_83
        rw [eX_holdsT hw.1 hWτ.1 hc, bnd2_e, nmE, nmE, I_min (by omega) (by omega), Nat.min_comm (hol T c) l]
        have hml := Nat.min_le_left l (hol T c)
        generalize min l (hol T c) = l0 at *
        generalize hσ1 : setI (setI τ 46 5 (I l0)) 46 6 (I m) = σ1
        have f1 : sX τ σ1 := by
          rw [← hσ1]
          exact frO_c (frO_c frO_refl _ (by decide) (by decide)) _ (by decide) (by decide)
        have a5 : σ1.1 46 5 = I l0 := by rw [← hσ1, gI_ne2 _ _ _ (by decide), gI_same]
        have a6 : σ1.1 46 6 = I m := by rw [← hσ1, gI_same]
        have hW1 := WX_s f1 hWτ
        rw [eX_goOver hw.1 hW1.1 hW1.2.2.1 hc (by omega) (by omega) (rd i (by omega)) a5 a6 (by omega), bnd1_e]
        generalize hσ2 : setI (setI (setI σ1 46 5 _) 46 8 _) 46 6 _ = σ2
        have f2 : sX σ1 σ2 := by
          rw [← hσ2]
          exact frO_c (frO_c (frO_c frO_refl _ (by decide) (by decide)) _ (by decide) (by decide)) _ (by decide) (by decide)
        have g5 : σ2.1 46 5 = I (l0 - drp T (D 4 5) c (trQ R p i) l0) := by
          rw [← hσ2, gI_ne2 _ _ _ (by decide), gI_ne2 _ _ _ (by decide), gI_same]; rfl
        have g6 : σ2.1 46 6 = I (m + mns T c (trQ R p i)) := by
          rw [← hσ2, gI_same]; rfl
        have hW2 := WX_s f2 hW1
        have hmn : mns T c (trQ R p i) ≤ 200 := mns_le hw.1 c (by unfold trQ; omega)
        have fA := frO_tr fh (hX_s (frO_tr f1 f2))
        have e55 : σ2.1 55 = τ.1 55 := by rw [f2.1 55 (by decide) (by decide), f1.1 55 (by decide) (by decide)]
        have e54 : σ2.1 54 = τ.1 54 := by rw [f2.1 54 (by decide) (by decide), f1.1 54 (by decide) (by decide)]
        have e56 : σ2.1 56 = τ.1 56 := by rw [f2.1 56 (by decide) (by decide), f1.1 56 (by decide) (by decide)]
        rw [g6, hW2.1.2.2.2.2.2.1]
        have hdr : l0 - drp T (D 4 5) c (trQ R p i) l0 ≤ 900 := by omega
        generalize l0 - drp T (D 4 5) c (trQ R p i) l0 = l1 at *
        have hmm : m + mns T c (trQ R p i) ≤ 200 * (i + 1) := by omega
        generalize m + mns T c (trQ R p i) = m1 at *
        by_cases hnoon : m1 ≤ T 0 5
        · rw [brc_t (show I m1 ≤ I (T 0 5) by rw [I_le (by omega) (by omega)]; exact hnoon), chk_t (ib_I (show i < 7 by omega) (by omega)), nmE, I_cl (by omega), I1, I_add]
          have f3 : hX σ (setI σ2 55 i (I c)) := frO_c fA _ (by decide) (by decide)
          have hat3 : atRX R B1 (setI σ2 55 i (I c)) := by
            unfold atRX
            rw [gI_ne1 _ _ _ (by decide), gI_ne1 _ _ _ (by decide), e54, e56]; exact t1
          have hrow3 : ∀ q, q < i + 1 → (setI σ2 55 i (I c)).1 55 q = I (updN w i c q) := fun q hq => by
            unfold updN
            by_cases e : q = i
            · rw [if_pos e, e, gI_same]
            · rw [if_neg e, gI_ne2 _ _ _ e, e55]; exact t2 q (by omega)
          by_cases hn0 : n = 0
          · rw [brc_f (show ¬ ¬ I (i + 1) = I (R 1 p) by rw [show i + 1 = R 1 p by omega]; exact fun h => h rfl)]
            have hrD : rlD T D LD R p i c l1 m1 = 0 := if_neg (by omega)
            rw [hrD, Nat.sub_zero, hn0] at efc
            obtain ⟨υ, e1, u1, u2, u3⟩ := eX_keepBetter (R := R) (B := B1) (p := p) (l := l1) (w := updN w i c) (σ := setI σ2 55 i (I c)) hp r1 ra wB hat3 (by rw [gI_ne1 _ _ _ (by decide)]; exact g5) (by omega) (by rw [gI_ne1 _ _ _ (by decide), e54]; exact hrτ) (fun q hq => hrow3 q (by omega))
            rw [e1, bnd1_e]
            have efc2 : f c B1 = if B1.1 < l1 + 1 then (l1 + 1, p + 1, updN w i c) else B1 := by
              rw [efc]
              unfold rl
              by_cases eb : B1.1 < l1 + 1
              · rw [if_pos ⟨hnoon, eb⟩, if_pos eb]
              · rw [if_neg (fun h => eb h.2), if_neg eb]
            refine next υ (by rw [efc2]; exact u1) (by rw [efc]; exact rl_wf hp 0 _ _ _ _ _ _ _ (by omega) wB) (fun q hq => ?_) (frO_tr f3 u3)
            rw [u2, gI_ne2 _ _ _ (by omega), e55]; exact t2 q hq
          · rw [brc_t (show ¬ I (i + 1) = I (R 1 p) by rw [I_inj (by omega) (by omega)]; omega)]
            obtain ⟨n', rfl⟩ : ∃ n', n = n' + 1 := ⟨n - 1, by omega⟩
            have hrD : rlD T D LD R p i c l1 m1 = drk T D LD c (R (2 + p) (i + 1)) l1 m1 := if_pos (by omega)
            rw [hrD] at efc
            have hW3 := WX_h f3 hW
            obtain ⟨υ, e1, v5, v6, v7, v8, f4⟩ := eX_drinkAt (s := R (2 + p) (i + 1)) (l := l1) (m := m1) hw.1 hW3.1 hW3.2.1 hw.2.2.1 hW3.2.2.2.1 hc hs1 (by rw [gI_ne1 _ _ _ (by decide)]; exact g5) (by rw [gI_ne1 _ _ _ (by decide)]; exact g6) (by omega)
            rw [e1, bnd2_e, v5, v6, show I had ||| I 1 <<< (I c &&& 31) = I (had ||| 2 ^ c) from bitorI hhad hc6]
            have f5 := frO_tr f3 (hX_s f4)
            have ehc : I c = hI c := (if_neg (by omega)).symm
            have hle := drk_le T D LD c (R (2 + p) (i + 1)) l1 m1
            generalize drk T D LD c (R (2 + p) (i + 1)) l1 m1 = n1 at *
            have hwf : wfB R (f c B1) := by rw [efc]; exact rl_wf hp _ _ _ _ _ _ _ _ (by omega) wB
            have hr5 : υ.1 54 6 = I p := by rw [f5.2.1 6 (by decide)]; exact hr
            have hrr := hrec n' (by omega) (i + 1) c (had ||| 2 ^ c) (l1 - n1) m1 (updN w i c) B1 υ (by omega) (Or.inr hc6) (bitorlt hhad hc6) (by omega) hmm wB (WX_h f5 hW) hr5 (by
              unfold atRX
              rw [f4.1 54 (by decide) (by decide), f4.1 56 (by decide) (by decide)]; exact hat3) (fun q hq => by rw [f4.1 55 (by decide) (by decide)]; exact hrow3 q hq)
            rw [← ehc] at hrr
            refine wp_bnd1 (wp_mono hrr ?_)
            rintro ω ⟨w1, w2, f6⟩
            refine next ω (by rw [efc]; exact w1) hwf (fun q hq => ?_) (frO_tr f5 f6)
            rw [w2 q (by omega)]
            unfold updN
            rw [if_neg (by omega)]
        · rw [brc_f (show ¬ I m1 ≤ I (T 0 5) by rw [I_le (by omega) (by omega)]; exact hnoon)]
          rw [rl_late n _ _ _ _ _ _ _ (by omega)] at efc
          refine next σ2 ?_ (by rw [efc]; exact wB) (fun q hq => by rw [e55]; exact t2 q hq) fA
          rw [efc]
          unfold atRX
          rw [e54, e56]; exact t1
      refine wp_brc (fun e => ?_) (fun e => ?_)
      · exact take (fun h9 => h9.1 ((hI_eq hc6 hh).mp e))
      · have hne : ¬ c = h := fun e2 => e ((hI_eq hc6 hh).mpr e2)
        rw [show (1 : Int32) = I 1 from rfl, show (I had >>> (I c &&& 31)) &&& I 1 = I (had / 2 ^ c % 2) from I_bit hhad hc6]
        refine wp_brc (fun e3 => ?_) (fun e3 => ?_)
        · exact take (fun h9 => h9.2 ((I_inj (by omega) (by omega)).mp e3))
        · have hb : ¬ had / 2 ^ c % 2 = 0 := fun e4 => e3 (by rw [e4]; rfl)
          rw [if_pos ⟨hne, hb⟩] at efc
          exact next τ (by rw [efc]; exact t1) (by rw [efc]; exact wB) t2 fh
    · rintro a k ⟨c, τ, hcn, rfl, wB, t1, t2, fh⟩
      have hWτ := WX_h fh hW
      show wp (rX_tryWayB_53 S (fun v1 v2 v3 v4 v5 v6 v7 v8 v9 σ => k (v1, v2, v3, v4, v5, v6, v7, v8, v9, σ)) (I i) (hI h) (I had) (I l) (I m) (I (R 1 p)) (I (R (2 + p) i)) (I (R (2 + p) (i + 1))) (I c) τ) _
      unfold rX_tryWayB_53
      rw [hWτ.1.2.2.1, brc_t (show I (T 0 2) ≤ I c by rw [I_le (by omega) (by omega)]; omega)]
      rw [show c = T 0 2 by omega] at t1
      exact wp_some ⟨t1, t2, fh⟩
/-- the answers of the relay stand -/
def XAr (T D R : Vw) (LD : List Nat) (ld : Nat) (σ : St) : Prop := σ.1 54 9 = 1 ∧ σ.1 54 5 = I ld ∧ atRX R (rlA T D R LD ld (R 0 0)) σ
abbrev yX (σ τ : St) : Prop := frO [46, 47, 48, 55, 56] 54 [5, 6, 7, 8, 9] σ τ
theorem WX_y {T D R : Vw} {LD LP : List Nat} {σ τ : St} (h : yX σ τ) (hx : WX T D R LD LP σ) : WX T D R LD LP τ :=
  WX_fr (fun i h1 h2 => h.1 i (by simp; omega) (by omega)) (h.1 37 (by decide) (by decide)) (h.1 38 (by decide) (by decide)) (by rw [h.1 42 (by decide) (by decide)]) (h.1 43 (by decide) (by decide)) (h.1 44 (by decide) (by decide)) (by rw [h.2.2]) hx
theorem rlA_wf {T D R : Vw} {LD : List Nat} {ld : Nat} (hl : ld ≤ 900) : ∀ p, p ≤ R 0 0 → wfB R (rlA T D R LD ld p)
  | 0, _ => ⟨Nat.zero_le _, Nat.zero_le _, Iff.rfl⟩
  | p + 1, hp => rl_wf (by omega) _ _ _ _ _ _ _ _ hl (rlA_wf hl p (by omega))
theorem X_relay {T D R : Vw} {LD LP : List Nat} (hw : wfW T D R LD LP) (hS : 2 ≤ T 0 0) {ld : Nat} (hl : ld ≤ 60) {σ : St} (hW : WX T D R LD LP σ) : wp (rX_hmakeSure_16 (I ld) σ) (fun τ => XAr T D R LD ld τ ∧ yX σ τ) := by
  have h37 := hw.2.2.2.1
  unfold rX_hmakeSure_16
  rw [nmE, nmE, nmE, nmE]
  have f0 : yX σ (setI (setI (setI σ 54 5 (I ld)) 54 7 (-1)) 54 8 (-1)) := frO_f (frO_f (frO_f frO_refl _ (by decide)) _ (by decide)) _ (by decide)
  refine wp_for (fun n a => ∃ (p : Nat) (τ : St), p + n = R 0 0 ∧ a = (I p, τ) ∧ τ.1 54 5 = I ld ∧ atRX R (rlA T D R LD ld p) τ ∧ yX σ τ) ?_ ?_ (R 0 0) fu _ ⟨0, _, by omega, rfl, ?_, ⟨?_, ?_, ?_⟩, f0⟩ (by unfold fu; omega)
  · rintro n a k ⟨p, τ, hp, rfl, t5, t1, f⟩ hk
    have hp' : p < R 0 0 := by omega
    have hWτ := WX_y f hW
    obtain ⟨ra, rb, -⟩ := hw.2.2.2.2 p hp'
    have rb' := rb hS
    show wp (rX_hmakeSure_33 (fun v2 σ => k (v2, σ)) (I p) τ) _
    unfold rX_hmakeSure_33
    rw [hWτ.2.2.2.2.1, brc_f (show ¬ I (R 0 0) ≤ I p by rw [I_le (by omega) (by omega)]; omega), nmE, gI_ne2 _ _ _ (show (5 : Nat) ≠ 6 by decide), t5]
    have f1 : yX σ (setI τ 54 6 (I p)) := frO_f f _ (by decide)
    have hx := X_try hw hp' (R 1 p - 1) 9 0 99 0 ld 0 (fun _ => 0) (rlA T D R LD ld p) (setI τ 54 6 (I p)) (by omega) (by omega) (Or.inl rfl) (by omega) (by omega) (by omega) (rlA_wf (by omega) p (by omega)) (WX_y f1 hW) (gI_same _ _ _ _) (by
      unfold atRX
      rw [gI_ne2 _ _ _ (by decide), gI_ne2 _ _ _ (by decide), gI_ne1 _ _ _ (by decide)]; exact t1) (fun k hk => absurd hk (Nat.not_lt_zero _))
    rw [show R 1 p - 1 + 1 = R 1 p by omega] at hx
    refine wp_bnd1 (wp_mono hx ?_)
    rintro υ ⟨u1, -, f2⟩
    rw [nmE, oi1, I_add]
    refine hk _ ⟨p + 1, υ, by omega, rfl, ?_, u1, frO_tr f1 (frO_mono (fun i h => h) (fun i h => by revert h; simp; omega) f2)⟩
    rw [f2.2.1 5 (by decide), gI_ne2 _ _ _ (by decide)]; exact t5
  · rintro a k ⟨p, τ, hp, rfl, t5, t1, f⟩
    have hWτ := WX_y f hW
    show wp (rX_hmakeSure_33 (fun v2 σ => k (v2, σ)) (I p) τ) _
    unfold rX_hmakeSure_33
    rw [hWτ.2.2.2.2.1, brc_t (show I (R 0 0) ≤ I p by rw [I_le (by omega) (by omega)]; omega), chk_t (by decide), nmE]
    rw [show p = R 0 0 by omega] at t1
    refine wp_some ⟨⟨gI_same _ _ _ _, ?_, ?_⟩, frO_f f _ (by decide)⟩
    · rw [gI_ne2 _ _ _ (by decide)]; exact t5
    · unfold atRX
      rw [gI_ne2 _ _ _ (by decide), gI_ne2 _ _ _ (by decide), gI_ne1 _ _ _ (by decide)]; exact t1
  · rw [gI_ne2 _ _ _ (by decide), gI_ne2 _ _ _ (by decide), gI_same]
  · rw [gI_same]; rfl
  · rw [gI_ne2 _ _ _ (by decide), gI_same]; rfl
  · intro k _ h
    exact absurd rfl h
