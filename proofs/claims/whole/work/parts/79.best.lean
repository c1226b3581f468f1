/-! the best way -/
theorem wp_for {α β : Type} {F : (α → Option β) → α → Option β} {Q : β → Prop} (P : Nat → α → Prop) (hs : ∀ (n : Nat) (a : α) (k : α → Option β), P (n + 1) a → (∀ a', P n a' → wp (k a') Q) → wp (F k a) Q) (he : ∀ (a : α) (k : α → Option β), P 0 a → wp (F k a) Q) : ∀ (n fuel : Nat) (a : α), P n a → n < fuel → wp (lp F fuel a) Q := by
  intro n
  induction n with
  | zero =>
    intro fuel a h hf
    obtain ⟨fuel, rfl⟩ : ∃ k, fuel = k + 1 := ⟨fuel - 1, by omega⟩
    exact he a _ h
  | succ n ih =>
    intro fuel a h hf
    obtain ⟨fuel, rfl⟩ : ∃ k, fuel = k + 1 := ⟨fuel - 1, by omega⟩
    exact hs n a _ h (fun a' h' => ih fuel a' h' (by omega))
/-- NONE or a number -/
def nz (x : Nat) : Int32 := if x = 0 then -1 else I (x - 1)
theorem nz_toInt {x : Nat} (h : x ≤ 2147483648) : (nz x).toInt = (x : Int) - 1 := by
  unfold nz
  by_cases e : x = 0
  · rw [if_pos e, e]; rfl
  · rw [if_neg e, I_toInt (by omega)]; omega
theorem le_nz {a x : Nat} (ha : a < 2147483648) (hx : x ≤ 2147483648) : (I a ≤ nz x) ↔ a + 1 ≤ x := by
  rw [Int32.le_iff_toInt_le, nz_toInt hx, I_toInt ha]
  omega
theorem nz_neg {x : Nat} (hx : x ≤ 2147483648) : (nz x < 0) ↔ x = 0 := by
  rw [Int32.lt_iff_toInt_lt, nz_toInt hx, show (0 : Int32).toInt = 0 from rfl]
  omega
theorem nz_eq1 {x : Nat} (hx : x ≤ 2147483648) : (nz x = -1) ↔ x = 0 := by
  rw [← Int32.toInt_inj, nz_toInt hx, show (-1 : Int32).toInt = -1 from rfl]
  omega
theorem nz0 : nz 0 = -1 := rfl
theorem nz_s (x : Nat) : nz (x + 1) = I x := rfl
def bs (T D R : Vw) (LD : List Nat) (c ld : Nat) : Nat → Nat × Nat
  | 0 => (0, 0)
  | p + 1 => if (tr T D R LD c p ld (R 1 p)).2.1 ≤ T 0 5 ∧ (bs T D R LD c ld p).2 < (tr T D R LD c p ld (R 1 p)).1 + 1 then (p + 1, (tr T D R LD c p ld (R 1 p)).1 + 1) else bs T D R LD c ld p
theorem bs_le (T D R : Vw) (LD : List Nat) (c ld : Nat) : ∀ p, (bs T D R LD c ld p).1 ≤ p ∧ (bs T D R LD c ld p).2 ≤ ld + 1 ∧ ((bs T D R LD c ld p).1 = 0 ↔ (bs T D R LD c ld p).2 = 0)
  | 0 => ⟨Nat.le_refl _, Nat.zero_le _, Iff.rfl⟩
  | p + 1 => by
    obtain ⟨h1, h2, h3⟩ := bs_le T D R LD c ld p
    have h4 := tr_le T D R LD c p ld (R 1 p)
    unfold bs
    split
    · exact ⟨Nat.le_refl _, by show _ + 1 ≤ _; omega, by constructor <;> intro h <;> (simp at h)⟩
    · exact ⟨by omega, h2, h3⟩
theorem mns_le {T : Vw} (hw : wfT T) (c : Nat) {q : Nat} (hq : q < 49) : mns T c q ≤ 200 := by
  have := (hw.2.2.2.2.2.2.1 q hq).1
  unfold mns
  split <;> omega
theorem tr_m {T D R : Vw} {LD LP : List Nat} (hw : wfW T D R LD LP) {c p ld : Nat} (hp : p < R 0 0) : ∀ i, i ≤ R 1 p → (tr T D R LD c p ld i).2.1 ≤ 200 * i
  | 0, _ => Nat.le_refl _
  | i + 1, hi => by
    have h1 := tr_m hw (c := c) (ld := ld) hp i (by omega)
    obtain ⟨ra, rb, rc, rd⟩ := hw.2.2.2.2 p hp
    have a := rc i (by omega)
    have b := rc (i + 1) hi
    have h7 := hw.1.1
    have h2 : mns T c (trQ R p i) ≤ 200 := mns_le hw.1 c (by unfold trQ; omega)
    show (tr T D R LD c p ld i).2.1 + mns T c (trQ R p i) ≤ _
    omega
abbrev bX (σ τ : St) : Prop := frO [46, 47, 48] 49 [9, 10] σ τ
abbrev bM (σ τ : St) : Prop := frO [14, 15] 0 [30, 31, 32, 33, 34, 35] σ τ
theorem bX_of {σ τ : St} (h : sX σ τ) : bX σ τ := frO_mono (fun _ h => h) (fun _ h => absurd h (List.not_mem_nil)) h
theorem bM_of {σ τ : St} (h : sM σ τ) : bM σ τ := frO_mono (fun _ h => h) (fun i h => by simp at h ⊢; omega) h
theorem WX_b {T D R : Vw} {LD LP : List Nat} {σ τ : St} (h : bX σ τ) (hx : WX T D R LD LP σ) : WX T D R LD LP τ :=
  WX_fr (fun i h1 h2 => h.1 i (by simp; omega) (by omega)) (h.1 37 (by decide) (by decide)) (h.1 38 (by decide) (by decide)) (by rw [h.1 42 (by decide) (by decide)]) (h.1 43 (by decide) (by decide)) (h.1 44 (by decide) (by decide)) (by rw [h.2.2]) hx
theorem WM_b {T D R : Vw} {LD LP : List Nat} {σ τ : St} (h : bM σ τ) (hx : WM T D R LD LP σ) : WM T D R LD LP τ :=
  WM_fr (h.1 6 (by decide) (by decide)) (h.1 8 (by decide) (by decide)) (h.1 9 (by decide) (by decide)) (fun q _ => by rw [h.1 16 (by decide) (by decide)]) (h.2.1 27 (by decide)) (h.1 18 (by decide) (by decide)) hx
theorem eX_pfindBest {T D R : Vw} {LD LP : List Nat} {c ld : Nat} (hw : wfW T D R LD LP) (hc : c < T 0 2) (hld : ld ≤ 1000) {σ : St} (hW : WX T D R LD LP σ) : wp (rX_pfindBest (I c) (I ld) σ) (fun τ => τ.1 49 9 = nz (bs T D R LD c ld (R 0 0)).1 ∧ τ.1 49 10 = nz (bs T D R LD c ld (R 0 0)).2 ∧ bX σ τ) := by
  unfold rX_pfindBest
  rw [nmE, nmE, nmE]
  have f0 : bX σ (setI (setI σ 49 9 (-1)) 49 10 (-1)) := frO_f (frO_f frO_refl _ (by decide)) _ (by decide)
  refine wp_for (fun n a => ∃ (p : Nat) (τ : St), p + n = R 0 0 ∧ a = (I c, I ld, I p, τ) ∧ bX σ τ ∧ τ.1 49 9 = nz (bs T D R LD c ld p).1 ∧ τ.1 49 10 = nz (bs T D R LD c ld p).2) ?_ ?_ (R 0 0) fu _ ⟨0, _, by omega, rfl, f0, ?_, ?_⟩ ?_
  · rintro n a k ⟨p, τ, hp, rfl, f1, g1, g2⟩ hk
    have hp' : p < R 0 0 := by omega
    have hWτ := WX_b f1 hW
    have h37 := hw.2.2.2.1
    show wp (rX_pfindBest_12 (fun v1 v2 v3 σ => k (v1, v2, v3, σ)) (I c) (I ld) (I p) τ) _
    unfold rX_pfindBest_12 rX_pfindBest_81
    rw [hWτ.2.2.2.2.1, brc_f (show ¬ I (R 0 0) ≤ I p by rw [I_le (by omega) (by omega)]; omega)]
    obtain ⟨υ, e1, u1, f20⟩ := eX_goAll0 hw hc hp' hld hWτ
    have f2 := bX_of f20
    rw [e1, bnd1_e]
    have f3 := frO_tr f1 f2
    have hWu := WX_b f3 hW
    have hm := tr_m hw (c := c) (ld := ld) hp' (R 1 p) (Nat.le_refl _)
    have hl := tr_le T D R LD c p ld (R 1 p)
    have h6 := (hw.2.2.2.2 p hp').1
    have h5 := hw.1.2.2.2.2.1
    have hb := bs_le T D R LD c ld p
    have v9 : υ.1 49 9 = nz (bs T D R LD c ld p).1 := by rw [f20.2.1 9 (by decide)]; exact g1
    have v10 : υ.1 49 10 = nz (bs T D R LD c ld p).2 := by rw [f20.2.1 10 (by decide)]; exact g2
    rw [hWu.1.2.2.2.2.2.1, u1.1, u1.2.1, v10, nmE, nmE, oi1, I_add]
    have eb : bs T D R LD c ld (p + 1) = if (tr T D R LD c p ld (R 1 p)).2.1 ≤ T 0 5 ∧ (bs T D R LD c ld p).2 < (tr T D R LD c p ld (R 1 p)).1 + 1 then (p + 1, (tr T D R LD c p ld (R 1 p)).1 + 1) else bs T D R LD c ld p := rfl
    by_cases c1 : (tr T D R LD c p ld (R 1 p)).2.1 ≤ T 0 5
    · rw [brc_f (show ¬ I (T 0 5) < I (tr T D R LD c p ld (R 1 p)).2.1 by rw [I_lt (by omega) (by omega)]; omega)]
      by_cases c2 : (bs T D R LD c ld p).2 < (tr T D R LD c p ld (R 1 p)).1 + 1
      · rw [brc_f (show ¬ I (tr T D R LD c p ld (R 1 p)).1 ≤ nz (bs T D R LD c ld p).2 by rw [le_nz (by omega) (by omega)]; omega), nmE, nmE]
        refine hk _ ⟨p + 1, _, by omega, rfl, frO_f (frO_f f3 _ (by decide)) _ (by decide), ?_, ?_⟩
        · rw [gI_ne2 _ _ _ (by decide), gI_same, eb, if_pos ⟨c1, c2⟩]; rfl
        · rw [gI_same, gI_ne1 _ _ _ (by decide), u1.1, eb, if_pos ⟨c1, c2⟩]; rfl
      · rw [brc_t (show I (tr T D R LD c p ld (R 1 p)).1 ≤ nz (bs T D R LD c ld p).2 by rw [le_nz (by omega) (by omega)]; omega)]
        refine hk _ ⟨p + 1, υ, by omega, rfl, f3, ?_, ?_⟩
        · rw [eb, if_neg (fun h => c2 h.2)]; exact v9
        · rw [eb, if_neg (fun h => c2 h.2)]; exact v10
    · rw [brc_t (show I (T 0 5) < I (tr T D R LD c p ld (R 1 p)).2.1 by rw [I_lt (by omega) (by omega)]; omega)]
      refine hk _ ⟨p + 1, υ, by omega, rfl, f3, ?_, ?_⟩
      · rw [eb, if_neg (fun h => c1 h.1)]; exact v9
      · rw [eb, if_neg (fun h => c1 h.1)]; exact v10
  · rintro a k ⟨p, τ, hp, rfl, f1, g1, g2⟩
    have hWτ := WX_b f1 hW
    have h37 := hw.2.2.2.1
    have e : p = R 0 0 := by omega
    show wp (rX_pfindBest_12 (fun v1 v2 v3 σ => k (v1, v2, v3, σ)) (I c) (I ld) (I p) τ) _
    unfold rX_pfindBest_12
    rw [hWτ.2.2.2.2.1, brc_t (show I (R 0 0) ≤ I p by rw [I_le (by omega) (by omega)]; omega)]
    rw [e] at g1 g2
    exact wp_some ⟨g1, g2, f1⟩
  · rw [gI_ne2 _ _ _ (by decide), gI_same]; rfl
  · rw [gI_same]; rfl
  · have := hw.2.2.2.1; unfold fu; omega
theorem eM_findBest {T D R : Vw} {LD LP : List Nat} {c ld : Nat} (hw : wfW T D R LD LP) (hc : c < T 0 2) (hld : ld ≤ 1000) {σ : St} (hW : WM T D R LD LP σ) : wp (rM_findBest (I c) (I ld) σ) (fun r => r.1 = b01 (¬ (bs T D R LD c ld (R 0 0)).1 = 0) ∧ r.2.1 0 34 = nz (bs T D R LD c ld (R 0 0)).1 ∧ r.2.1 0 35 = nz (bs T D R LD c ld (R 0 0)).2 ∧ bM σ r.2) := by
  unfold rM_findBest
  rw [nmE, nmE, nmE]
  have f0 : bM σ (setI (setI σ 0 34 (-1)) 0 35 (-1)) := frO_f (frO_f frO_refl _ (by decide)) _ (by decide)
  refine wp_for (fun n a => ∃ (p : Nat) (τ : St), p + n = R 0 0 ∧ a = (I c, I ld, I p, τ) ∧ bM σ τ ∧ τ.1 0 34 = nz (bs T D R LD c ld p).1 ∧ τ.1 0 35 = nz (bs T D R LD c ld p).2) ?_ ?_ (R 0 0) fu _ ⟨0, _, by omega, rfl, f0, ?_, ?_⟩ ?_
  · rintro n a k ⟨p, τ, hp, rfl, f1, g1, g2⟩ hk
    have hp' : p < R 0 0 := by omega
    have hWτ := WM_b f1 hW
    have h37 := hw.2.2.2.1
    show wp (rM_findBest_12 (fun v1 v2 v3 σ => k (v1, v2, v3, σ)) (I c) (I ld) (I p) τ) _
    unfold rM_findBest_12 rM_findBest_64
    rw [hWτ.2.2.2.2.1, brc_f (show ¬ I (R 0 0) ≤ I p by rw [I_le (by omega) (by omega)]; omega)]
    have hm := tr_m hw (c := c) (ld := ld) hp' (R 1 p) (Nat.le_refl _)
    have hl := tr_le T D R LD c p ld (R 1 p)
    have h6 := (hw.2.2.2.2 p hp').1
    have h5 := hw.1.2.2.2.2.1
    have hb := bs_le T D R LD c ld p
    obtain ⟨υ, e1, u1, f20⟩ := eM_goesTrip hw hc hp' hld hWτ
    have f2 := bM_of f20
    rw [e1, bnd1_e]
    have f3 := frO_tr f1 f2
    have hWu := WM_b f3 hW
    have v9 : υ.1 0 34 = nz (bs T D R LD c ld p).1 := by rw [f20.2.1 34 (by decide)]; exact g1
    have v10 : υ.1 0 35 = nz (bs T D R LD c ld p).2 := by rw [f20.2.1 35 (by decide)]; exact g2
    rw [show ib (5 : Int32) 320 = true from rfl, chk_e, show (5 : Int32).toNatClampNeg = 5 from rfl, hWu.1.2.2.2.2.2.1, u1.1, u1.2.1, v10, nmE, nmE, oi1, I_add]
    have eb : bs T D R LD c ld (p + 1) = if (tr T D R LD c p ld (R 1 p)).2.1 ≤ T 0 5 ∧ (bs T D R LD c ld p).2 < (tr T D R LD c p ld (R 1 p)).1 + 1 then (p + 1, (tr T D R LD c p ld (R 1 p)).1 + 1) else bs T D R LD c ld p := rfl
    by_cases c1 : (tr T D R LD c p ld (R 1 p)).2.1 ≤ T 0 5
    · rw [brc_f (show ¬ I (T 0 5) < I (tr T D R LD c p ld (R 1 p)).2.1 by rw [I_lt (by omega) (by omega)]; omega)]
      by_cases c2 : (bs T D R LD c ld p).2 < (tr T D R LD c p ld (R 1 p)).1 + 1
      · rw [brc_f (show ¬ I (tr T D R LD c p ld (R 1 p)).1 ≤ nz (bs T D R LD c ld p).2 by rw [le_nz (by omega) (by omega)]; omega), nmE, nmE]
        refine hk _ ⟨p + 1, _, by omega, rfl, frO_f (frO_f f3 _ (by decide)) _ (by decide), ?_, ?_⟩
        · rw [gI_same, eb, if_pos ⟨c1, c2⟩]; rfl
        · rw [gI_ne2 _ _ _ (by decide), gI_same, eb, if_pos ⟨c1, c2⟩]; rfl
      · rw [brc_t (show I (tr T D R LD c p ld (R 1 p)).1 ≤ nz (bs T D R LD c ld p).2 by rw [le_nz (by omega) (by omega)]; omega)]
        refine hk _ ⟨p + 1, υ, by omega, rfl, f3, ?_, ?_⟩
        · rw [eb, if_neg (fun h => c2 h.2)]; exact v9
        · rw [eb, if_neg (fun h => c2 h.2)]; exact v10
    · rw [brc_t (show I (T 0 5) < I (tr T D R LD c p ld (R 1 p)).2.1 by rw [I_lt (by omega) (by omega)]; omega)]
      refine hk _ ⟨p + 1, υ, by omega, rfl, f3, ?_, ?_⟩
      · rw [eb, if_neg (fun h => c1 h.1)]; exact v9
      · rw [eb, if_neg (fun h => c1 h.1)]; exact v10
  · rintro a k ⟨p, τ, hp, rfl, f1, g1, g2⟩
    have hWτ := WM_b f1 hW
    have h37 := hw.2.2.2.1
    have e : p = R 0 0 := by omega
    have hb := bs_le T D R LD c ld p
    show wp (rM_findBest_12 (fun v1 v2 v3 σ => k (v1, v2, v3, σ)) (I c) (I ld) (I p) τ) _
    unfold rM_findBest_12 rM_findBest_82
    rw [hWτ.2.2.2.2.1, brc_t (show I (R 0 0) ≤ I p by rw [I_le (by omega) (by omega)]; omega), g1]
    rw [e] at g1 g2 hb
    rw [e]
    by_cases hz : (bs T D R LD c ld (R 0 0)).1 = 0
    · rw [brc_t ((nz_neg (by omega)).mpr hz), chk_t (by decide)]
      exact wp_some ⟨by unfold b01; rw [if_neg (fun h => h hz)], g1, g2, f1⟩
    · rw [brc_f (fun h => hz ((nz_neg (by omega)).mp h)), chk_t (by decide)]
      exact wp_some ⟨by unfold b01; rw [if_pos hz], g1, g2, f1⟩
  · rw [gI_ne2 _ _ _ (by decide), gI_same]; rfl
  · rw [gI_same]; rfl
  · have := hw.2.2.2.1; unfold fu; omega
