/-! the plan, in the class -/
theorem pu_le {m g : Nat → Nat} {s : Nat} (hm : ∀ j, m j ≤ j + 1) (hg : ∀ x, x ≤ s → g x ≤ x) : ∀ n, n ≤ s + 1 → pu m g s n ≤ s
  | 0, _ => Nat.zero_le _
  | j + 1, h => by
    have h1 := pu_le hm hg j (by omega)
    have h2 := hm j
    have h3 := hg (s - j) (by omega)
    unfold pu
    apply Nat.max_le.mpr
    refine ⟨h1, ?_⟩
    split <;> omega
theorem pf_le {m : Nat → Nat → Nat} {h : Nat → Nat} {nC : Nat} (hm : ∀ c j, m c j ≤ j + 1) : ∀ k s, pf m h nC k s ≤ s
  | 0, _ => Nat.zero_le _
  | k + 1, s => by
    unfold pf
    exact pu_le (hm _) (fun x _ => pf_le hm k x) _ (by omega)
theorem mo_le (T D R : Vw) (LD : List Nat) (c j : Nat) : mo T D R LD c j ≤ j + 1 := by
  unfold mo
  have := (bs_le T D R LD c j (R 0 0)).2.1
  split <;> omega
theorem pu_at {m g : Nat → Nat} {s : Nat} (h0 : m 0 = 1) : ∀ n, ∃ j, j ≤ n ∧ ¬ m j = 0 ∧ m j - 1 + g (s - j) = pu m g s (n + 1)
  | 0 => ⟨0, Nat.le_refl _, by omega, by unfold pu pu; rw [if_neg (by omega), Nat.zero_max]⟩
  | n + 1 => by
    obtain ⟨j, h1, h2, h3⟩ := pu_at (g := g) (s := s) h0 n
    have e : pu m g s (n + 1 + 1) = max (pu m g s (n + 1)) (if m (n + 1) = 0 then 0 else m (n + 1) - 1 + g (s - (n + 1))) := rfl
    rw [e]
    by_cases hz : m (n + 1) = 0
    · rw [if_pos hz, Nat.max_zero]
      exact ⟨j, by omega, h2, h3⟩
    · rw [if_neg hz]
      by_cases hle : pu m g s (n + 1) ≤ m (n + 1) - 1 + g (s - (n + 1))
      · exact ⟨n + 1, Nat.le_refl _, hz, (Nat.max_eq_right hle).symm⟩
      · exact ⟨j, by omega, h2, by rw [Nat.max_eq_left (by omega)]; exact h3⟩
theorem ls_spec {P : Nat → Bool} : ∀ (n i : Nat), (∃ j, i ≤ j ∧ j ≤ i + n ∧ P j = true) → P (ls P n i) = true ∧ i ≤ ls P n i ∧ ls P n i ≤ i + n ∧ ∀ j, i ≤ j → j < ls P n i → P j = false
  | 0, i, ⟨j, h1, h2, h3⟩ => by
    have : j = i := by omega
    subst this
    exact ⟨h3, Nat.le_refl _, Nat.le_refl _, fun j' a b => by have : ls P 0 j = j := rfl; omega⟩
  | n + 1, i, ⟨j, h1, h2, h3⟩ => by
    unfold ls
    by_cases hi : P i = true
    · rw [if_pos hi]
      exact ⟨hi, Nat.le_refl _, by omega, fun j' a b => by omega⟩
    · rw [if_neg hi]
      have hj : j ≠ i := fun e => hi (e ▸ h3)
      obtain ⟨a, b, c, d⟩ := ls_spec n (i + 1) ⟨j, by omega, by omega, h3⟩
      refine ⟨a, by omega, by omega, fun j' a' b' => ?_⟩
      by_cases e : j' = i
      · rw [e]; exact Bool.eq_false_iff.mpr hi
      · exact d j' (by omega) b'
theorem plL_spec {m : Nat → Nat → Nat} {h : Nat → Nat} {nC c s : Nat} (h0 : ∀ c, m c 0 = 1) (hc : c < nC) : plP m h nC c s (plL m h nC c s) = true ∧ plL m h nC c s ≤ min (h c) s ∧ ∀ j, j < plL m h nC c s → plP m h nC c s j = false := by
  have ek : nC - c = nC - (c + 1) + 1 := by omega
  have ec : nC - (nC - (c + 1) + 1) = c := by omega
  obtain ⟨j, a, b, d⟩ := pu_at (m := m c) (g := pf m h nC (nC - (c + 1))) (s := s) (h0 c) (min (h c) s)
  have e : pf m h nC (nC - c) s = pu (m c) (pf m h nC (nC - (c + 1))) s (min (h c) s + 1) := by
    rw [ek]
    show pu (m (nC - (nC - (c + 1) + 1))) (pf m h nC (nC - (c + 1))) s (min (h (nC - (nC - (c + 1) + 1))) s + 1) = _
    rw [ec]
  obtain ⟨p, q, r, t⟩ := ls_spec (P := plP m h nC c s) (min (h c) s) 0 ⟨j, Nat.zero_le _, by omega, by unfold plP; exact decide_eq_true ⟨b, by rw [e]; exact d⟩⟩
  exact ⟨p, by unfold plL; omega, fun j hj => t j (Nat.zero_le _) hj⟩
abbrev pX (σ τ : St) : Prop := frO [46, 47, 48, 50, 51, 52, 53] 49 [7, 8, 9, 10] σ τ
theorem pX_b {σ τ : St} (h : bX σ τ) : pX σ τ := frO_mono (fun i h => by revert h; simp; omega) (fun i h => by revert h; simp; omega) h
theorem WX_p {T D R : Vw} {LD LP : List Nat} {σ τ : St} (h : pX σ τ) (hx : WX T D R LD LP σ) : WX T D R LD LP τ :=
  WX_fr (fun i h1 h2 => h.1 i (by simp; omega) (by omega)) (h.1 37 (by decide) (by decide)) (h.1 38 (by decide) (by decide)) (by rw [h.1 42 (by decide) (by decide)]) (h.1 43 (by decide) (by decide)) (h.1 44 (by decide) (by decide)) (by rw [h.2.2]) hx
theorem eX_pmostLoad {T : Vw} {σ : St} (hw : wfT T) (hT : XMt T σ) {c s : Nat} (hc : c < T 0 2) (hs : s < 100000) : rX_pmostLoad (I c) (I s) σ = some (I (min (hol T c) s), σ) := by
  have := hol_le hw hc
  unfold rX_pmostLoad
  rw [eX_holdsT hw hT hc, bnd2_e, I_min (by omega) (by omega), Nat.min_comm]
theorem eX_pweighLoads {T D R : Vw} {LD LP : List Nat} (hw : wfW T D R LD LP) {c : Nat} (hc : c < T 0 2) {σ : St} (hW : WX T D R LD LP σ) : wp (rX_pweighLoads (I c) σ) (fun τ => (∀ ld, ld ≤ min (hol T c) (T 0 4) → τ.1 50 (121 * c + ld) = nz (mo T D R LD c ld)) ∧ (∀ q, ¬ (121 * c ≤ q ∧ q < 121 * c + 121) → τ.1 50 q = σ.1 50 q) ∧ τ.1 51 = σ.1 51 ∧ pX σ τ) := by
  have h6 := hw.1.2.1
  have hh := hol_le hw.1 hc
  have h200 := hw.1.2.2.2.1
  unfold rX_pweighLoads
  simp only [litN, I_mul]
  rw [Nat.mul_comm c 121, chk_t (ib_I (by omega) (by omega)), nmE, nmE, I_cl (by omega)]
  refine wp_for (fun n a => ∃ (i : Nat) (τ : St), i + n = min (hol T c) (T 0 4) + 1 ∧ 1 ≤ i ∧ a = (I c, I i, τ) ∧ (∀ ld, ld < i → τ.1 50 (121 * c + ld) = nz (mo T D R LD c ld)) ∧ (∀ q, ¬ (121 * c ≤ q ∧ q < 121 * c + 121) → τ.1 50 q = σ.1 50 q) ∧ τ.1 51 = σ.1 51 ∧ pX σ τ) ?_ ?_ (min (hol T c) (T 0 4)) fu _ ⟨1, _, by omega, by omega, rfl, ?_, ?_, ?_, ?_⟩ (by unfold fu; omega)
  · rintro n a k ⟨i, τ, hi, hi1, rfl, t1, t2, t3, f⟩ hk
    have hWτ := WX_p f hW
    show wp (rX_pweighLoads_12 (fun v1 v2 σ => k (v1, v2, σ)) (I c) (I i) τ) _
    unfold rX_pweighLoads_12
    rw [hWτ.1.2.2.2.2.1, eX_pmostLoad hw.1 hWτ.1 hc (by omega), bnd2_e, brc_f (show ¬ I (min (hol T c) (T 0 4)) < I i by rw [I_lt (by omega) (by omega)]; omega)]
    obtain ⟨υ, e1, u9, u10, f2⟩ := eX_pfindBest (ld := i) hw hc (by omega) hWτ
    rw [e1, bnd1_e]
    simp only [litN, I_mul, I_add]
    rw [Nat.mul_comm c 121, chk_t (ib_I (by omega) (by omega)), nmE, nmE, oi1, I_add, I_cl (by omega), u10]
    have em : mo T D R LD c i = (bs T D R LD c i (R 0 0)).2 := if_neg (by omega)
    have u50 : υ.1 50 = τ.1 50 := f2.1 50 (by decide) (by decide)
    refine hk _ ⟨i + 1, _, by omega, by omega, rfl, fun ld hld => ?_, fun q hq => ?_, ?_, frO_c (frO_tr f (pX_b f2)) _ (by decide) (by decide)⟩
    · by_cases e : ld = i
      · rw [e, gI_same, em]
      · rw [gI_ne2 _ _ _ (by omega), u50]; exact t1 ld (by omega)
    · rw [gI_ne2 _ _ _ (by omega), u50]; exact t2 q hq
    · rw [gI_ne1 _ _ _ (by decide), f2.1 51 (by decide) (by decide)]; exact t3
  · rintro a k ⟨i, τ, hi, hi1, rfl, t1, t2, t3, f⟩
    have hWτ := WX_p f hW
    show wp (rX_pweighLoads_12 (fun v1 v2 σ => k (v1, v2, σ)) (I c) (I i) τ) _
    unfold rX_pweighLoads_12
    rw [hWτ.1.2.2.2.2.1, eX_pmostLoad hw.1 hWτ.1 hc (by omega), bnd2_e, brc_t (show I (min (hol T c) (T 0 4)) < I i by rw [I_lt (by omega) (by omega)]; omega)]
    exact wp_some ⟨fun ld hld => t1 ld (by omega), t2, t3, f⟩
  · intro ld hld
    have : ld = 0 := by omega
    rw [this, Nat.add_zero, gI_same]; rfl
  · intro q hq
    rw [gI_ne2 _ _ _ (by omega)]
  · rw [gI_ne1 _ _ _ (by decide)]
  · exact frO_c frO_refl _ (by decide) (by decide)
/-- the tables of the plan in the class -/
def tbX (T D R : Vw) (LD : List Nat) (c : Nat) (σ : St) : Prop := (∀ ld, ld ≤ min (hol T c) (T 0 4) → σ.1 50 (121 * c + ld) = nz (mo T D R LD c ld)) ∧ (∀ s, s ≤ T 0 4 → σ.1 51 (201 * (c + 1) + s) = I (pf (mo T D R LD) (hol T) (T 0 2) (T 0 2 - (c + 1)) s))
theorem eX_pbrought {T D R : Vw} {LD : List Nat} {σ : St} {c : Nat} (hc : c < T 0 2) (h6 : T 0 2 ≤ 6) (h120 : hol T c ≤ 120) (h200 : T 0 4 ≤ 200) (ht : tbX T D R LD c σ) {ld s : Nat} (hs : s ≤ T 0 4) (hl : ld ≤ min (hol T c) s) : rX_pbrought (I c) (I ld) (I s) σ = some (if mo T D R LD c ld = 0 then -1 else I (mo T D R LD c ld - 1 + pf (mo T D R LD) (hol T) (T 0 2) (T 0 2 - (c + 1)) (s - ld)), σ) := by
  unfold rX_pbrought rX_pbrought_42
  have hm := mo_le T D R LD c ld
  simp only [litN, I_mul, I_add, nmS]
  rw [Nat.mul_comm c 121, chk_t (ib_I (by omega) (by omega)), I_cl (by omega), ht.1 ld (by omega), Nat.mul_comm (c + 1) 201, I_sub (by omega), chk_t (ib_I (by omega) (by omega)), I_cl (by omega), show 201 * (c + 1) + s - ld = 201 * (c + 1) + (s - ld) by omega, ht.2 (s - ld) (by omega)]
  by_cases e : mo T D R LD c ld = 0
  · rw [if_pos e, brc_f (fun h => h ((nz_eq1 (by omega)).mpr e))]
  · rw [if_neg e, brc_t (show ¬ nz (mo T D R LD c ld) = - I 1 from fun h => e ((nz_eq1 (by omega)).mp h))]
    have : nz (mo T D R LD c ld) = I (mo T D R LD c ld - 1) := if_neg e
    rw [this, I_add]
theorem eX_pweighSprings {T D R : Vw} {LD LP : List Nat} (hw : wfW T D R LD LP) {c : Nat} (hc : c < T 0 2) {σ : St} (hW : WX T D R LD LP σ) (ht : tbX T D R LD c σ) : wp (rX_pweighSprings (I c) σ) (fun τ => (∀ s, s ≤ T 0 4 → τ.1 51 (201 * c + s) = I (pf (mo T D R LD) (hol T) (T 0 2) (T 0 2 - c) s)) ∧ (∀ q, ¬ (201 * c ≤ q ∧ q < 201 * c + 201) → τ.1 51 q = σ.1 51 q) ∧ τ.1 50 = σ.1 50 ∧ pX σ τ) := by
  have h6 := hw.1.2.1
  have hh := hol_le hw.1 hc
  have h200 := hw.1.2.2.2.1
  have ek : T 0 2 - c = T 0 2 - (c + 1) + 1 := by omega
  have ec : T 0 2 - (T 0 2 - (c + 1) + 1) = c := by omega
  have epf : ∀ s, pf (mo T D R LD) (hol T) (T 0 2) (T 0 2 - c) s = pu (mo T D R LD c) (pf (mo T D R LD) (hol T) (T 0 2) (T 0 2 - (c + 1))) s (min (hol T c) s + 1) := fun s => by
    rw [ek]
    show pu (mo T D R LD (T 0 2 - (T 0 2 - (c + 1) + 1))) (pf (mo T D R LD) (hol T) (T 0 2) (T 0 2 - (c + 1))) s (min (hol T (T 0 2 - (T 0 2 - (c + 1) + 1))) s + 1) = _
    rw [ec]
  unfold rX_pweighSprings
  rw [nmE]
  refine wp_for (fun n a => ∃ (s : Nat) (τ : St), s + n = T 0 4 + 1 ∧ a = (I c, I s, τ) ∧ (∀ s', s' < s → τ.1 51 (201 * c + s') = I (pf (mo T D R LD) (hol T) (T 0 2) (T 0 2 - c) s')) ∧ (∀ q, ¬ (201 * c ≤ q ∧ q < 201 * c + 201) → τ.1 51 q = σ.1 51 q) ∧ τ.1 50 = σ.1 50 ∧ pX σ τ) ?_ ?_ (T 0 4 + 1) fu _ ⟨0, σ, by omega, rfl, fun s' h => absurd h (Nat.not_lt_zero _), fun _ _ => rfl, rfl, frO_refl⟩ (by unfold fu; omega)
  · rintro n a k ⟨s, τ, hs, rfl, t1, t2, t3, f⟩ hk
    have hWτ := WX_p f hW
    have htτ : tbX T D R LD c τ := ⟨fun ld hl => by rw [t3]; exact ht.1 ld hl, fun s' hs' => by rw [t2 _ (by omega)]; exact ht.2 s' hs'⟩
    show wp (rX_pweighSprings_2 (fun v1 v2 σ => k (v1, v2, σ)) (I c) (I s) τ) _
    unfold rX_pweighSprings_2
    rw [hWτ.1.2.2.2.2.1, brc_f (show ¬ I (T 0 4) < I s by rw [I_lt (by omega) (by omega)]; omega), nmE, nmE]
    refine wp_for (fun n2 a2 => ∃ j : Nat, j + n2 = min (hol T c) s + 1 ∧ a2 = (I c, I s, I (pu (mo T D R LD c) (pf (mo T D R LD) (hol T) (T 0 2) (T 0 2 - (c + 1))) s j), I j, τ)) ?_ ?_ (min (hol T c) s + 1) fu _ ⟨0, by omega, rfl⟩ (by unfold fu; omega)
    · rintro n2 a2 k2 ⟨j, hj, rfl⟩ hk2
      show wp (rX_pweighSprings_18 (fun v1 v2 σ => k (v1, v2, σ)) (fun v1 v2 v3 v4 σ => k2 (v1, v2, v3, v4, σ)) (I c) (I s) (I (pu (mo T D R LD c) (pf (mo T D R LD) (hol T) (T 0 2) (T 0 2 - (c + 1))) s j)) (I j) τ) _
      unfold rX_pweighSprings_18
      rw [eX_pmostLoad hw.1 hWτ.1 hc (by omega), bnd2_e, brc_f (show ¬ I (min (hol T c) s) < I j by rw [I_lt (by omega) (by omega)]; omega), eX_pbrought hc h6 hh h200 htτ (show s ≤ T 0 4 by omega) (show j ≤ min (hol T c) s by omega), bnd2_e, nmE, nmE, oi1, I_add]
      have b1 : pu (mo T D R LD c) (pf (mo T D R LD) (hol T) (T 0 2) (T 0 2 - (c + 1))) s j ≤ s := pu_le (mo_le T D R LD c) (fun x _ => pf_le (mo_le T D R LD) _ x) j (by omega)
      have b2 : pf (mo T D R LD) (hol T) (T 0 2) (T 0 2 - (c + 1)) (s - j) ≤ s - j := pf_le (mo_le T D R LD) _ _
      have b3 := mo_le T D R LD c j
      have e1 : pu (mo T D R LD c) (pf (mo T D R LD) (hol T) (T 0 2) (T 0 2 - (c + 1))) s (j + 1) = max (pu (mo T D R LD c) (pf (mo T D R LD) (hol T) (T 0 2) (T 0 2 - (c + 1))) s j) (if mo T D R LD c j = 0 then 0 else mo T D R LD c j - 1 + pf (mo T D R LD) (hol T) (T 0 2) (T 0 2 - (c + 1)) (s - j)) := rfl
      refine hk2 _ ⟨j + 1, by omega, ?_⟩
      rw [e1]
      generalize pu (mo T D R LD c) (pf (mo T D R LD) (hol T) (T 0 2) (T 0 2 - (c + 1))) s j = x at *
      generalize pf (mo T D R LD) (hol T) (T 0 2) (T 0 2 - (c + 1)) (s - j) = y at *
      by_cases hz : mo T D R LD c j = 0
      · rw [if_pos hz, if_pos hz, Nat.max_zero, if_neg (show ¬ I x < -1 by
          rw [Int32.lt_iff_toInt_lt, I_toInt (by omega), show (-1 : Int32).toInt = -1 from rfl]; omega)]
      · rw [if_neg hz, if_neg hz]
        by_cases hlt : x < mo T D R LD c j - 1 + y
        · rw [if_pos ((I_lt (by omega) (by omega)).mpr hlt), Nat.max_eq_right (by omega)]
        · rw [if_neg (fun h9 => hlt ((I_lt (by omega) (by omega)).mp h9)), Nat.max_eq_left (by omega)]
    · rintro a2 k2 ⟨j, hj, rfl⟩
      show wp (rX_pweighSprings_18 (fun v1 v2 σ => k (v1, v2, σ)) (fun v1 v2 v3 v4 σ => k2 (v1, v2, v3, v4, σ)) (I c) (I s) (I (pu (mo T D R LD c) (pf (mo T D R LD) (hol T) (T 0 2) (T 0 2 - (c + 1))) s j)) (I j) τ) _
      unfold rX_pweighSprings_18
      rw [eX_pmostLoad hw.1 hWτ.1 hc (by omega), bnd2_e, brc_t (show I (min (hol T c) s) < I j by rw [I_lt (by omega) (by omega)]; omega)]
      simp only [litN, I_mul, I_add]
      rw [Nat.mul_comm c 201, chk_t (ib_I (by omega) (by omega)), nmE, nmE, oi1, I_add, I_cl (by omega)]
      refine hk _ ⟨s + 1, _, by omega, rfl, fun s' hs' => ?_, fun q hq => ?_, ?_, frO_c f _ (by decide) (by decide)⟩
      · by_cases e : s' = s
        · rw [e, gI_same, epf, show j = min (hol T c) s + 1 by omega]
        · rw [gI_ne2 _ _ _ (by omega)]; exact t1 s' (by omega)
      · rw [gI_ne2 _ _ _ (by omega)]; exact t2 q hq
      · rw [gI_ne1 _ _ _ (by decide)]; exact t3
  · rintro a k ⟨s, τ, hs, rfl, t1, t2, t3, f⟩
    have hWτ := WX_p f hW
    show wp (rX_pweighSprings_2 (fun v1 v2 σ => k (v1, v2, σ)) (I c) (I s) τ) _
    unfold rX_pweighSprings_2
    rw [hWτ.1.2.2.2.2.1, brc_t (show I (T 0 4) < I s by rw [I_lt (by omega) (by omega)]; omega)]
    exact wp_some ⟨fun s' hs' => t1 s' (by omega), t2, t3, f⟩
theorem eX_pleastLoad {T D R : Vw} {LD LP : List Nat} (hw : wfW T D R LD LP) {c : Nat} (hc : c < T 0 2) {σ : St} (hW : WX T D R LD LP σ) (ht : tbX T D R LD c σ) {s : Nat} (hs : s ≤ T 0 4) (h51 : σ.1 51 (201 * c + s) = I (pf (mo T D R LD) (hol T) (T 0 2) (T 0 2 - c) s)) : rX_pleastLoad (I c) (I s) σ = some (I (plL (mo T D R LD) (hol T) (T 0 2) c s), σ) := by
  have h6 := hw.1.2.1
  have hh := hol_le hw.1 hc
  have h200 := hw.1.2.2.2.1
  obtain ⟨p1, p2, p3⟩ := plL_spec (m := mo T D R LD) (h := hol T) (nC := T 0 2) (c := c) (s := s) (fun _ => rfl) hc
  have hb : pf (mo T D R LD) (hol T) (T 0 2) (T 0 2 - c) s ≤ s := pf_le (mo_le T D R LD) _ _
  have key : ∀ j, j ≤ min (hol T c) s → ((if mo T D R LD c j = 0 then (-1 : Int32) else I (mo T D R LD c j - 1 + pf (mo T D R LD) (hol T) (T 0 2) (T 0 2 - (c + 1)) (s - j))) = I (pf (mo T D R LD) (hol T) (T 0 2) (T 0 2 - c) s) ↔ plP (mo T D R LD) (hol T) (T 0 2) c s j = true) := by
    intro j hj
    have b2 : pf (mo T D R LD) (hol T) (T 0 2) (T 0 2 - (c + 1)) (s - j) ≤ s - j := pf_le (mo_le T D R LD) _ _
    have b3 := mo_le T D R LD c j
    unfold plP
    rw [decide_eq_true_iff]
    by_cases hz : mo T D R LD c j = 0
    · rw [if_pos hz]
      constructor
      · intro h
        have := congrArg Int32.toInt h
        rw [I_toInt (by omega), show (-1 : Int32).toInt = -1 from rfl] at this
        omega
      · intro h
        exact absurd hz h.1
    · rw [if_neg hz, I_inj (by omega) (by omega)]
      exact ⟨fun h => ⟨hz, h⟩, fun h => h.2⟩
  have goal : wp (rX_pleastLoad (I c) (I s) σ) (fun r => r = (I (plL (mo T D R LD) (hol T) (T 0 2) c s), σ)) := by
    unfold rX_pleastLoad
    rw [nmE]
    refine wp_for (fun n a => ∃ j : Nat, j + n = plL (mo T D R LD) (hol T) (T 0 2) c s ∧ a = (I c, I s, I j, σ)) ?_ ?_ (plL (mo T D R LD) (hol T) (T 0 2) c s) fu _ ⟨0, by omega, rfl⟩ (by unfold fu; omega)
    · rintro n a k ⟨j, hj, rfl⟩ hk
      show wp (rX_pleastLoad_2 (fun v1 v2 v3 σ => k (v1, v2, v3, σ)) (I c) (I s) (I j) σ) _
      unfold rX_pleastLoad_2
      rw [eX_pmostLoad hw.1 hW.1 hc (by omega), bnd2_e, brc_f (show ¬ I (min (hol T c) s) < I j by rw [I_lt (by omega) (by omega)]; omega), eX_pbrought hc h6 hh h200 ht hs (show j ≤ min (hol T c) s by omega), bnd2_e]
      have hno : ¬ (if mo T D R LD c j = 0 then (-1 : Int32) else I (mo T D R LD c j - 1 + pf (mo T D R LD) (hol T) (T 0 2) (T 0 2 - (c + 1)) (s - j))) = I (pf (mo T D R LD) (hol T) (T 0 2) (T 0 2 - c) s) := fun h => by
        have := (key j (by omega)).mp h
        rw [p3 j (by omega)] at this
        exact absurd this (by decide)
      rw [litN, I_mul, I_add, Nat.mul_comm c 201, chk_t (ib_I (by omega) (by omega)), I_cl (by omega), h51, brc_t hno, nmE, oi1, I_add]
      exact hk _ ⟨j + 1, by omega, rfl⟩
    · rintro a k ⟨j, hj, rfl⟩
      have ej : j = plL (mo T D R LD) (hol T) (T 0 2) c s := by omega
      show wp (rX_pleastLoad_2 (fun v1 v2 v3 σ => k (v1, v2, v3, σ)) (I c) (I s) (I j) σ) _
      unfold rX_pleastLoad_2
      rw [eX_pmostLoad hw.1 hW.1 hc (by omega), bnd2_e, brc_f (show ¬ I (min (hol T c) s) < I j by rw [I_lt (by omega) (by omega)]; omega), eX_pbrought hc h6 hh h200 ht hs (show j ≤ min (hol T c) s by omega), bnd2_e]
      have hyes := (key j (by omega)).mpr (by rw [ej]; exact p1)
      rw [litN, I_mul, I_add, Nat.mul_comm c 201, chk_t (ib_I (by omega) (by omega)), I_cl (by omega), h51, brc_f (fun h => h hyes), ej]
      exact wp_some rfl
  obtain ⟨r, e, rfl⟩ := goal
  exact e
theorem plS_le (m : Nat → Nat → Nat) (h : Nat → Nat) (nC s : Nat) : ∀ c, plS m h nC s c ≤ s
  | 0 => Nat.le_refl _
  | c + 1 => by
    have := plS_le m h nC s c
    show plS m h nC s c - _ ≤ s
    omega
/-- all tables stand -/
def tbA (T D R : Vw) (LD : List Nat) (σ : St) : Prop := (∀ c, c < T 0 2 → ∀ ld, ld ≤ min (hol T c) (T 0 4) → σ.1 50 (121 * c + ld) = nz (mo T D R LD c ld)) ∧ (∀ c, c ≤ T 0 2 → ∀ s, s ≤ T 0 4 → σ.1 51 (201 * c + s) = I (pf (mo T D R LD) (hol T) (T 0 2) (T 0 2 - c) s))
theorem eX_pchoose {T D R : Vw} {LD LP : List Nat} (hw : wfW T D R LD LP) {σ : St} (hW : WX T D R LD LP σ) (ht : tbA T D R LD σ) : wp (rX_pchoose σ) (fun τ => (∀ c, c < T 0 2 → τ.1 52 c = I (plLoad T D R LD c) ∧ τ.1 53 c = nz (plWay T D R LD c)) ∧ frO [46, 47, 48, 52, 53] 49 [9, 10] σ τ) := by
  have h6 := hw.1.2.1
  have h200 := hw.1.2.2.2.1
  unfold rX_pchoose
  rw [nmE, nmE, hW.1.2.2.2.2.1]
  refine wp_for (fun n a => ∃ (c : Nat) (τ : St), c + n = T 0 2 ∧ a = (I (plS (mo T D R LD) (hol T) (T 0 2) (T 0 4) c), I c, τ) ∧ (∀ c', c' < c → τ.1 52 c' = I (plLoad T D R LD c') ∧ τ.1 53 c' = nz (plWay T D R LD c')) ∧ frO [46, 47, 48, 52, 53] 49 [9, 10] σ τ) ?_ ?_ (T 0 2) fu _ ⟨0, σ, by omega, rfl, fun c' h => absurd h (Nat.not_lt_zero _), frO_refl⟩ (by unfold fu; omega)
  · rintro n a k ⟨c, τ, hcn, rfl, t1, f⟩ hk
    have hc : c < T 0 2 := by omega
    have hh := hol_le hw.1 hc
    have fp : pX σ τ := frO_mono (fun i h => by revert h; simp; omega) (fun i h => by revert h; simp; omega) f
    have hWτ := WX_p fp hW
    have t50 : τ.1 50 = σ.1 50 := f.1 50 (by decide) (by decide)
    have t51 : τ.1 51 = σ.1 51 := f.1 51 (by decide) (by decide)
    have htτ : tbX T D R LD c τ := ⟨fun ld hl => by rw [t50]; exact ht.1 c hc ld hl, fun s' hs' => by rw [t51]; exact ht.2 (c + 1) (by omega) s' hs'⟩
    have hsp := plS_le (mo T D R LD) (hol T) (T 0 2) (T 0 4) c
    obtain ⟨p1, p2, p3⟩ := plL_spec (m := mo T D R LD) (h := hol T) (nC := T 0 2) (c := c) (s := plS (mo T D R LD) (hol T) (T 0 2) (T 0 4) c) (fun _ => rfl) hc
    have es : plS (mo T D R LD) (hol T) (T 0 2) (T 0 4) (c + 1) = plS (mo T D R LD) (hol T) (T 0 2) (T 0 4) c - plL (mo T D R LD) (hol T) (T 0 2) c (plS (mo T D R LD) (hol T) (T 0 2) (T 0 4) c) := rfl
    have eL : plLoad T D R LD c = plL (mo T D R LD) (hol T) (T 0 2) c (plS (mo T D R LD) (hol T) (T 0 2) (T 0 4) c) := rfl
    show wp (rX_pchoose_10 (fun v1 v2 σ => k (v1, v2, σ)) (I (plS (mo T D R LD) (hol T) (T 0 2) (T 0 4) c)) (I c) τ) _
    unfold rX_pchoose_10 rX_pchoose_62
    rw [hWτ.1.2.2.1, brc_f (show ¬ I (T 0 2) ≤ I c by rw [I_le (by omega) (by omega)]; omega), eX_pleastLoad hw hc hWτ htτ hsp (by rw [t51]; exact ht.2 c (by omega) _ hsp), bnd2_e, nmE, chk_t (ib_I (show c < 6 by omega) (by omega)), nmE, chk_t (ib_I (show c < 6 by omega) (by omega)), nmE, I_cl (by omega), ← eL]
    rw [← eL] at es p2
    have hk' : ∀ υ : St, (υ.1 52 c = I (plLoad T D R LD c) ∧ υ.1 53 c = nz (plWay T D R LD c)) → (∀ q, q ≠ c → υ.1 52 q = τ.1 52 q ∧ υ.1 53 q = τ.1 53 q) → frO [46, 47, 48, 52, 53] 49 [9, 10] σ υ → wp (nm (I (plS (mo T D R LD) (hol T) (T 0 2) (T 0 4) c) - I (plLoad T D R LD c)) fun v1_9 => nm (I c + Int32.ofInt 1) fun v2_10 => k (v1_9, v2_10, υ)) (fun τ => (∀ c, c < T 0 2 → τ.1 52 c = I (plLoad T D R LD c) ∧ τ.1 53 c = nz (plWay T D R LD c)) ∧ frO [46, 47, 48, 52, 53] 49 [9, 10] σ τ) := by
      intro υ u1 u2 fu
      rw [nmE, nmE, oi1, I_add, I_sub (by omega), ← es]
      refine hk _ ⟨c + 1, υ, by omega, rfl, fun c' hc' => ?_, fu⟩
      by_cases e : c' = c
      · rw [e]; exact u1
      · rw [(u2 c' e).1, (u2 c' e).2]; exact t1 c' (by omega)
    by_cases hz : plLoad T D R LD c = 0
    · rw [brc_t (show I (plLoad T D R LD c) ≤ 0 by rw [hz]; decide)]
      refine hk' _ ⟨?_, ?_⟩ (fun q hq => ⟨?_, ?_⟩) (frO_c (frO_c f _ (by decide) (by decide)) _ (by decide) (by decide))
      · rw [gI_ne1 _ _ _ (by decide), gI_same]
      · have : plWay T D R LD c = 0 := if_pos hz
        rw [gI_same, this]; rfl
      · rw [gI_ne1 _ _ _ (by decide), gI_ne2 _ _ _ hq]
      · rw [gI_ne2 _ _ _ hq, gI_ne1 _ _ _ (by decide)]
    · rw [brc_f (show ¬ I (plLoad T D R LD c) ≤ 0 by rw [I0, I_le (by omega) (by omega)]; omega)]
      have f2 : frO [46, 47, 48, 52, 53] 49 [9, 10] σ (setI (setI τ 52 c (I (plLoad T D R LD c))) 53 c (-1)) := frO_c (frO_c f _ (by decide) (by decide)) _ (by decide) (by decide)
      have fp2 : pX σ (setI (setI τ 52 c (I (plLoad T D R LD c))) 53 c (-1)) := frO_mono (fun i h => by revert h; simp; omega) (fun i h => by revert h; simp; omega) f2
      obtain ⟨υ, e1, u9, u10, f3⟩ := eX_pfindBest (c := c) (ld := plLoad T D R LD c) hw hc (by omega) (WX_p fp2 hW)
      rw [e1, bnd1_e, chk_t (ib_I (show c < 6 by omega) (by omega)), nmE, u9]
      have f4 : frO [46, 47, 48, 52, 53] 49 [9, 10] σ υ := frO_tr f2 (frO_mono (fun i h => by revert h; simp; omega) (fun i h => h) f3)
      have u52 : υ.1 52 = _ := f3.1 52 (by decide) (by decide)
      have u53 : υ.1 53 = _ := f3.1 53 (by decide) (by decide)
      refine hk' _ ⟨?_, ?_⟩ (fun q hq => ⟨?_, ?_⟩) (frO_c f4 _ (by decide) (by decide))
      · rw [gI_ne1 _ _ _ (by decide), u52, gI_ne1 _ _ _ (by decide), gI_same]
      · have : plWay T D R LD c = (bs T D R LD c (plLoad T D R LD c) (R 0 0)).1 := if_neg hz
        rw [gI_same, this]
      · rw [gI_ne1 _ _ _ (by decide), u52, gI_ne1 _ _ _ (by decide), gI_ne2 _ _ _ hq]
      · rw [gI_ne2 _ _ _ hq, u53, gI_ne2 _ _ _ hq, gI_ne1 _ _ _ (by decide)]
  · rintro a k ⟨c, τ, hcn, rfl, t1, f⟩
    have fp : pX σ τ := frO_mono (fun i h => by revert h; simp; omega) (fun i h => by revert h; simp; omega) f
    have hWτ := WX_p fp hW
    show wp (rX_pchoose_10 (fun v1 v2 σ => k (v1, v2, σ)) (I (plS (mo T D R LD) (hol T) (T 0 2) (T 0 4) c)) (I c) τ) _
    unfold rX_pchoose_10
    rw [hWτ.1.2.2.1, brc_t (show I (T 0 2) ≤ I c by rw [I_le (by omega) (by omega)]; omega)]
    exact wp_some ⟨fun c' hc' => t1 c' (by omega), f⟩
/-- the answers of the plan stand -/
def XAp (T D R : Vw) (LD : List Nat) (σ : St) : Prop := σ.1 49 8 = 1 ∧ σ.1 49 7 = I (plTog T D R LD) ∧ ∀ c, c < T 0 2 → σ.1 52 c = I (plLoad T D R LD c) ∧ σ.1 53 c = nz (plWay T D R LD c)
theorem eX_pmakeSure {T D R : Vw} {LD LP : List Nat} (hw : wfW T D R LD LP) {σ : St} (hW : WX T D R LD LP σ) (hs : σ.1 49 8 = 0 ∨ XAp T D R LD σ) : wp (rX_pmakeSure σ) (fun τ => XAp T D R LD τ ∧ pX σ τ) := by
  have h6 := hw.1.2.1
  have h200 := hw.1.2.2.2.1
  unfold rX_pmakeSure
  rcases hs with h0 | hs
  · rw [h0, brc_t rfl, eX_fill_from, bnd1_e]
    have f0 : pX σ (setR σ 51 (fun j => if j < 1407 then 0 else σ.1 51 j)) := frO_R frO_refl _ (by decide) (by decide)
    generalize hσ1 : setR σ 51 (fun j => if j < 1407 then 0 else σ.1 51 j) = σ1 at f0 ⊢
    have e51 : ∀ q, q < 1407 → σ1.1 51 q = I 0 := fun q hq => by rw [← hσ1, setR_same]; exact if_pos hq
    have hW1 := WX_p f0 hW
    rw [nmE, hW1.1.2.2.1, I1]
    -- from the last carrier down
    have start : wp (lp rX_pmakeSure_26L fu (I (T 0 2) - I 1, σ1)) (fun τ => XAp T D R LD τ ∧ pX σ τ) := by
      refine wp_for (fun n a => ∃ τ : St, n ≤ T 0 2 ∧ a = (I n - I 1, τ) ∧ (∀ c, n ≤ c → c < T 0 2 → ∀ ld, ld ≤ min (hol T c) (T 0 4) → τ.1 50 (121 * c + ld) = nz (mo T D R LD c ld)) ∧ (∀ c, n ≤ c → c ≤ T 0 2 → ∀ s, s ≤ T 0 4 → τ.1 51 (201 * c + s) = I (pf (mo T D R LD) (hol T) (T 0 2) (T 0 2 - c) s)) ∧ pX σ τ) ?_ ?_ (T 0 2) fu _ ⟨σ1, Nat.le_refl _, rfl, fun c h1 h2 => by omega, fun c h1 h2 s hs => ?_, f0⟩ (by unfold fu; omega)
      · rintro n a k ⟨τ, hn, rfl, t1, t2, f⟩ hk
        have hc : n < T 0 2 := by omega
        have hh := hol_le hw.1 hc
        rw [I_sub (by omega), Nat.add_sub_cancel]
        show wp (rX_pmakeSure_26 (fun v1 σ => k (v1, σ)) (I n) τ) _
        unfold rX_pmakeSure_26
        rw [brc_f (show ¬ I n < 0 by rw [I0, I_lt (by omega) (by omega)]; omega)]
        refine wp_bnd1 (wp_mono (eX_pweighLoads hw hc (WX_p f hW)) ?_)
        rintro υ ⟨u1, u2, u3, f2⟩
        have hWu := WX_p (frO_tr f f2) hW
        refine wp_bnd1 (wp_mono (eX_pweighSprings hw hc hWu ⟨u1, fun s hs => by rw [u3]; exact t2 (n + 1) (by omega) (by omega) s hs⟩) ?_)
        rintro ω ⟨w1, w2, w3, f3⟩
        rw [nmE]
        refine hk _ ⟨ω, by omega, ?_, fun c h1 h2 ld hld => ?_, fun c h1 h2 s hs => ?_, frO_tr (frO_tr f f2) f3⟩
        · rw [Int32.sub_eq_add_neg]
          exact congrArg (fun x => (I n + x, ω)) (by decide)
        · rw [w3]
          by_cases e : c = n
          · rw [e] at hld ⊢; exact u1 ld hld
          · have h120 := hol_le hw.1 (show c < T 0 2 by omega)
            rw [u2 _ (by omega)]; exact t1 c (by omega) h2 ld hld
        · by_cases e : c = n
          · rw [e]; exact w1 s hs
          · rw [w2 _ (by omega), u3]; exact t2 c (by omega) h2 s hs
      · rintro a k ⟨τ, hn, rfl, t1, t2, f⟩
        show wp (rX_pmakeSure_26 (fun v1 σ => k (v1, σ)) (I 0 - I 1) τ) _
        unfold rX_pmakeSure_26
        have hWτ := WX_p f hW
        rw [brc_t (by decide), hWτ.1.2.2.2.2.1, chk_t (ib_I (by omega) (by omega)), nmE, I_cl (by omega)]
        have e7 : τ.1 51 (T 0 4) = I (plTog T D R LD) := by
          have := t2 0 (Nat.le_refl _) (Nat.zero_le _) (T 0 4) (Nat.le_refl _)
          rw [Nat.mul_zero, Nat.zero_add, Nat.sub_zero] at this
          exact this
        rw [e7]
        have f2 : pX σ (setI τ 49 7 (I (plTog T D R LD))) := frO_f f _ (by decide)
        refine wp_bnd1 (wp_mono (eX_pchoose hw (WX_p f2 hW) ⟨fun c hc ld hld => by rw [gI_ne1 _ _ _ (by decide)]; exact t1 c (Nat.zero_le _) hc ld hld, fun c hc s hs => by rw [gI_ne1 _ _ _ (by decide)]; exact t2 c (Nat.zero_le _) hc s hs⟩) ?_)
        rintro υ ⟨u1, f3⟩
        rw [chk_t (by decide), nmE]
        refine wp_some ⟨⟨gI_same _ _ _ _, ?_, fun c hc => ?_⟩, frO_f (frO_tr f2 (frO_mono (fun i h => by revert h; simp; omega) (fun i h => by revert h; simp; omega) f3)) _ (by decide)⟩
        · rw [gI_ne2 _ _ _ (by decide), f3.2.1 7 (by decide), gI_same]
        · rw [gI_ne1 _ _ _ (by decide), gI_ne1 _ _ _ (by decide)]; exact u1 c hc
      · have : c = T 0 2 := by omega
        rw [e51 _ (by omega), this, Nat.sub_self]; rfl
    exact start
  · rw [hs.1, brc_f b01_1]
    exact wp_some ⟨hs, frO_refl⟩
