/-! the plan, in the reference -/
abbrev qM (σ τ : St) : Prop := frO [14, 15, 20, 21, 22] 0 [30, 31, 32, 33, 34, 35] σ τ
theorem qM_b {σ τ : St} (h : bM σ τ) : qM σ τ := frO_mono (fun i h => by revert h; simp; omega) (fun i h => h) h
theorem WM_q {T D R : Vw} {LD LP : List Nat} {σ τ : St} (h : qM σ τ) (hx : WM T D R LD LP σ) : WM T D R LD LP τ :=
  WM_fr (h.1 6 (by decide) (by decide)) (h.1 8 (by decide) (by decide)) (h.1 9 (by decide) (by decide)) (fun q _ => by rw [h.1 16 (by decide) (by decide)]) (h.2.1 27 (by decide)) (h.1 18 (by decide) (by decide)) hx
def tlM (T D R : Vw) (LD : List Nat) (n : Nat) (σ : St) : Prop := ∀ c, c < n → ∀ ld, ld ≤ hol T c → σ.1 20 (121 * c + ld) = nz (mo T D R LD c ld)
def tmM (T D R : Vw) (LD : List Nat) (n : Nat) (σ : St) : Prop := ∀ c, n ≤ c → c ≤ T 0 2 → ∀ s, s ≤ 200 → σ.1 21 (201 * c + s) = I (pf (mo T D R LD) (hol T) (T 0 2) (T 0 2 - c) s)
def doM (T D R : Vw) (LD : List Nat) (σ τ : St) : Prop := (∀ c, c < T 0 2 → τ.1 22 c = I (plLoad T D R LD c)) ∧ τ.1 21 (T 0 4) = I (plTog T D R LD) ∧ qM σ τ
theorem M_choose {T D R : Vw} {LD LP : List Nat} (hw : wfW T D R LD LP) {σ σ0 : St} (hW : WM T D R LD LP σ) (h1 : tlM T D R LD (T 0 2) σ) (h2 : tmM T D R LD 0 σ) (f0 : qM σ0 σ) : wp (lp rM_findPlan_245L fu (I (T 0 4), I 0, σ)) (doM T D R LD σ0) := by
  have h6 := hw.1.2.1
  have h200 := hw.1.2.2.2.1
  refine wp_for (fun n a => ∃ (c : Nat) (τ : St), c + n = T 0 2 ∧ a = (I (plS (mo T D R LD) (hol T) (T 0 2) (T 0 4) c), I c, τ) ∧ (∀ c', c' < c → τ.1 22 c' = I (plLoad T D R LD c')) ∧ frO [22] 0 [] σ τ) ?_ ?_ (T 0 2) fu _ ⟨0, σ, by omega, rfl, fun c' h => absurd h (Nat.not_lt_zero _), frO_refl⟩ (by unfold fu; omega)
  · rintro n a k ⟨c, τ, hcn, rfl, t1, f⟩ hk
    have hc : c < T 0 2 := by omega
    have hh := hol_le hw.1 hc
    have t6 : τ.1 6 = σ.1 6 := f.1 6 (by decide) (by decide)
    have t20 : τ.1 20 = σ.1 20 := f.1 20 (by decide) (by decide)
    have t21 : τ.1 21 = σ.1 21 := f.1 21 (by decide) (by decide)
    have hsp := plS_le (mo T D R LD) (hol T) (T 0 2) (T 0 4) c
    obtain ⟨p1, p2, p3⟩ := plL_spec (m := mo T D R LD) (h := hol T) (nC := T 0 2) (c := c) (s := plS (mo T D R LD) (hol T) (T 0 2) (T 0 4) c) (fun _ => rfl) hc
    have es : plS (mo T D R LD) (hol T) (T 0 2) (T 0 4) (c + 1) = plS (mo T D R LD) (hol T) (T 0 2) (T 0 4) c - plL (mo T D R LD) (hol T) (T 0 2) c (plS (mo T D R LD) (hol T) (T 0 2) (T 0 4) c) := rfl
    have eL : plLoad T D R LD c = plL (mo T D R LD) (hol T) (T 0 2) c (plS (mo T D R LD) (hol T) (T 0 2) (T 0 4) c) := rfl
    rw [← eL] at es p1 p2 p3
    show wp (rM_findPlan_245 (fun v1 v2 σ => k (v1, v2, σ)) (I (plS (mo T D R LD) (hol T) (T 0 2) (T 0 4) c)) (I c) τ) _
    unfold rM_findPlan_245
    rw [eM_carriers, bnd2_e, t6, hW.1.2.2.1, brc_f (show ¬ I (T 0 2) ≤ I c by rw [I_le (by omega) (by omega)]; omega), nmE]
    generalize plS (mo T D R LD) (hol T) (T 0 2) (T 0 4) c = s at *
    have hb : pf (mo T D R LD) (hol T) (T 0 2) (T 0 2 - c) s ≤ s := pf_le (mo_le T D R LD) _ _
    refine wp_for (fun n2 a2 => ∃ j : Nat, j + n2 = plLoad T D R LD c ∧ a2 = (I s, I c, I j, τ)) ?_ ?_ (plLoad T D R LD c) fu _ ⟨0, by omega, rfl⟩ (by unfold fu; omega)
    · rintro n2 a2 k2 ⟨j, hj, rfl⟩ hk2
      have hpj := p3 j (by omega)
      have b2 : pf (mo T D R LD) (hol T) (T 0 2) (T 0 2 - (c + 1)) (s - j) ≤ s - j := pf_le (mo_le T D R LD) _ _
      have b3 := mo_le T D R LD c j
      show wp (rM_findPlan_255 (fun v1 v2 σ => k (v1, v2, σ)) (fun v1 v2 v3 σ => k2 (v1, v2, v3, σ)) (I s) (I c) (I j) τ) _
      unfold rM_findPlan_255 rM_findPlan_312
      simp only [litN, I_mul, I_add]
      rw [chk_t (ib_I (by omega) (by omega)), I_cl (by omega), t20, h1 c hc j (by omega), nmE, oi1, I_add]
      refine wp_brc (fun _ => hk2 _ ⟨j + 1, by omega, rfl⟩) (fun hz => ?_)
      have hz' : ¬ mo T D R LD c j = 0 := fun e => hz (by rw [e]; decide)
      have en : nz (mo T D R LD c j) = I (mo T D R LD c j - 1) := if_neg hz'
      rw [chk_t (ib_I (by omega) (by omega)), I_sub (by omega), chk_t (ib_I (by omega) (by omega)), chk_t (ib_I (by omega) (by omega)), I_cl (by omega), I_cl (by omega), t21, show 201 * (c + 1) + s - j = 201 * (c + 1) + (s - j) by omega, h2 (c + 1) (Nat.zero_le _) (by omega) (s - j) (by omega), h2 c (Nat.zero_le _) (by omega) s (by omega), en, I_add]
      have hno : ¬ I (mo T D R LD c j - 1 + pf (mo T D R LD) (hol T) (T 0 2) (T 0 2 - (c + 1)) (s - j)) = I (pf (mo T D R LD) (hol T) (T 0 2) (T 0 2 - c) s) := fun h => by
        rw [I_inj (by omega) (by omega)] at h
        have : plP (mo T D R LD) (hol T) (T 0 2) c s j = true := by unfold plP; exact decide_eq_true ⟨hz', h⟩
        rw [hpj] at this
        exact absurd this (by decide)
      rw [brc_f hno]
      exact hk2 _ ⟨j + 1, by omega, rfl⟩
    · rintro a2 k2 ⟨j, hj, rfl⟩
      have ej : j = plLoad T D R LD c := by omega
      have b2 : pf (mo T D R LD) (hol T) (T 0 2) (T 0 2 - (c + 1)) (s - j) ≤ s - j := pf_le (mo_le T D R LD) _ _
      have b3 := mo_le T D R LD c j
      rw [← ej] at p1 p2 es
      have pj : ¬ mo T D R LD c j = 0 ∧ mo T D R LD c j - 1 + pf (mo T D R LD) (hol T) (T 0 2) (T 0 2 - (c + 1)) (s - j) = pf (mo T D R LD) (hol T) (T 0 2) (T 0 2 - c) s := by
        unfold plP at p1
        exact of_decide_eq_true p1
      show wp (rM_findPlan_255 (fun v1 v2 σ => k (v1, v2, σ)) (fun v1 v2 v3 σ => k2 (v1, v2, v3, σ)) (I s) (I c) (I j) τ) _
      unfold rM_findPlan_255
      have en : nz (mo T D R LD c j) = I (mo T D R LD c j - 1) := if_neg pj.1
      simp only [litN, I_mul, I_add]
      rw [chk_t (ib_I (by omega) (by omega)), I_cl (by omega), t20, h1 c hc j (by omega), en, brc_f (show ¬ I (mo T D R LD c j - 1) < I 0 by rw [I_lt (by omega) (by omega)]; omega), chk_t (ib_I (by omega) (by omega)), I_sub (by omega), chk_t (ib_I (by omega) (by omega)), chk_t (ib_I (by omega) (by omega)), I_cl (by omega), I_cl (by omega), t21, show 201 * (c + 1) + s - j = 201 * (c + 1) + (s - j) by omega, h2 (c + 1) (Nat.zero_le _) (by omega) (s - j) (by omega), h2 c (Nat.zero_le _) (by omega) s (by omega), I_add, brc_t (by rw [pj.2]), chk_t (ib_I (show c < 6 by omega) (by omega)), nmE, nmE, nmE, oi1, I_add, I_sub (by omega), I_cl (by omega), ← es]
      refine hk _ ⟨c + 1, _, by omega, rfl, fun c' hc' => ?_, frO_c f _ (by decide) (by decide)⟩
      by_cases e : c' = c
      · rw [e, gI_same, ej]
      · rw [gI_ne2 _ _ _ e]; exact t1 c' (by omega)
  · rintro a k ⟨c, τ, hcn, rfl, t1, f⟩
    show wp (rM_findPlan_245 (fun v1 v2 σ => k (v1, v2, σ)) (I (plS (mo T D R LD) (hol T) (T 0 2) (T 0 4) c)) (I c) τ) _
    unfold rM_findPlan_245
    rw [eM_carriers, bnd2_e, f.1 6 (by decide) (by decide), hW.1.2.2.1, brc_t (show I (T 0 2) ≤ I c by rw [I_le (by omega) (by omega)]; omega)]
    refine wp_some ⟨fun c' hc' => t1 c' (by omega), ?_, frO_tr f0 (frO_mono (fun i h => by revert h; simp; omega) (fun i h => absurd h (List.not_mem_nil)) f)⟩
    rw [f.1 21 (by decide) (by decide)]
    have := h2 0 (Nat.le_refl _) (Nat.zero_le _) (T 0 4) h200
    rw [Nat.mul_zero, Nat.zero_add, Nat.sub_zero] at this
    exact this
theorem M_springs {T D R : Vw} {LD LP : List Nat} (hw : wfW T D R LD LP) {σ σ0 : St} (hW : WM T D R LD LP σ) (h1 : tlM T D R LD (T 0 2) σ) (h2 : tmM T D R LD (T 0 2) σ) (f0 : qM σ0 σ) : wp (lp rM_findPlan_107L fu (I (T 0 2) - I 1, σ)) (doM T D R LD σ0) := by
  have h6 := hw.1.2.1
  have h200 := hw.1.2.2.2.1
  refine wp_for (fun n a => ∃ τ : St, n ≤ T 0 2 ∧ a = (I n - I 1, τ) ∧ tmM T D R LD n τ ∧ frO [21] 0 [] σ τ) ?_ ?_ (T 0 2) fu _ ⟨σ, Nat.le_refl _, rfl, h2, frO_refl⟩ (by unfold fu; omega)
  · rintro c a k ⟨τ, hc, rfl, t1, f⟩ hk
    have hh := hol_le hw.1 (show c < T 0 2 by omega)
    have ek : T 0 2 - c = T 0 2 - (c + 1) + 1 := by omega
    have ec : T 0 2 - (T 0 2 - (c + 1) + 1) = c := by omega
    have epf : ∀ s, pf (mo T D R LD) (hol T) (T 0 2) (T 0 2 - c) s = pu (mo T D R LD c) (pf (mo T D R LD) (hol T) (T 0 2) (T 0 2 - (c + 1))) s (min (hol T c) s + 1) := fun s => by
      rw [ek]
      show pu (mo T D R LD (T 0 2 - (T 0 2 - (c + 1) + 1))) (pf (mo T D R LD) (hol T) (T 0 2) (T 0 2 - (c + 1))) s (min (hol T (T 0 2 - (T 0 2 - (c + 1) + 1))) s + 1) = _
      rw [ec]
    rw [I_sub (by omega), Nat.add_sub_cancel]
    show wp (rM_findPlan_107 (fun v1 σ => k (v1, σ)) (I c) τ) _
    unfold rM_findPlan_107
    rw [brc_f (show ¬ I c < 0 by rw [I0, I_lt (by omega) (by omega)]; omega), nmE]
    refine wp_for (fun n2 a2 => ∃ (s : Nat) (υ : St), s + n2 = 201 ∧ a2 = (I c, I s, υ) ∧ (∀ s', s' < s → υ.1 21 (201 * c + s') = I (pf (mo T D R LD) (hol T) (T 0 2) (T 0 2 - c) s')) ∧ (∀ q, ¬ (201 * c ≤ q ∧ q < 201 * c + 201) → υ.1 21 q = τ.1 21 q) ∧ frO [21] 0 [] σ υ) ?_ ?_ 201 fu _ ⟨0, τ, by omega, rfl, fun s' h => absurd h (Nat.not_lt_zero _), fun _ _ => rfl, f⟩ (by unfold fu; omega)
    · rintro n2 a2 k2 ⟨s, υ, hs, rfl, u1, u2, fu2⟩ hk2
      have hTu : MT T υ := MT_fr (fu2.1 6 (by decide) (by decide)) hW.1
      have v20 : υ.1 20 = σ.1 20 := fu2.1 20 (by decide) (by decide)
      have v21 : ∀ s', s' ≤ 200 → υ.1 21 (201 * (c + 1) + s') = I (pf (mo T D R LD) (hol T) (T 0 2) (T 0 2 - (c + 1)) s') := fun s' hs' => by
        rw [u2 _ (by omega)]; exact t1 (c + 1) (Nat.le_refl _) (by omega) s' hs'
      show wp (rM_findPlan_113 (fun v1 σ => k (v1, σ)) (fun v1 v2 σ => k2 (v1, v2, σ)) (I c) (I s) υ) _
      unfold rM_findPlan_113
      rw [brc_f (show ¬ (201 : Int32) ≤ I s by rw [litN, I_le (by omega) (by omega)]; omega), nmE, nmE]
      refine wp_for (fun n3 a3 => ∃ j : Nat, j + n3 = min (hol T c) s + 1 ∧ a3 = (I c, I s, I (pu (mo T D R LD c) (pf (mo T D R LD) (hol T) (T 0 2) (T 0 2 - (c + 1))) s j), I j, υ)) ?_ ?_ (min (hol T c) s + 1) fu _ ⟨0, by omega, rfl⟩ (by unfold fu; omega)
      · rintro n3 a3 k3 ⟨j, hj, rfl⟩ hk3
        show wp (rM_findPlan_125 (fun v1 σ => k (v1, σ)) (fun v1 v2 σ => k2 (v1, v2, σ)) (fun v1 v2 v3 v4 σ => k3 (v1, v2, v3, v4, σ)) (I c) (I s) (I (pu (mo T D R LD c) (pf (mo T D R LD) (hol T) (T 0 2) (T 0 2 - (c + 1))) s j)) (I j) υ) _
        unfold rM_findPlan_125 rM_findPlan_190 rM_findPlan_204
        have b1 : pu (mo T D R LD c) (pf (mo T D R LD) (hol T) (T 0 2) (T 0 2 - (c + 1))) s j ≤ s := pu_le (mo_le T D R LD c) (fun x _ => pf_le (mo_le T D R LD) _ x) j (by omega)
        have b2 : pf (mo T D R LD) (hol T) (T 0 2) (T 0 2 - (c + 1)) (s - j) ≤ s - j := pf_le (mo_le T D R LD) _ _
        have b3 := mo_le T D R LD c j
        have e1 : pu (mo T D R LD c) (pf (mo T D R LD) (hol T) (T 0 2) (T 0 2 - (c + 1))) s (j + 1) = max (pu (mo T D R LD c) (pf (mo T D R LD) (hol T) (T 0 2) (T 0 2 - (c + 1))) s j) (if mo T D R LD c j = 0 then 0 else mo T D R LD c j - 1 + pf (mo T D R LD) (hol T) (T 0 2) (T 0 2 - (c + 1)) (s - j)) := rfl
        replace hk3 : wp (k3 (I c, I s, I (pu (mo T D R LD c) (pf (mo T D R LD) (hol T) (T 0 2) (T 0 2 - (c + 1))) s (j + 1)), I (j + 1), υ)) (doM T D R LD σ0) := hk3 _ ⟨j + 1, by omega, rfl⟩
        rw [e1] at hk3
        rw [eM_holdsT hw.1 hTu (show c < T 0 2 by omega), bnd2_e, brc_f (show ¬ I (hol T c) < I j by rw [I_lt (by omega) (by omega)]; omega), brc_f (show ¬ I s < I j by rw [I_lt (by omega) (by omega)]; omega)]
        simp only [litN, I_mul, I_add, nmS]
        rw [chk_t (ib_I (by omega) (by omega)), chk_t (ib_I (by omega) (by omega)), I_cl (by omega), v20, h1 c (by omega) j (by omega), oi1, I_add, I_sub (by omega), chk_t (ib_I (by omega) (by omega)), I_cl (by omega), show 201 * (c + 1) + s - j = 201 * (c + 1) + (s - j) by omega, v21 (s - j) (by omega)]
        generalize pu (mo T D R LD c) (pf (mo T D R LD) (hol T) (T 0 2) (T 0 2 - (c + 1))) s j = x at *
        generalize pf (mo T D R LD) (hol T) (T 0 2) (T 0 2 - (c + 1)) (s - j) = y at *
        by_cases hz : mo T D R LD c j = 0
        · rw [if_pos hz, Nat.max_zero] at hk3
          rw [hz, nz0, brc_f (show ¬ I 0 ≤ -1 by decide), brc_t (show - I 1 ≤ I x by
            rw [Int32.le_iff_toInt_le, I_toInt (by omega), show (- I 1).toInt = -1 from rfl]; omega)]
          exact hk3
        · have en : nz (mo T D R LD c j) = I (mo T D R LD c j - 1) := if_neg hz
          rw [if_neg hz] at hk3
          rw [en, brc_t (show I 0 ≤ I (mo T D R LD c j - 1) by rw [I_le (by omega) (by omega)]; omega), I_add]
          by_cases hle : mo T D R LD c j - 1 + y ≤ x
          · rw [brc_t (show I (mo T D R LD c j - 1 + y) ≤ I x by rw [I_le (by omega) (by omega)]; exact hle)]
            rw [Nat.max_eq_left hle] at hk3
            exact hk3
          · rw [brc_f (show ¬ I (mo T D R LD c j - 1 + y) ≤ I x by rw [I_le (by omega) (by omega)]; exact hle)]
            rw [Nat.max_eq_right (by omega)] at hk3
            exact hk3
      · rintro a3 k3 ⟨j, hj, rfl⟩
        show wp (rM_findPlan_125 (fun v1 σ => k (v1, σ)) (fun v1 v2 σ => k2 (v1, v2, σ)) (fun v1 v2 v3 v4 σ => k3 (v1, v2, v3, v4, σ)) (I c) (I s) (I (pu (mo T D R LD c) (pf (mo T D R LD) (hol T) (T 0 2) (T 0 2 - (c + 1))) s j)) (I j) υ) _
        unfold rM_findPlan_125
        have go : wp (rM_findPlan_211 (fun v1 σ => k (v1, σ)) (fun v1 v2 σ => k2 (v1, v2, σ)) (I c) (I s) (I (pu (mo T D R LD c) (pf (mo T D R LD) (hol T) (T 0 2) (T 0 2 - (c + 1))) s j)) υ) (doM T D R LD σ0) := by
          unfold rM_findPlan_211
          simp only [litN, I_mul, I_add]
          rw [chk_t (ib_I (by omega) (by omega)), nmE, nmE, oi1, I_add, I_cl (by omega)]
          refine hk2 _ ⟨s + 1, _, by omega, rfl, fun s' hs' => ?_, fun q hq => ?_, frO_c fu2 _ (by decide) (by decide)⟩
          · by_cases e : s' = s
            · rw [e, gI_same, epf, show j = min (hol T c) s + 1 by omega]
            · rw [gI_ne2 _ _ _ (by omega)]; exact u1 s' (by omega)
          · rw [gI_ne2 _ _ _ (by omega)]; exact u2 q hq
        rw [eM_holdsT hw.1 hTu (show c < T 0 2 by omega), bnd2_e]
        refine wp_brc (fun _ => go) (fun hn1 => ?_)
        refine wp_brT ?_ go
        rw [I_lt (by omega) (by omega)] at hn1
        rw [I_lt (by omega) (by omega)]
        omega
    · rintro a2 k2 ⟨s, υ, hs, rfl, u1, u2, fu2⟩
      show wp (rM_findPlan_113 (fun v1 σ => k (v1, σ)) (fun v1 v2 σ => k2 (v1, v2, σ)) (I c) (I s) υ) _
      unfold rM_findPlan_113
      rw [brc_t (show (201 : Int32) ≤ I s by rw [litN, I_le (by omega) (by omega)]; omega), nmE]
      refine hk _ ⟨υ, by omega, ?_, fun c' hc1 hc2 s' hs' => ?_, fu2⟩
      · rw [Int32.sub_eq_add_neg]
        exact congrArg (fun x => (I c + x, υ)) (by decide)
      · by_cases e : c' = c
        · rw [e]; exact u1 s' (by omega)
        · rw [u2 _ (by omega)]; exact t1 c' (by omega) hc2 s' hs'
  · rintro a k ⟨τ, hc, rfl, t1, f⟩
    show wp (rM_findPlan_107 (fun v1 σ => k (v1, σ)) (I 0 - I 1) τ) _
    unfold rM_findPlan_107
    have t6 : τ.1 6 = σ.1 6 := f.1 6 (by decide) (by decide)
    have fq : qM σ τ := frO_mono (fun i h => by revert h; simp; omega) (fun i h => absurd h (List.not_mem_nil)) f
    rw [brc_t (by decide), show ib (4 : Int32) 320 = true from rfl, chk_e, nmE, nmE, show (4 : Int32).toNatClampNeg = 4 from rfl, t6, hW.1.2.2.2.2.1]
    exact M_choose hw (WM_q fq hW) (fun c hc ld hld => by rw [f.1 20 (by decide) (by decide)]; exact h1 c hc ld hld) t1 (frO_tr f0 fq)
theorem eM_findPlan {T D R : Vw} {LD LP : List Nat} (hw : wfW T D R LD LP) {σ : St} (hW : WM T D R LD LP σ) : wp (rM_findPlan σ) (doM T D R LD σ) := by
  have h6 := hw.1.2.1
  have h200 := hw.1.2.2.2.1
  unfold rM_findPlan
  rw [nmE]
  refine wp_for (fun n a => ∃ (c : Nat) (τ : St), c + n = T 0 2 ∧ a = (I c, τ) ∧ tlM T D R LD c τ ∧ qM σ τ) ?_ ?_ (T 0 2) fu _ ⟨0, σ, by omega, rfl, fun c h => absurd h (Nat.not_lt_zero _), frO_refl⟩ (by unfold fu; omega)
  · rintro n a k ⟨c, τ, hcn, rfl, t1, f⟩ hk
    have hc : c < T 0 2 := by omega
    have hh := hol_le hw.1 hc
    show wp (rM_findPlan_2 (fun v1 σ => k (v1, σ)) (I c) τ) _
    unfold rM_findPlan_2
    have hWτ := WM_q f hW
    rw [eM_carriers, bnd2_e, hWτ.1.2.2.1, brc_f (show ¬ I (T 0 2) ≤ I c by rw [I_le (by omega) (by omega)]; omega), nmE]
    refine wp_for (fun n2 a2 => ∃ (j : Nat) (υ : St), j + n2 = hol T c + 1 ∧ a2 = (I c, I j, υ) ∧ tlM T D R LD c υ ∧ (∀ ld, ld < j → υ.1 20 (121 * c + ld) = nz (mo T D R LD c ld)) ∧ qM σ υ) ?_ ?_ (hol T c + 1) fu _ ⟨0, τ, by omega, rfl, t1, fun ld h => absurd h (Nat.not_lt_zero _), f⟩ (by unfold fu; omega)
    · rintro n2 a2 k2 ⟨j, υ, hj, rfl, u1, u2, fu2⟩ hk2
      have hWu := WM_q fu2 hW
      show wp (rM_findPlan_12 (fun v1 σ => k (v1, σ)) (fun v1 v2 σ => k2 (v1, v2, σ)) (I c) (I j) υ) _
      unfold rM_findPlan_12
      rw [eM_holdsT hw.1 hWu.1 hc, bnd2_e, brc_f (show ¬ I (hol T c) < I j by rw [I_lt (by omega) (by omega)]; omega)]
      have go : ∀ (v : Int32) (ω : St), v = nz (mo T D R LD c j) → ω.1 20 = υ.1 20 → qM σ ω → wp (rM_findPlan_56 (fun v1 σ => k (v1, σ)) (fun v1 v2 σ => k2 (v1, v2, σ)) (I c) (I j) v (((121 : Int32) * I c) + I j) ω) (doM T D R LD σ) := by
        intro v ω hv hω fω
        unfold rM_findPlan_56
        rw [litN, I_mul, I_add, chk_t (ib_I (by omega) (by omega)), nmE, nmE, oi1, I_add, I_cl (by omega)]
        refine hk2 _ ⟨j + 1, _, by omega, rfl, fun c' hc' ld hld => ?_, fun ld hld => ?_, frO_c fω _ (by decide) (by decide)⟩
        · have := hol_le hw.1 (show c' < T 0 2 by omega)
          rw [gI_ne2 _ _ _ (by omega), hω]; exact u1 c' hc' ld hld
        · by_cases e : ld = j
          · rw [e, gI_same, hv]
          · rw [gI_ne2 _ _ _ (by omega), hω]; exact u2 ld (by omega)
      by_cases hz : j = 0
      · rw [brc_f (show ¬ ¬ I j = 0 by rw [hz]; exact fun h => h rfl)]
        exact go 0 υ (by rw [hz]; rfl) rfl fu2
      · rw [brc_t (show ¬ I j = 0 by rw [I0, I_inj (by omega) (by omega)]; exact hz)]
        have em : mo T D R LD c j = (bs T D R LD c j (R 0 0)).2 := if_neg hz
        refine wp_bnd2 (wp_mono (eM_findBest (ld := j) hw hc (by omega) hWu) ?_)
        rintro ⟨r, ω⟩ ⟨e1, e2, e3, f3⟩
        simp only at e1 e2 e3 f3
        have fω := frO_tr fu2 (qM_b f3)
        have hb := bs_le T D R LD c j (R 0 0)
        show wp (brc (r = 0) _ _) _
        refine wp_brc (fun h0 => ?_) (fun h0 => ?_)
        · refine go _ _ ?_ (f3.1 20 (by decide) (by decide)) fω
          rw [e1, b01_ne] at h0
          have hz1 : (bs T D R LD c j (R 0 0)).1 = 0 := Classical.not_not.mp h0
          rw [em, hb.2.2.mp hz1]; rfl
        · exact go _ _ (by rw [e3, em]) (f3.1 20 (by decide) (by decide)) fω
    · rintro a2 k2 ⟨j, υ, hj, rfl, u1, u2, fu2⟩
      have hWu := WM_q fu2 hW
      show wp (rM_findPlan_12 (fun v1 σ => k (v1, σ)) (fun v1 v2 σ => k2 (v1, v2, σ)) (I c) (I j) υ) _
      unfold rM_findPlan_12
      rw [eM_holdsT hw.1 hWu.1 hc, bnd2_e, brc_t (show I (hol T c) < I j by rw [I_lt (by omega) (by omega)]; omega), nmE, oi1, I_add]
      refine hk _ ⟨c + 1, υ, by omega, rfl, fun c' hc' ld hld => ?_, fu2⟩
      by_cases e : c' = c
      · rw [e] at hld ⊢; exact u2 ld (by omega)
      · exact u1 c' (by omega) ld hld
  · rintro a k ⟨c, τ, hcn, rfl, t1, f⟩
    have ec : c = T 0 2 := by omega
    have hWτ := WM_q f hW
    show wp (rM_findPlan_2 (fun v1 σ => k (v1, σ)) (I c) τ) _
    unfold rM_findPlan_2
    rw [eM_carriers, bnd2_e, hWτ.1.2.2.1, brc_t (show I (T 0 2) ≤ I c by rw [I_le (by omega) (by omega)]; omega), nmE]
    rw [ec] at t1
    refine wp_for (fun n2 a2 => ∃ (s : Nat) (υ : St), s + n2 = 201 ∧ a2 = (I s, υ) ∧ (∀ s', s' < s → υ.1 21 (201 * T 0 2 + s') = I 0) ∧ frO [21] 0 [] τ υ) ?_ ?_ 201 fu _ ⟨0, τ, by omega, rfl, fun s' h => absurd h (Nat.not_lt_zero _), frO_refl⟩ (by unfold fu; omega)
    · rintro n2 a2 k2 ⟨s, υ, hs, rfl, u1, fu2⟩ hk2
      show wp (rM_findPlan_71 (fun v1 σ => k2 (v1, σ)) (I s) υ) _
      unfold rM_findPlan_71
      rw [brc_f (show ¬ (201 : Int32) ≤ I s by rw [litN, I_le (by omega) (by omega)]; omega), eM_carriers, bnd2_e, fu2.1 6 (by decide) (by decide), hWτ.1.2.2.1, litN, I_mul, I_add, chk_t (ib_I (by omega) (by omega)), nmE, nmE, oi1, I_add, I_cl (by omega)]
      refine hk2 _ ⟨s + 1, _, by omega, rfl, fun s' hs' => ?_, frO_c fu2 _ (by decide) (by decide)⟩
      by_cases e : s' = s
      · rw [e, gI_same]; rfl
      · rw [gI_ne2 _ _ _ (by omega)]; exact u1 s' (by omega)
    · rintro a2 k2 ⟨s, υ, hs, rfl, u1, fu2⟩
      have fq : qM τ υ := frO_mono (fun i h => by revert h; simp; omega) (fun i h => absurd h (List.not_mem_nil)) fu2
      show wp (rM_findPlan_71 (fun v1 σ => k2 (v1, σ)) (I s) υ) _
      unfold rM_findPlan_71
      rw [brc_t (show (201 : Int32) ≤ I s by rw [litN, I_le (by omega) (by omega)]; omega), eM_carriers, bnd2_e, fu2.1 6 (by decide) (by decide), hWτ.1.2.2.1, nmE, I1]
      refine M_springs hw (WM_q fq hWτ) (fun c' hc' ld hld => by rw [fu2.1 20 (by decide) (by decide)]; exact t1 c' hc' ld hld) (fun c' h1 h2 s' hs' => ?_) (frO_tr f fq)
      have : c' = T 0 2 := by omega
      rw [this, Nat.sub_self, u1 s' (by omega)]; rfl
