/-! numbers of the reference; the class takes tokens -/
abbrev tV (n : Nat) (tp : Nat → Nat) (k : Nat) : Nat := tkV n tp (ps n tp k)
theorem tk_num {n : Nat} {tp : Nat → Nat} (hw : wfP n tp) {i : Nat} (hi : i ≤ n) (h : tkW n tp i = 39) : tkS n tp i = 2 ∧ i < n ∧ pL tp i = false ∧ pD tp i = true ∧ tkV n tp i < 10000 ∧ tkV n tp i = cdF 10 (fun q => tp q - 48) i (tkR (pD tp) n i - i) := by
  rcases tk_cases hw hi with ⟨a1, a2, a3⟩ | ⟨a1, a2, a3, a4, a5, a6⟩ | ⟨a1, a2, a3, a4, a5, a6, a7⟩ | ⟨a1, a2, a3, a4, a5⟩ | ⟨a1, a2, a3⟩
  · omega
  · have := tk_letw a2 a3
    omega
  · refine ⟨a1, a2, a3, a4, ?_, a7⟩
    rw [a7]
    have h1 := cdF_lt (B := 10) (g := fun q => tp q - 48) (i := i) (tkR (pD tp) n i - i) (fun q hq => by
      have h9 : pD tp (i + q) = true := tkR_all (n := n) (i := i) (by omega) (by omega)
      have := of_decide_eq_true h9
      show tp (i + q) - 48 < 10
      omega)
    have h2 : 10 ^ (tkR (pD tp) n i - i) ≤ 10 ^ 4 := Nat.pow_le_pow_right (by omega) a6
    omega
  · have := sgo_b (tp i)
    omega
  · omega
theorem tk_nnum {n : Nat} {tp : Nat → Nat} (hw : wfP n tp) {i : Nat} (hi : i ≤ n) (h : ¬ tkW n tp i = 39) : ¬ tkS n tp i = 2 ∧ tkS n tp i < 5 := by
  rcases tk_cases hw hi with ⟨a1, a2, a3⟩ | ⟨a1, a2, a3, a4, a5, a6⟩ | ⟨a1, a2, a3, a4, a5, a6, a7⟩ | ⟨a1, a2, a3, a4, a5⟩ | ⟨a1, a2, a3⟩
  · omega
  · omega
  · exact absurd a5 h
  · omega
  · omega
/-- what is wrong with the number at token k -/
def nF (n : Nat) (tp : Nat → Nat) (k lo hi : Nat) : Nat := if tW n tp k = 39 then (if lo ≤ tV n tp k ∧ tV n tp k ≤ hi then 0 else 4) else 1
theorem eM_takeNumber {n : Nat} {tp : Nat → Nat} (hw : wfP n tp) {N k : Nat} {σ : St} (h : RM n tp N k 0 σ) {lo hi : Nat} (hlo : lo < 10000) (hhi : hi < 10000) : wp (rM_takeNumber (I lo) (I hi) σ) (fun r => rdM σ r.2 ∧ ((nF n tp k lo hi = 0 ∧ r.1 = I (tV n tp k) ∧ RM n tp N (k + 1) 0 r.2) ∨ (0 < nF n tp k lo hi ∧ nF n tp k lo hi ≤ 4 ∧ r.1 = 0 ∧ RM n tp N k (nF n tp k lo hi + 16 * ps n tp k) r.2))) := by
  obtain ⟨t1, t2, t3, t4⟩ := RM_tok h
  have hN := h.1.1
  have hk := h.2.1
  have hn := hw.1
  have bad : ∀ (v : Nat) (τ : St), 0 < v → v ≤ 4 → nF n tp k lo hi = v → τ = setI σ 0 8 (I (v + 16 * ps n tp k)) → wp (rM_takeNumber_70 τ) (fun r => rdM σ r.2 ∧ ((nF n tp k lo hi = 0 ∧ r.1 = I (tV n tp k) ∧ RM n tp N (k + 1) 0 r.2) ∨ (0 < nF n tp k lo hi ∧ nF n tp k lo hi ≤ 4 ∧ r.1 = 0 ∧ RM n tp N k (nF n tp k lo hi + 16 * ps n tp k) r.2))) := fun v τ h0 h4 hv hτ => by
    subst hτ
    unfold rM_takeNumber_70
    rw [gI_same, brc_f (by rw [I0, I_le (by omega) (by omega)]; omega)]
    exact wp_some ⟨frO_f frO_refl _ (by decide), Or.inr ⟨by omega, by omega, rfl, by rw [hv]; exact RM_F h _⟩⟩
  unfold rM_takeNumber
  rw [h.2.2.2.1, brc_f (by rw [I0]; exact fun h => h rfl), h.2.2.1, chk_t (ib_I (by omega) (by omega)), I_cl (by omega), t2]
  by_cases hW : tW n tp k = 39
  · obtain ⟨a1, a2, a3, a4, a5, a6⟩ := tk_num hw t3 hW
    obtain ⟨b1, b2⟩ := t4 a2
    have hJ : ∀ v, v < 10000 → (I v).toInt64.toInt = v := fun v hv => by rw [Int32.toInt_toInt64, I_toInt (by omega)]
    have hV : (Int64.ofNat (tkV n tp (ps n tp k))).toInt = tkV n tp (ps n tp k) := Int64.toInt_ofNat_of_lt (by omega)
    rw [a1, brc_t (by decide)]
    unfold rM_takeNumber_28 rM_takeNumber_65
    rw [h.2.2.2.1, brc_f (by rw [I0]; exact fun h => h rfl), h.2.2.1, chk_t (ib_I (by omega) (by omega)), I_cl (by omega), b2]
    refine wp_brc (fun h1 => ?_) (fun h1 => ?_)
    · have h2 := Int64.lt_iff_toInt_lt.mp ((lgn _ _).1.mp h1)
      rw [hV, hJ _ hlo] at h2
      rw [litN, eM_wrong h, bnd1S]
      exact bad 4 _ (by omega) (by omega) (by unfold nF; rw [if_pos hW, if_neg (by show ¬ (lo ≤ tkV n tp (ps n tp k) ∧ _); omega)]) rfl
    · have h2 : ¬ tkV n tp (ps n tp k) < lo := fun h9 => h1 ((lgn _ _).1.mpr (Int64.lt_iff_toInt_lt.mpr (by rw [hV, hJ _ hlo]; omega)))
      rw [chk_t (ib_I (by omega) (by omega))]
      refine wp_brc (fun h3 => ?_) (fun h3 => ?_)
      · have h4 := Int64.le_iff_toInt_le.mp ((lgn _ _).2.mp h3)
        rw [hV, hJ _ hhi] at h4
        unfold rM_takeNumber_70
        rw [h.2.2.2.1, brc_t (by rw [I0, I_le (by omega) (by omega)]; omega), nmE, h.2.2.1, I1, I_add, gI_same, I_sub (by omega), chk_t (ib_I (by omega) (by omega)), I_cl (by omega), Nat.add_sub_cancel]
        have e9 : (Int64.ofNat (tkV n tp (ps n tp k))).toInt32 = I (tkV n tp (ps n tp k)) := by
          apply Int32.toInt_inj.mp
          rw [Int64.toInt_toInt32, hV, I_toInt (by omega)]
          apply Int.bmod_eq_of_le <;> omega
        refine wp_some ⟨frO_f frO_refl _ (by decide), Or.inl ⟨?_, ?_, RM_k h (by omega)⟩⟩
        · unfold nF; rw [if_pos hW, if_pos (by show lo ≤ tkV n tp (ps n tp k) ∧ tkV n tp (ps n tp k) ≤ hi; omega)]
        · show ((setI σ 0 7 (I (k + 1))).2.1 4 k).toInt32 = _
          rw [show (setI σ 0 7 (I (k + 1))).2.1 4 k = σ.2.1 4 k from rfl, b2, e9]
      · have h4 : ¬ tkV n tp (ps n tp k) ≤ hi := fun h9 => h3 ((lgn _ _).2.mpr (Int64.le_iff_toInt_le.mpr (by rw [hV, hJ _ hhi]; omega)))
        rw [litN, eM_wrong h, bnd1S]
        exact bad 4 _ (by omega) (by omega) (by unfold nF; rw [if_pos hW, if_neg (by show ¬ (lo ≤ tkV n tp (ps n tp k) ∧ tkV n tp (ps n tp k) ≤ hi); omega)]) rfl
  · have a1 := tk_nnum hw t3 hW
    rw [brc_f (by rw [litN, I_inj (by omega) (by omega)]; exact a1.1), I1, eM_wrong h, bnd1S]
    exact bad 1 _ (by omega) (by omega) (by unfold nF; rw [if_neg hW]) rfl
theorem eM_takeNumberF {n : Nat} {tp : Nat → Nat} {N k F : Nat} {σ : St} (h : RM n tp N k F σ) (hF : 0 < F ∧ F < 2147483648) (v1 v2 : Int32) : rM_takeNumber v1 v2 σ = some (0, σ) := by
  have e : ¬ σ.1 0 8 = 0 := by rw [h.2.2.2.1, I0, I_inj (by omega) (by omega)]; omega
  unfold rM_takeNumber
  rw [brc_t e]
  unfold rM_takeNumber_28
  rw [brc_t e]
  unfold rM_takeNumber_70
  rw [h.2.2.2.1, brc_f (by rw [I0, I_le (by omega) (by omega)]; omega)]
