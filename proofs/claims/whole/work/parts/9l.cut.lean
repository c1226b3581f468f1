/-! the reference cuts the tape into tokens -/
def sgn (b : Nat) : Bool := decide (b = 40 ∨ b = 41 ∨ b = 59 ∨ b = 61 ∨ b = 60 ∨ b = 43 ∨ b = 45 ∨ b = 42)
def tkS (n : Nat) (tp : Nat → Nat) (i : Nat) : Nat := if i < n then (if pL tp i = true then (if tkR (pL tp) n i - i ≤ 8 then 1 else 4) else if pD tp i = true then (if tkR (pD tp) n i - i ≤ 4 then 2 else 4) else if sgn (tp i) = true then 3 else 4) else 0
def tkV (n : Nat) (tp : Nat → Nat) (i : Nat) : Nat := if pL tp i = true then cdF 37 (fun q => tp q - 96) i (min (tkR (pL tp) n i - i) 8) else if pD tp i = true then cdF 10 (fun q => tp q - 48) i (min (tkR (pD tp) n i - i) 4) else tp i
def ps (n : Nat) (tp : Nat → Nat) : Nat → Nat
  | 0 => tkR (pB tp) n 0
  | k + 1 => nxt n tp (ps n tp k)
theorem eM_isLetter {tp : Nat → Nat} {i : Nat} (hb : tp i < 200) (σ : St) : rM_isLetter (I (tp i)) σ = some (if pL tp i = true then 1 else 0, σ) := by
  unfold rM_isLetter rM_isLetter_16 rM_isLetter_17 pL
  by_cases h1 : tp i < 97
  · rw [brc_t (by rw [litN, I_lt (by omega) (by omega)]; exact h1), chk_t (by decide), decide_eq_false (by omega), if_neg (by decide)]
  · rw [brc_f (by rw [litN, I_lt (by omega) (by omega)]; exact h1)]
    by_cases h2 : 122 < tp i
    · rw [brc_t (by rw [litN, I_lt (by omega) (by omega)]; exact h2), chk_t (by decide), decide_eq_false (by omega), if_neg (by decide)]
    · rw [brc_f (by rw [litN, I_lt (by omega) (by omega)]; exact h2), chk_t (by decide), decide_eq_true (by omega), if_pos rfl]
theorem eM_isDigit {tp : Nat → Nat} {i : Nat} (hb : tp i < 200) (σ : St) : rM_isDigit (I (tp i)) σ = some (if pD tp i = true then 1 else 0, σ) := by
  unfold rM_isDigit rM_isDigit_16 rM_isDigit_17 pD
  by_cases h1 : tp i < 48
  · rw [brc_t (by rw [litN, I_lt (by omega) (by omega)]; exact h1), chk_t (by decide), decide_eq_false (by omega), if_neg (by decide)]
  · rw [brc_f (by rw [litN, I_lt (by omega) (by omega)]; exact h1)]
    by_cases h2 : 57 < tp i
    · rw [brc_t (by rw [litN, I_lt (by omega) (by omega)]; exact h2), chk_t (by decide), decide_eq_false (by omega), if_neg (by decide)]
    · rw [brc_f (by rw [litN, I_lt (by omega) (by omega)]; exact h2), chk_t (by decide), decide_eq_true (by omega), if_pos rfl]
theorem eM_isSignOf {b : Nat} (hb : b < 200) (σ : St) : rM_isSignOf (I b) σ = some (if sgn b = true then 1 else 0, σ) := by
  have hd : ∀ b, b < 200 → (sgn b = true ↔ (I b = 40 ∨ I b = 41 ∨ I b = 59 ∨ I b = 61 ∨ I b = 60 ∨ I b = 43 ∨ I b = 45 ∨ I b = 42)) := by decide +kernel
  have hb' := hd b hb
  unfold rM_isSignOf rM_isSignOf_48 rM_isSignOf_53
  by_cases h : sgn b = true
  · rw [if_pos h]
    have h' := hb'.mp h
    by_cases c1 : I b = 40
    · rw [brc_t c1]; rfl
    · rw [brc_f c1]
      by_cases c2 : I b = 41
      · rw [brc_t c2]; rfl
      · rw [brc_f c2]
        by_cases c3 : I b = 59
        · rw [brc_t c3]; rfl
        · rw [brc_f c3]
          by_cases c4 : I b = 61
          · rw [brc_t c4]; rfl
          · rw [brc_f c4]
            by_cases c5 : I b = 60
            · rw [brc_t c5]; rfl
            · rw [brc_f c5]
              by_cases c6 : I b = 43
              · rw [brc_t c6]; rfl
              · rw [brc_f c6]
                by_cases c7 : I b = 45
                · rw [brc_t c7]; rfl
                · have c8 : I b = 42 := by
                    rcases h' with x | x | x | x | x | x | x | x
                    · exact absurd x c1
                    · exact absurd x c2
                    · exact absurd x c3
                    · exact absurd x c4
                    · exact absurd x c5
                    · exact absurd x c6
                    · exact absurd x c7
                    · exact x
                  rw [brc_f c7, brc_f (fun h9 => h9 c8)]; rfl
  · rw [if_neg h]
    have h' : ∀ x : Prop, (x → (I b = 40 ∨ I b = 41 ∨ I b = 59 ∨ I b = 61 ∨ I b = 60 ∨ I b = 43 ∨ I b = 45 ∨ I b = 42)) → ¬ x := fun x hx h9 => h (hb'.mpr (hx h9))
    rw [brc_f (h' _ (fun x => Or.inl x)), brc_f (h' _ (fun x => Or.inr (Or.inl x))), brc_f (h' _ (fun x => Or.inr (Or.inr (Or.inl x)))), brc_f (h' _ (fun x => Or.inr (Or.inr (Or.inr (Or.inl x))))), brc_f (h' _ (fun x => Or.inr (Or.inr (Or.inr (Or.inr (Or.inl x)))))), brc_f (h' _ (fun x => Or.inr (Or.inr (Or.inr (Or.inr (Or.inr (Or.inl x))))))), brc_f (h' _ (fun x => Or.inr (Or.inr (Or.inr (Or.inr (Or.inr (Or.inr (Or.inl x)))))))), brc_t (h' _ (fun x => Or.inr (Or.inr (Or.inr (Or.inr (Or.inr (Or.inr (Or.inr x))))))))]
    rfl
theorem eM_rank {tp : Nat → Nat} {i : Nat} (hb : tp i < 200) (hl : pL tp i = true) (σ : St) : rM_rank (I (tp i)) σ = some (I (tp i - 96), σ) := by
  have h9 := of_decide_eq_true hl
  unfold rM_rank rM_rank_18
  rw [eM_isLetter hb, if_pos hl, bnd2S, brc_f (by decide), litN, I_sub (by omega)]
theorem J_st37 (a b : Nat) (hb : b < 200) : 37 * Int64.ofNat a + (I b).toInt64 = Int64.ofNat (a * 37 + b) := by
  have h : ∀ b, b < 200 → (I b).toInt64 = Int64.ofNat b := by decide +kernel
  rw [h b hb, Int64.ofNat_add, Int64.ofNat_mul, Int64.mul_comm]
  rfl
theorem J_st10 (a b : Nat) (hb : b < 200) (h48 : 48 ≤ b) : 10 * Int64.ofNat a + (I b).toInt64 - 48 = Int64.ofNat (a * 10 + (b - 48)) := by
  have h : ∀ b, b < 200 → 48 ≤ b → (I b).toInt64 = Int64.ofNat (b - 48) + 48 := by decide +kernel
  rw [h b hb h48, Int64.ofNat_add, Int64.ofNat_mul, ← Int64.add_assoc, Int64.add_sub_cancel, Int64.mul_comm]
  rfl
/-- the tape as the reference holds it while it cuts -/
def CP (n : Nat) (tp : Nat → Nat) (σ : St) : Prop := σ.1 0 3 = I n ∧ ∀ i, i < n → σ.1 1 i = I (tp i)
theorem eM_c70 {n : Nat} {tp : Nat → Nat} {τ : St} (hw : wfP n tp) (hx : CP n tp τ) {i k : Nat} (hi : i < n) (hk : k < 1002) (hl : pL tp i = true) {k17 : Int32 → Int32 → St → Option St} {Q : St → Prop} (h : wp (k17 (I (k + 1)) (I (tkE n tp i)) (setJ (setI τ 2 k (I (tkS n tp i))) 4 k (Int64.ofNat (tkV n tp i)))) Q) : wp (lp (rM_cutAll_70L k17) fu (I k, I i, I i, Int64.ofNat 0, τ)) Q := by
  have hn := hw.1
  have fin : ∀ j, i ≤ j → j ≤ n → tkR (pL tp) n i = j → wp (rM_cutAll_129 k17 (I k) (I j) (I i) (Int64.ofNat (cdF 37 (fun q => tp q - 96) i (min (j - i) 8))) τ) Q := fun j hij hjn hj => by
    have eE : tkE n tp i = j := by unfold tkE; rw [if_pos hi, if_pos hl]; exact hj
    have eV : tkV n tp i = cdF 37 (fun q => tp q - 96) i (min (j - i) 8) := by unfold tkV; rw [if_pos hl, hj]
    have eS : tkS n tp i = if j - i ≤ 8 then 1 else 4 := by unfold tkS; rw [if_pos hi, if_pos hl, hj]
    rw [eE, eV, eS] at h
    unfold rM_cutAll_129 rM_cutAll_148 rM_cutAll_265
    rw [I_sub hij]
    refine wp_brc (fun h1 => ?_) (fun h1 => ?_)
    · rw [litN, I_le (by omega) (by omega)] at h1
      rw [if_pos h1] at h
      rw [chk_t (ib_I hk (by omega)), nmE, chk_t (ib_I hk (by omega)), nmE, nmE, I_cl (by omega), oi1, I_add, I1]
      exact h
    · rw [litN, I_le (by omega) (by omega)] at h1
      rw [if_neg h1] at h
      rw [chk_t (ib_I hk (by omega)), nmE, chk_t (ib_I hk (by omega)), nmE, nmE, I_cl (by omega), oi1, I_add]
      exact h
  refine wp_for (fun m a => ∃ j, j + m = n ∧ i ≤ j ∧ tkR (pL tp) n i = tkR (pL tp) n j ∧ a = (I k, I j, I i, Int64.ofNat (cdF 37 (fun q => tp q - 96) i (min (j - i) 8)), τ)) ?_ ?_ (n - i) fu _ ⟨i, by omega, by omega, rfl, by rw [Nat.sub_self]; rfl⟩ (by unfold fu; omega)
  · rintro m a kk ⟨j, hjm, hij, hj, rfl⟩ hgo
    show wp (rM_cutAll_70 k17 (fun v1 v2 v4 v5 σ => kk (v1, v2, v4, v5, σ)) (I k) (I j) (I i) (Int64.ofNat (cdF 37 (fun q => tp q - 96) i (min (j - i) 8))) τ) _
    unfold rM_cutAll_70
    rw [hx.1, brc_f (by rw [I_le (by omega) (by omega)]; omega), chk_t (ib_I (by omega) (by omega)), I_cl (by omega), hx.2 j (by omega), eM_isLetter (tp_lt hw (by omega)), bnd2S]
    by_cases hp : pL tp j = true
    · rw [if_pos hp, brc_f (by decide), I_sub hij]
      unfold rM_cutAll_121
      refine wp_brc (fun h1 => ?_) (fun h1 => ?_)
      · rw [litN, I_le (by omega) (by omega)] at h1
        rw [nmE, nmE, oi1, I_add]
        exact hgo _ ⟨j + 1, by omega, by omega, hj.trans (tkR_in (by omega) hp), by rw [show min (j + 1 - i) 8 = min (j - i) 8 by omega]⟩
      · rw [litN, I_le (by omega) (by omega)] at h1
        rw [chk_t (ib_I (by omega) (by omega)), hx.2 j (by omega), eM_rank (tp_lt hw (by omega)) hp, bnd2S, nmE, nmE, oi1, I_add, J_st37 _ _ (by have := tp_lt hw (show j < n by omega); omega)]
        refine hgo _ ⟨j + 1, by omega, by omega, hj.trans (tkR_in (by omega) hp), ?_⟩
        rw [show min (j + 1 - i) 8 = (j - i) + 1 by omega, show min (j - i) 8 = j - i by omega]
        show _ = (I k, I (j + 1), I i, Int64.ofNat (cdF 37 (fun q => tp q - 96) i (j - i) * 37 + (tp (i + (j - i)) - 96)), τ)
        rw [show i + (j - i) = j by omega]
    · rw [if_neg hp, brc_t rfl]
      exact fin j hij (by omega) (hj.trans (tkR_out (fun h => hp h.2)))
  · rintro a kk ⟨j, hjm, hij, hj, rfl⟩
    show wp (rM_cutAll_70 k17 (fun v1 v2 v4 v5 σ => kk (v1, v2, v4, v5, σ)) (I k) (I j) (I i) (Int64.ofNat (cdF 37 (fun q => tp q - 96) i (min (j - i) 8))) τ) _
    unfold rM_cutAll_70
    rw [hx.1, brc_t (by rw [I_le (by omega) (by omega)]; omega)]
    exact fin j hij (by omega) (hj.trans (tkR_out (by omega)))
theorem eM_c159 {n : Nat} {tp : Nat → Nat} {τ : St} (hw : wfP n tp) (hx : CP n tp τ) {i k : Nat} (hi : i < n) (hk : k < 1002) (hnl : ¬ pL tp i = true) (hl : pD tp i = true) {k17 : Int32 → Int32 → St → Option St} {Q : St → Prop} (h : wp (k17 (I (k + 1)) (I (tkE n tp i)) (setJ (setI τ 2 k (I (tkS n tp i))) 4 k (Int64.ofNat (tkV n tp i)))) Q) : wp (lp (rM_cutAll_159L k17) fu (I k, I i, I i, Int64.ofNat 0, τ)) Q := by
  have hn := hw.1
  have fin : ∀ j, i ≤ j → j ≤ n → tkR (pD tp) n i = j → wp (rM_cutAll_218 k17 (I k) (I j) (I i) (Int64.ofNat (cdF 10 (fun q => tp q - 48) i (min (j - i) 4))) τ) Q := fun j hij hjn hj => by
    have eE : tkE n tp i = j := by unfold tkE; rw [if_pos hi, if_neg hnl, if_pos hl]; exact hj
    have eV : tkV n tp i = cdF 10 (fun q => tp q - 48) i (min (j - i) 4) := by unfold tkV; rw [if_neg hnl, if_pos hl, hj]
    have eS : tkS n tp i = if j - i ≤ 4 then 2 else 4 := by unfold tkS; rw [if_pos hi, if_neg hnl, if_pos hl, hj]
    rw [eE, eV, eS] at h
    unfold rM_cutAll_218 rM_cutAll_236 rM_cutAll_265
    rw [I_sub hij]
    refine wp_brc (fun h1 => ?_) (fun h1 => ?_)
    · rw [litN, I_le (by omega) (by omega)] at h1
      rw [if_pos h1] at h
      rw [chk_t (ib_I hk (by omega)), nmE, chk_t (ib_I hk (by omega)), nmE, nmE, I_cl (by omega), oi1, I_add]
      exact h
    · rw [litN, I_le (by omega) (by omega)] at h1
      rw [if_neg h1] at h
      rw [chk_t (ib_I hk (by omega)), nmE, chk_t (ib_I hk (by omega)), nmE, nmE, I_cl (by omega), oi1, I_add]
      exact h
  refine wp_for (fun m a => ∃ j, j + m = n ∧ i ≤ j ∧ tkR (pD tp) n i = tkR (pD tp) n j ∧ a = (I k, I j, I i, Int64.ofNat (cdF 10 (fun q => tp q - 48) i (min (j - i) 4)), τ)) ?_ ?_ (n - i) fu _ ⟨i, by omega, by omega, rfl, by rw [Nat.sub_self]; rfl⟩ (by unfold fu; omega)
  · rintro m a kk ⟨j, hjm, hij, hj, rfl⟩ hgo
    show wp (rM_cutAll_159 k17 (fun v1 v2 v4 v5 σ => kk (v1, v2, v4, v5, σ)) (I k) (I j) (I i) (Int64.ofNat (cdF 10 (fun q => tp q - 48) i (min (j - i) 4))) τ) _
    unfold rM_cutAll_159
    rw [hx.1, brc_f (by rw [I_le (by omega) (by omega)]; omega), chk_t (ib_I (by omega) (by omega)), I_cl (by omega), hx.2 j (by omega), eM_isDigit (tp_lt hw (by omega)), bnd2S]
    by_cases hp : pD tp j = true
    · have h48 := (of_decide_eq_true hp).1
      rw [if_pos hp, brc_f (by decide), I_sub hij]
      unfold rM_cutAll_210
      refine wp_brc (fun h1 => ?_) (fun h1 => ?_)
      · rw [litN, I_le (by omega) (by omega)] at h1
        rw [nmE, nmE, oi1, I_add]
        exact hgo _ ⟨j + 1, by omega, by omega, hj.trans (tkR_in (by omega) hp), by rw [show min (j + 1 - i) 4 = min (j - i) 4 by omega]⟩
      · rw [litN, I_le (by omega) (by omega)] at h1
        rw [chk_t (ib_I (by omega) (by omega)), hx.2 j (by omega), nmE, nmE, oi1, I_add, J_st10 _ _ (tp_lt hw (by omega)) h48]
        refine hgo _ ⟨j + 1, by omega, by omega, hj.trans (tkR_in (by omega) hp), ?_⟩
        rw [show min (j + 1 - i) 4 = (j - i) + 1 by omega, show min (j - i) 4 = j - i by omega]
        show _ = (I k, I (j + 1), I i, Int64.ofNat (cdF 10 (fun q => tp q - 48) i (j - i) * 10 + (tp (i + (j - i)) - 48)), τ)
        rw [show i + (j - i) = j by omega]
    · rw [if_neg hp, brc_t rfl]
      exact fin j hij (by omega) (hj.trans (tkR_out (fun h => hp h.2)))
  · rintro a kk ⟨j, hjm, hij, hj, rfl⟩
    show wp (rM_cutAll_159 k17 (fun v1 v2 v4 v5 σ => kk (v1, v2, v4, v5, σ)) (I k) (I j) (I i) (Int64.ofNat (cdF 10 (fun q => tp q - 48) i (min (j - i) 4))) τ) _
    unfold rM_cutAll_159
    rw [hx.1, brc_t (by rw [I_le (by omega) (by omega)]; omega)]
    exact fin j hij (by omega) (hj.trans (tkR_out (by omega)))
