/-! missed and odds -/
def ths (T : Vw) (s : Nat) : Nat → Nat
  | 0 => 0
  | k + 1 => if s / 2 ^ k % 2 = 1 then ths T s k + T 8 k else ths T s k
theorem ths_le {T : Vw} (hw : wfT T) (s : Nat) : ∀ k, k ≤ T 0 2 → ths T s k ≤ 9 * k
  | 0, _ => Nat.le_refl _
  | k + 1, hk => by
    have h1 := ths_le hw s k (by omega)
    have h2 := (hw.2.2.2.2.2.2.2 k (by omega)).2.2.2
    unfold ths
    split <;> omega
def cn (T : Vw) (n : Nat) : Nat → Nat
  | 0 => 0
  | k + 1 => if ths T k (T 0 2) = n then cn T n k + 1 else cn T n k
def cc (T : Vw) (n c : Nat) : Nat → Nat
  | 0 => 0
  | k + 1 => if ths T k (T 0 2) = n ∧ k / 2 ^ c % 2 = 1 then cc T n c k + 1 else cc T n c k
theorem cc_le (T : Vw) (n c : Nat) : ∀ k, cc T n c k ≤ cn T n k ∧ cn T n k ≤ k
  | 0 => ⟨Nat.le_refl _, Nat.le_refl _⟩
  | k + 1 => by
    obtain ⟨h1, h2⟩ := cc_le T n c k
    unfold cc cn
    by_cases e : ths T k (T 0 2) = n
    · rw [if_pos e]
      split <;> omega
    · rw [if_neg e, if_neg (fun h => e h.1)]
      omega
def ia (T : Vw) (n : Nat) : Nat → Nat
  | 0 => 2 ^ T 0 2 - 1
  | k + 1 => if ths T k (T 0 2) = n then ia T n k &&& k else ia T n k
theorem bitand {s t c : Nat} (hs : s < 64) (ht : t < 64) (hc : c < 6) : (s &&& t) / 2 ^ c % 2 = (s / 2 ^ c % 2) * (t / 2 ^ c % 2) :=
  of_decide_eq_true (ck3_ok (p := fun s t c => decide ((s &&& t) / 2 ^ c % 2 = (s / 2 ^ c % 2) * (t / 2 ^ c % 2))) (by decide +kernel) hs ht hc)
theorem bitall {n c : Nat} (hn : n ≤ 6) (hc : c < 6) : (2 ^ n - 1) / 2 ^ c % 2 = if c < n then 1 else 0 := by
  have H : ∀ n, n < 7 → ∀ c, c < 6 → (2 ^ n - 1) / 2 ^ c % 2 = if c < n then 1 else 0 := by decide
  exact H n (by omega) c hc
theorem biteq {s t : Nat} (hs : s < 64) (ht : t < 64) (h : ∀ c, c < 6 → s / 2 ^ c % 2 = t / 2 ^ c % 2) : s = t := by
  have := of_decide_eq_true (ck2_ok (p := fun s t => decide ((s / 2 ^ 0 % 2 = t / 2 ^ 0 % 2 ∧ s / 2 ^ 1 % 2 = t / 2 ^ 1 % 2 ∧ s / 2 ^ 2 % 2 = t / 2 ^ 2 % 2 ∧ s / 2 ^ 3 % 2 = t / 2 ^ 3 % 2 ∧ s / 2 ^ 4 % 2 = t / 2 ^ 4 % 2 ∧ s / 2 ^ 5 % 2 = t / 2 ^ 5 % 2) → s = t)) (by decide +kernel) hs ht)
  exact this ⟨h 0 (by omega), h 1 (by omega), h 2 (by omega), h 3 (by omega), h 4 (by omega), h 5 (by omega)⟩
theorem ia_bit {T : Vw} (h6 : T 0 2 ≤ 6) (n : Nat) : ∀ k, k ≤ 64 → ia T n k < 64 ∧ ∀ e, e < 6 → ia T n k / 2 ^ e % 2 = if e < T 0 2 ∧ cc T n e k = cn T n k then 1 else 0
  | 0, _ => by
    obtain ⟨-, -, a3, -, -⟩ := sb_all h6 (Nat.two_pow_pos (T 0 2))
    refine ⟨a3, fun e he => ?_⟩
    have e0 : cc T n e 0 = cn T n 0 := rfl
    have e1 : ia T n 0 = 2 ^ T 0 2 - 1 := rfl
    rw [e1, bitall h6 he]
    by_cases h : e < T 0 2
    · rw [if_pos h, if_pos (show e < T 0 2 ∧ cc T n e 0 = cn T n 0 from ⟨h, e0⟩)]
    · rw [if_neg h, if_neg (show ¬ (e < T 0 2 ∧ cc T n e 0 = cn T n 0) from fun h9 => h h9.1)]
  | k + 1, hk => by
    obtain ⟨i1, i2⟩ := ia_bit h6 n k (by omega)
    unfold ia
    by_cases hm : ths T k (T 0 2) = n
    · rw [if_pos hm]
      refine ⟨Nat.lt_of_le_of_lt Nat.and_le_left i1, fun e he => ?_⟩
      rw [bitand i1 (by omega) he, i2 e he]
      have hc := (cc_le T n e k).1
      have e1 : cn T n (k + 1) = cn T n k + 1 := if_pos hm
      rw [e1]
      have hb : k / 2 ^ e % 2 = 0 ∨ k / 2 ^ e % 2 = 1 := by omega
      rcases hb with hb | hb
      · have e2 : cc T n e (k + 1) = cc T n e k := if_neg (by omega)
        rw [e2, hb, Nat.mul_zero, if_neg (by omega)]
      · have e2 : cc T n e (k + 1) = cc T n e k + 1 := if_pos ⟨hm, hb⟩
        rw [e2, hb, Nat.mul_one]
        by_cases h : e < T 0 2 ∧ cc T n e k = cn T n k
        · rw [if_pos h, if_pos ⟨h.1, by omega⟩]
        · rw [if_neg h, if_neg (fun h9 => h ⟨h9.1, by omega⟩)]
    · rw [if_neg hm]
      refine ⟨i1, fun e he => ?_⟩
      have e1 : cn T n (k + 1) = cn T n k := if_neg hm
      have e2 : cc T n e (k + 1) = cc T n e k := if_neg (fun h => hm h.1)
      rw [e1, e2]; exact i2 e he
theorem eX_thirstOf {T : Vw} {σ : St} (hw : wfT T) (hT : XMt T σ) {s : Nat} (hs : s < 64) : rX_thirstOf (I s) σ = some (I (ths T s (T 0 2)), σ) := by
  have h6 := hw.2.1
  have goal : wp (rX_thirstOf (I s) σ) (fun r => r = (I (ths T s (T 0 2)), σ)) := by
    unfold rX_thirstOf
    rw [nmE, nmE]
    refine wp_for (fun n a => ∃ c : Nat, c + n = T 0 2 ∧ a = (I s, I (ths T s c), I c, σ)) ?_ ?_ (T 0 2) fu _ ⟨0, by omega, rfl⟩ (by unfold fu; omega)
    · rintro n a k ⟨c, hc, rfl⟩ hk
      have hc6 : c < 6 := by omega
      show wp (rX_thirstOf_4 (fun v1 v2 v3 σ => k (v1, v2, v3, σ)) (I s) (I (ths T s c)) (I c) σ) _
      unfold rX_thirstOf_4 rX_thirstOf_29
      rw [hT.2.2.1, brc_f (show ¬ I (T 0 2) ≤ I c by rw [I_le (by omega) (by omega)]; omega), show (I s >>> (I c &&& 31)) &&& (1 : Int32) = I (s / 2 ^ c % 2) from I_bit hs hc6, chk_t (ib_I hc6 (by omega)), I_cl (by omega), (hT.2.2.2.2.2.2.2.2 c (by omega)).2.2.2, I_add, nmE, nmE, nmE, oi1, I_add]
      have hk' := hk _ ⟨c + 1, by omega, rfl⟩
      by_cases hb : s / 2 ^ c % 2 = 1
      · have e : ths T s (c + 1) = ths T s c + T 8 c := if_pos hb
        rw [e] at hk'
        rw [brc_f (show ¬ I (s / 2 ^ c % 2) = 0 by rw [hb]; decide)]
        exact hk'
      · have e : ths T s (c + 1) = ths T s c := if_neg hb
        rw [e] at hk'
        rw [brc_t (show I (s / 2 ^ c % 2) = 0 by rw [show s / 2 ^ c % 2 = 0 by omega]; rfl)]
        exact hk'
    · rintro a k ⟨c, hc, rfl⟩
      show wp (rX_thirstOf_4 (fun v1 v2 v3 σ => k (v1, v2, v3, σ)) (I s) (I (ths T s c)) (I c) σ) _
      unfold rX_thirstOf_4
      rw [hT.2.2.1, brc_t (show I (T 0 2) ≤ I c by rw [I_le (by omega) (by omega)]; omega), show c = T 0 2 by omega]
      exact wp_some rfl
  obtain ⟨r, e, rfl⟩ := goal
  exact e
def iaE (T : Vw) (n : Nat) : Nat := if cn T n (2 ^ T 0 2) = 0 then 0 else ia T n (2 ^ T 0 2)
theorem eX_judge {T : Vw} {σ : St} (hw : wfT T) (hT : XMt T σ) {n : Nat} (hn : n ≤ 99) : wp (rX_judge (I n) σ) (fun τ => τ.1 57 3 = I (cn T n (2 ^ T 0 2)) ∧ τ.1 57 4 = I (iaE T n) ∧ (∀ c, c < T 0 2 → τ.1 58 c = I (cc T n c (2 ^ T 0 2))) ∧ zX σ τ) := by
  have h6 := hw.2.1
  obtain ⟨-, -, a3, a4, a5⟩ := sb_all h6 (Nat.two_pow_pos (T 0 2))
  unfold rX_judge
  rw [nmE, hT.2.2.1, shl_I h6, I1, I_sub a5, nmE, nmE, eX_fill_setsWith, bnd1_e, nmE]
  generalize hσ0 : setR (setI (setI σ 57 3 0) 57 4 (I (2 ^ T 0 2 - 1))) 58 _ = σ0
  have f0 : zX σ σ0 := by rw [← hσ0]; exact frO_R (frO_c (frO_c frO_refl _ (by decide) (by decide)) _ (by decide) (by decide)) _ (by decide) (by decide)
  refine wp_for (fun m a => ∃ (s : Nat) (τ : St), s + m = 2 ^ T 0 2 ∧ a = (I n, I (2 ^ T 0 2 - 1), I s, τ) ∧ τ.1 57 3 = I (cn T n s) ∧ τ.1 57 4 = I (ia T n s) ∧ (∀ c, c < T 0 2 → τ.1 58 c = I (cc T n c s)) ∧ zX σ τ) ?_ ?_ (2 ^ T 0 2) fu _ ⟨0, σ0, by omega, rfl, ?_, ?_, fun c hc => ?_, f0⟩ (by unfold fu; omega)
  · rintro m a k ⟨s, τ, hs, rfl, t3, t4, t5, f⟩ hk
    have hs64 : s < 64 := by omega
    have hTτ : XMt T τ := XMt_fr (fun i h1 h2 => f.1 i (by simp; omega) (by omega)) hT
    have hth := ths_le hw s (T 0 2) (Nat.le_refl _)
    show wp (rX_judge_30 (fun v2 v3 v4 σ => k (v2, v3, v4, σ)) (I n) (I (2 ^ T 0 2 - 1)) (I s) τ) _
    unfold rX_judge_30
    rw [brc_f (show ¬ I (2 ^ T 0 2 - 1) < I s by rw [I_lt (by omega) (by omega)]; omega), eX_thirstOf hw hTτ hs64, bnd2_e]
    by_cases hm : ths T s (T 0 2) = n
    · rw [brc_f (show ¬ ¬ I (ths T s (T 0 2)) = I n by rw [hm]; exact fun h => h rfl), nmE, nmE, nmE, t3, I1, I_add, gI_ne2 _ _ _ (show (4 : Nat) ≠ 3 by decide), t4, and_I (ia_bit h6 n s (by omega)).1 hs64]
      have e1 : cn T n (s + 1) = cn T n s + 1 := if_pos hm
      have e2 : ia T n (s + 1) = ia T n s &&& s := if_pos hm
      rw [← e1, ← e2]
      refine wp_for (fun m2 a2 => ∃ (c : Nat) (υ : St), c + m2 = T 0 2 ∧ a2 = (I n, I (2 ^ T 0 2 - 1), I s, I c, υ) ∧ υ.1 57 3 = I (cn T n (s + 1)) ∧ υ.1 57 4 = I (ia T n (s + 1)) ∧ (∀ c', c' < T 0 2 → υ.1 58 c' = I (cc T n c' (if c' < c then s + 1 else s))) ∧ zX σ υ) ?_ ?_ (T 0 2) fu _ ⟨0, _, by omega, rfl, ?_, ?_, fun c' hc' => ?_, frO_c (frO_c f _ (by decide) (by decide)) _ (by decide) (by decide)⟩ (by unfold fu; omega)
      · rintro m2 a2 k2 ⟨c, υ, hc, rfl, u3, u4, u5, fu2⟩ hk2
        have hTu : XMt T υ := XMt_fr (fun i h1 h2 => fu2.1 i (by simp; omega) (by omega)) hT
        have hc6 : c < 6 := by omega
        show wp (rX_judge_70 (fun v2 v3 v4 σ => k (v2, v3, v4, σ)) (fun v2 v3 v4 v5 σ => k2 (v2, v3, v4, v5, σ)) (I n) (I (2 ^ T 0 2 - 1)) (I s) (I c) υ) _
        unfold rX_judge_70
        rw [hTu.2.2.1, brc_f (show ¬ I (T 0 2) ≤ I c by rw [I_le (by omega) (by omega)]; omega), chk_t (ib_I hc6 (by omega)), chk_t (ib_I hc6 (by omega)), nmE, nmE, oi1, I_add, I_cl (by omega), show (I s >>> (I c &&& 31)) &&& (1 : Int32) = I (s / 2 ^ c % 2) from I_bit hs64 hc6, u5 c (by omega), if_neg (by omega), I_add]
        refine hk2 _ ⟨c + 1, _, by omega, rfl, by rw [gI_ne1 _ _ _ (by decide)]; exact u3, by rw [gI_ne1 _ _ _ (by decide)]; exact u4, fun c' hc' => ?_, frO_c fu2 _ (by decide) (by decide)⟩
        by_cases e : c' = c
        · rw [e, gI_same, if_pos (by omega)]
          have hb : s / 2 ^ c % 2 = 0 ∨ s / 2 ^ c % 2 = 1 := by omega
          rcases hb with hb | hb
          · have e3 : cc T n c (s + 1) = cc T n c s := if_neg (by omega)
            rw [e3, hb, Nat.add_zero]
          · have e3 : cc T n c (s + 1) = cc T n c s + 1 := if_pos ⟨hm, hb⟩
            rw [e3, hb]
        · rw [gI_ne2 _ _ _ e, u5 c' hc']
          by_cases e4 : c' < c
          · rw [if_pos e4, if_pos (by omega)]
          · rw [if_neg e4, if_neg (by omega)]
      · rintro a2 k2 ⟨c, υ, hc, rfl, u3, u4, u5, fu2⟩
        have hTu : XMt T υ := XMt_fr (fun i h1 h2 => fu2.1 i (by simp; omega) (by omega)) hT
        show wp (rX_judge_70 (fun v2 v3 v4 σ => k (v2, v3, v4, σ)) (fun v2 v3 v4 v5 σ => k2 (v2, v3, v4, v5, σ)) (I n) (I (2 ^ T 0 2 - 1)) (I s) (I c) υ) _
        unfold rX_judge_70 rX_judge_102
        rw [hTu.2.2.1, brc_t (show I (T 0 2) ≤ I c by rw [I_le (by omega) (by omega)]; omega), nmE, oi1, I_add]
        refine hk _ ⟨s + 1, υ, by omega, rfl, u3, u4, fun c' hc' => ?_, fu2⟩
        rw [u5 c' hc', if_pos (by omega)]
      · rw [gI_ne2 _ _ _ (by decide), gI_same]
      · rw [gI_same]
      · rw [gI_ne1 _ _ _ (by decide), gI_ne1 _ _ _ (by decide), if_neg (Nat.not_lt_zero _)]; exact t5 c' hc'
    · rw [brc_t (show ¬ I (ths T s (T 0 2)) = I n by rw [I_inj (by omega) (by omega)]; exact hm)]
      unfold rX_judge_102
      rw [nmE, oi1, I_add]
      have e1 : cn T n (s + 1) = cn T n s := if_neg hm
      have e2 : ia T n (s + 1) = ia T n s := if_neg hm
      refine hk _ ⟨s + 1, τ, by omega, rfl, by rw [e1]; exact t3, by rw [e2]; exact t4, fun c' hc' => ?_, f⟩
      have e3 : cc T n c' (s + 1) = cc T n c' s := if_neg (fun h => hm h.1)
      rw [e3]; exact t5 c' hc'
  · rintro a k ⟨s, τ, hs, rfl, t3, t4, t5, f⟩
    have es : s = 2 ^ T 0 2 := by omega
    show wp (rX_judge_30 (fun v2 v3 v4 σ => k (v2, v3, v4, σ)) (I n) (I (2 ^ T 0 2 - 1)) (I s) τ) _
    unfold rX_judge_30 rX_judge_120
    rw [brc_t (show I (2 ^ T 0 2 - 1) < I s by rw [I_lt (by omega) (by omega)]; omega), t3]
    rw [es] at t3 t4 t5 ⊢
    have hb := (cc_le T n 0 (2 ^ T 0 2)).2
    unfold iaE
    by_cases hz : cn T n (2 ^ T 0 2) = 0
    · rw [brc_f (show ¬ ¬ I (cn T n (2 ^ T 0 2)) = 0 by rw [hz]; exact fun h => h rfl), nmE, if_pos hz]
      exact wp_some ⟨by rw [gI_ne2 _ _ _ (by decide)]; exact t3, gI_same _ _ _ _, fun c hc => by rw [gI_ne1 _ _ _ (by decide)]; exact t5 c hc, frO_c f _ (by decide) (by decide)⟩
    · rw [brc_t (show ¬ I (cn T n (2 ^ T 0 2)) = 0 by rw [I0, I_inj (by omega) (by omega)]; exact hz), if_neg hz]
      exact wp_some ⟨t3, t4, t5, f⟩
  · rw [← hσ0, setR_ne _ _ (by decide), gI_ne2 _ _ _ (by decide), gI_same]; rfl
  · rw [← hσ0, setR_ne _ _ (by decide), gI_same]; rfl
  · rw [← hσ0, setR_same]
    show (if c < 6 then (0 : Int32) else _) = _
    rw [if_pos (by omega)]; rfl
theorem eM_isMissed {T : Vw} {σ : St} (hw : wfT T) (hT : MT T σ) {s n : Nat} (hs : s < 64) (hn : n ≤ 99) : rM_isMissed (I s) (I n) σ = some (b01 (ths T s (T 0 2) = n), σ) := by
  have h6 := hw.2.1
  have hth := ths_le hw s (T 0 2) (Nat.le_refl _)
  have goal : wp (rM_isMissed (I s) (I n) σ) (fun r => r = (b01 (ths T s (T 0 2) = n), σ)) := by
    unfold rM_isMissed
    rw [nmE, nmE]
    refine wp_for (fun m a => ∃ c : Nat, c + m = T 0 2 ∧ a = (I s, I n, I (ths T s c), I c, σ)) ?_ ?_ (T 0 2) fu _ ⟨0, by omega, rfl⟩ (by unfold fu; omega)
    · rintro m a k ⟨c, hc, rfl⟩ hk
      have hc6 : c < 6 := by omega
      show wp (rM_isMissed_5 (fun v1 v2 v3 v4 σ => k (v1, v2, v3, v4, σ)) (I s) (I n) (I (ths T s c)) (I c) σ) _
      unfold rM_isMissed_5 rM_isMissed_36
      rw [eM_carriers, bnd2_e, hT.2.2.1, brc_f (show ¬ I (T 0 2) ≤ I c by rw [I_le (by omega) (by omega)]; omega), show (I s >>> (I c &&& 31)) &&& (1 : Int32) = I (s / 2 ^ c % 2) from I_bit hs hc6, show (3 : Int32) = I 3 from rfl, eM_carrierOf _ hc6 (by omega), bnd2_e, (hT.2.2.2.2.2.2.2.2 c (by omega)).2.2.2, I_add, nmE, nmE, nmE, nmE, oi1, I_add]
      have hk' := hk _ ⟨c + 1, by omega, rfl⟩
      by_cases hb : s / 2 ^ c % 2 = 1
      · have e : ths T s (c + 1) = ths T s c + T 8 c := if_pos hb
        rw [e] at hk'
        rw [brc_f (show ¬ ¬ I (s / 2 ^ c % 2) = 1 by rw [hb]; exact fun h => h rfl)]
        exact hk'
      · have e : ths T s (c + 1) = ths T s c := if_neg hb
        rw [e] at hk'
        rw [brc_t (show ¬ I (s / 2 ^ c % 2) = 1 by rw [I1, I_inj (by omega) (by omega)]; exact hb), Int32.add_zero]
        exact hk'
    · rintro a k ⟨c, hc, rfl⟩
      show wp (rM_isMissed_5 (fun v1 v2 v3 v4 σ => k (v1, v2, v3, v4, σ)) (I s) (I n) (I (ths T s c)) (I c) σ) _
      unfold rM_isMissed_5 rM_isMissed_54
      rw [eM_carriers, bnd2_e, hT.2.2.1, brc_t (show I (T 0 2) ≤ I c by rw [I_le (by omega) (by omega)]; omega), show c = T 0 2 by omega, chk_t (by decide), chk_t (by decide)]
      by_cases e : ths T s (T 0 2) = n
      · rw [brc_f (show ¬ ¬ I (ths T s (T 0 2)) = I n by rw [e]; exact fun h => h rfl), b01_t e]
        exact wp_some rfl
      · rw [brc_t (show ¬ I (ths T s (T 0 2)) = I n by rw [I_inj (by omega) (by omega)]; exact e), b01_f e]
        exact wp_some rfl
  obtain ⟨r, e, rfl⟩ := goal
  exact e
/-- c = 99: any carrier -/
def cm (T : Vw) (n c k : Nat) : Nat := if c = 99 then cn T n k else cc T n c k
theorem eM_missedBy {T : Vw} {σ : St} (hw : wfT T) (hT : MT T σ) {n c : Nat} (hn : n ≤ 99) (hc : c = 99 ∨ c < 6) : rM_missedBy (I n) (hI c) σ = some (I (cm T n c (2 ^ T 0 2)), σ) := by
  have h6 := hw.2.1
  obtain ⟨-, -, a3, a4, a5⟩ := sb_all h6 (Nat.two_pow_pos (T 0 2))
  have goal : wp (rM_missedBy (I n) (hI c) σ) (fun r => r = (I (cm T n c (2 ^ T 0 2)), σ)) := by
    unfold rM_missedBy
    rw [nmE, nmE]
    refine wp_for (fun m a => ∃ s : Nat, s + m = 2 ^ T 0 2 ∧ a = (I n, hI c, I (cm T n c s), I s, σ)) ?_ ?_ (2 ^ T 0 2) fu _ ⟨0, by omega, by unfold cm; split <;> rfl⟩ (by unfold fu; omega)
    · rintro m a k ⟨s, hs, rfl⟩ hk
      have hs64 : s < 64 := by omega
      show wp (rM_missedBy_5 (fun v1 v2 v3 v4 σ => k (v1, v2, v3, v4, σ)) (I n) (hI c) (I (cm T n c s)) (I s) σ) _
      unfold rM_missedBy_5 rM_missedBy_45 rM_missedBy_41 rM_missedBy_46
      rw [eM_carriers, bnd2_e, hT.2.2.1, shl_I h6, brc_f (show ¬ I (2 ^ T 0 2) ≤ I s by rw [I_le (by omega) (by omega)]; omega), eM_isMissed hw hT hs64 hn, bnd2_e, nmE, nmE, nmE, nmE, oi1, I_add, I1, I_add, I0, I_add, Nat.add_zero]
      have hk' := hk _ ⟨s + 1, by omega, rfl⟩
      by_cases hm : ths T s (T 0 2) = n
      · rw [b01_t hm, brc_f (show ¬ (1 : Int32) = I 0 by decide)]
        rcases hc with h99 | hc6
        · have e : cm T n c (s + 1) = cm T n c s + 1 := by
            unfold cm
            rw [if_pos h99, if_pos h99]
            exact if_pos hm
          rw [e] at hk'
          rw [brc_t (show hI c < I 0 by rw [h99]; decide)]
          exact hk'
        · have eh : hI c = I c := if_neg (by omega)
          rw [eh, brc_f (show ¬ I c < I 0 by rw [I_lt (by omega) (by omega)]; omega), show (I s >>> (I c &&& 31)) &&& I 1 = I (s / 2 ^ c % 2) from I_bit hs64 hc6]
          rw [eh] at hk'
          by_cases hb : s / 2 ^ c % 2 = 1
          · have e : cm T n c (s + 1) = cm T n c s + 1 := by
              unfold cm
              rw [if_neg (by omega), if_neg (by omega)]
              exact if_pos ⟨hm, hb⟩
            rw [e] at hk'
            rw [brc_f (show ¬ ¬ I (s / 2 ^ c % 2) = I 1 by rw [hb]; exact fun h => h rfl)]
            exact hk'
          · have e : cm T n c (s + 1) = cm T n c s := by
              unfold cm
              rw [if_neg (by omega), if_neg (by omega)]
              exact if_neg (fun h => hb h.2)
            rw [e] at hk'
            rw [brc_t (show ¬ I (s / 2 ^ c % 2) = I 1 by rw [I_inj (by omega) (by omega)]; exact hb)]
            exact hk'
      · rw [b01_f hm, brc_t (show (0 : Int32) = I 0 from rfl)]
        have e : cm T n c (s + 1) = cm T n c s := by
          unfold cm
          split
          · exact if_neg hm
          · exact if_neg (fun h => hm h.1)
        rw [e] at hk'
        exact hk'
    · rintro a k ⟨s, hs, rfl⟩
      show wp (rM_missedBy_5 (fun v1 v2 v3 v4 σ => k (v1, v2, v3, v4, σ)) (I n) (hI c) (I (cm T n c s)) (I s) σ) _
      unfold rM_missedBy_5
      rw [eM_carriers, bnd2_e, hT.2.2.1, shl_I h6, brc_t (show I (2 ^ T 0 2) ≤ I s by rw [I_le (by omega) (by omega)]; omega), show s = 2 ^ T 0 2 by omega]
      exact wp_some rfl
  obtain ⟨r, e, rfl⟩ := goal
  exact e
theorem hI_I {c : Nat} (hc : c < 6) : hI c = I c := if_neg (by omega)
theorem po_missed : PO_missed Inv := by
  intro σx σm h v w
  obtain ⟨T, R, D, Mk, U, n, tp, LD, LP, hw, hx, hm⟩ := h
  have hm' := GM_0 hw 0 hm
  have h6 := hw.1.2.1
  obtain ⟨-, -, a3, a4, a5⟩ := sb_all h6 (Nat.two_pow_pos (T 0 2))
  have no : rX_missed v w σx = some (-1, σx) → rM_missed v w σm = some (-1, setI σm 0 0 0) → ∃ (r : Int32) (x m : St), rX_missed v w σx = some (r, x) ∧ rM_missed v w σm = some (r, m) ∧ Inv x m := fun e1 e2 => ⟨-1, _, _, e1, e2, T, R, D, Mk, U, n, tp, LD, LP, hw, hx, hm'⟩
  by_cases hv : 0 ≤ v ∧ v ≤ 99
  · obtain ⟨q, rfl, hq⟩ := I_of hv.1
    have hq2 : q ≤ 99 := by
      have := hv.2
      rw [litN, I_le hq (by omega)] at this
      exact this
    by_cases hz : 0 ≤ w ∧ w ≤ 1
    · obtain ⟨τ, e1, x3, x4, x5, f1⟩ := eX_judge hw.1 hx.1 hq2
      have eX : rX_missed (I q) w σx = brc (¬ w = 0) (some (I (iaE T q), τ)) (some (I (cn T q (2 ^ T 0 2)), τ)) := by
        unfold rX_missed rX_missed_54
        rw [brc_f (not_lt32.mpr hv.1), brc_f (not_lt32.mpr hv.2), brc_f (not_lt32.mpr hz.1), brc_t hz.2, e1, bnd1_e, x3, x4]
      have hcb := (cc_le T q 0 (2 ^ T 0 2)).2
      have eM : rM_missed (I q) w σm = brc (¬ w = 0) (some (I (iaE T q), setI σm 0 0 0)) (some (I (cn T q (2 ^ T 0 2)), setI σm 0 0 0)) := by
        unfold rM_missed
        rw [nmE, eM_within, bnd2_e, b01_t hv, brc_f b01_1, eM_within, bnd2_e, b01_t hz, brc_t b01_1, show (-1 : Int32) = hI 99 from rfl, eM_missedBy hw.1 hm'.1 hq2 (Or.inl rfl), bnd2_e, nmE, nmE, nmE]
        have ecm : cm T q 99 (2 ^ T 0 2) = cn T q (2 ^ T 0 2) := if_pos rfl
        rw [ecm]
        have goal : wp (lp rM_missed_39L fu (I q, w, I (cn T q (2 ^ T 0 2)), I 0, I 0, setI σm 0 0 0)) (fun r => some r = brc (¬ w = 0) (some (I (iaE T q), setI σm 0 0 0)) (some (I (cn T q (2 ^ T 0 2)), setI σm 0 0 0))) := by
          refine wp_for (fun m a => ∃ (c x : Nat), c + m = T 0 2 ∧ a = (I q, w, I (cn T q (2 ^ T 0 2)), I x, I c, setI σm 0 0 0) ∧ x < 64 ∧ (∀ e, e < 6 → x / 2 ^ e % 2 = if e < c ∧ 0 < cn T q (2 ^ T 0 2) ∧ cc T q e (2 ^ T 0 2) = cn T q (2 ^ T 0 2) then 1 else 0)) ?_ ?_ (T 0 2) fu _ ⟨0, 0, by omega, rfl, by omega, fun e he => by rw [if_neg (fun h => Nat.not_lt_zero _ h.1), Nat.zero_div]⟩ (by unfold fu; omega)
          · rintro m a k ⟨c, x, hc, rfl, hx64, hbits⟩ hk
            have hc6 : c < 6 := by omega
            have hcc := (cc_le T q c (2 ^ T 0 2)).1
            show wp (rM_missed_39 (fun v1 v2 v3 v4 v5 σ => k (v1, v2, v3, v4, v5, σ)) (I q) w (I (cn T q (2 ^ T 0 2))) (I x) (I c) (setI σm 0 0 0)) _
            unfold rM_missed_39 rM_missed_72 rM_missed_73
            rw [eM_carriers, bnd2_e, hm'.1.2.2.1, brc_f (show ¬ I (T 0 2) ≤ I c by rw [I_le (by omega) (by omega)]; omega), ← hI_I hc6, eM_missedBy hw.1 hm'.1 hq2 (Or.inr hc6), bnd2_e, hI_I hc6, nmE, nmE, nmE, nmE, oi1, I_add, Int32.or_zero, bitorI hx64 hc6]
            have ecm2 : cm T q c (2 ^ T 0 2) = cc T q c (2 ^ T 0 2) := if_neg (by omega)
            rw [ecm2]
            have keep : ¬ (0 < cn T q (2 ^ T 0 2) ∧ cc T q c (2 ^ T 0 2) = cn T q (2 ^ T 0 2)) → ∀ e, e < 6 → x / 2 ^ e % 2 = if e < c + 1 ∧ 0 < cn T q (2 ^ T 0 2) ∧ cc T q e (2 ^ T 0 2) = cn T q (2 ^ T 0 2) then 1 else 0 := by
              intro hno e he
              rw [hbits e he]
              by_cases h1 : e < c ∧ 0 < cn T q (2 ^ T 0 2) ∧ cc T q e (2 ^ T 0 2) = cn T q (2 ^ T 0 2)
              · rw [if_pos h1, if_pos ⟨by omega, h1.2⟩]
              · rw [if_neg h1, if_neg (fun h2 => by
                  by_cases e5 : e = c
                  · rw [e5] at h2; exact hno h2.2
                  · exact h1 ⟨by omega, h2.2⟩)]
            refine wp_brc (fun hle => ?_) (fun hle => ?_)
            · rw [I0, I_le (by omega) (by omega)] at hle
              exact hk _ ⟨c + 1, x, by omega, rfl, hx64, keep (fun h => by omega)⟩
            · rw [I0, I_le (by omega) (by omega)] at hle
              refine wp_brc (fun hne => ?_) (fun hne => ?_)
              · rw [I_inj (by omega) (by omega)] at hne
                exact hk _ ⟨c + 1, x, by omega, rfl, hx64, keep (fun h => hne h.2)⟩
              · have he : cc T q c (2 ^ T 0 2) = cn T q (2 ^ T 0 2) := (I_inj (by omega) (by omega)).mp (Classical.not_not.mp hne)
                refine hk _ ⟨c + 1, x ||| 2 ^ c, by omega, rfl, bitorlt hx64 hc6, fun e he' => ?_⟩
                rw [bitor hx64 hc6 he']
                by_cases e5 : e = c
                · rw [if_pos e5, e5, if_pos ⟨by omega, by omega, he⟩]
                · rw [if_neg e5, hbits e he']
                  by_cases h1 : e < c ∧ 0 < cn T q (2 ^ T 0 2) ∧ cc T q e (2 ^ T 0 2) = cn T q (2 ^ T 0 2)
                  · rw [if_pos h1, if_pos ⟨by omega, h1.2⟩]
                  · rw [if_neg h1, if_neg (fun h2 => h1 ⟨by omega, h2.2⟩)]
          · rintro a k ⟨c, x, hc, rfl, hx64, hbits⟩
            show wp (rM_missed_39 (fun v1 v2 v3 v4 v5 σ => k (v1, v2, v3, v4, v5, σ)) (I q) w (I (cn T q (2 ^ T 0 2))) (I x) (I c) (setI σm 0 0 0)) _
            unfold rM_missed_39 rM_missed_92
            rw [eM_carriers, bnd2_e, hm'.1.2.2.1, brc_t (show I (T 0 2) ≤ I c by rw [I_le (by omega) (by omega)]; omega)]
            have ex : x = iaE T q := by
              obtain ⟨i1, i2⟩ := ia_bit h6 q (2 ^ T 0 2) a4
              unfold iaE
              by_cases h0 : cn T q (2 ^ T 0 2) = 0
              · rw [if_pos h0]
                refine biteq hx64 (by omega) (fun e he => ?_)
                rw [hbits e he, if_neg (fun h => by omega), Nat.zero_div]
              · rw [if_neg h0]
                refine biteq hx64 i1 (fun e he => ?_)
                rw [hbits e he, i2 e he, show c = T 0 2 by omega]
                by_cases h1 : e < T 0 2 ∧ cc T q e (2 ^ T 0 2) = cn T q (2 ^ T 0 2)
                · rw [if_pos h1, if_pos ⟨h1.1, by omega, h1.2⟩]
                · rw [if_neg h1, if_neg (fun h2 => h1 ⟨h2.1, h2.2.2⟩)]
            rw [ex]
            by_cases h0 : w = 0
            · rw [brc_f (fun h => h h0)]
              exact wp_some rfl
            · rw [brc_t h0]
              exact wp_some rfl
        obtain ⟨r, e2, er⟩ := goal
        rw [← er]
        exact e2
      have hxτ := GX_z f1 hx
      by_cases h0 : w = 0
      · rw [brc_f (fun h => h h0)] at eX eM
        exact ⟨_, _, _, eX, eM, T, R, D, Mk, U, n, tp, LD, LP, hw, hxτ, hm'⟩
      · rw [brc_t h0] at eX eM
        exact ⟨_, _, _, eX, eM, T, R, D, Mk, U, n, tp, LD, LP, hw, hxτ, hm'⟩
    · refine no ?_ ?_
      · unfold rX_missed rX_missed_19
        rw [brc_f (not_lt32.mpr hv.1), brc_f (not_lt32.mpr hv.2)]
        by_cases h0 : w < 0
        · rw [brc_t h0]
        · rw [brc_f h0, brc_f (fun h => hz ⟨not_lt32.mp h0, h⟩)]
      · unfold rM_missed rM_missed_24
        rw [nmE, eM_within, bnd2_e, b01_t hv, brc_f b01_1, eM_within, bnd2_e, b01_f hz, brc_f (fun h => h rfl)]
  · refine no ?_ ?_
    · unfold rX_missed rX_missed_19
      by_cases h0 : v < 0
      · rw [brc_t h0]
      · rw [brc_f h0, brc_t (not_le32.mp (fun h => hv ⟨not_lt32.mp h0, h⟩))]
    · unfold rM_missed rM_missed_24
      rw [nmE, eM_within, bnd2_e, b01_f hv, brc_t rfl]
theorem I_mod {a b : Nat} (ha : a < 2147483648) (hb : b < 2147483648) : I a - I a / I b * I b = I (a % b) := by
  have h1 : a / b * b ≤ a := Nat.div_mul_le_self a b
  rw [I_div ha hb, I_mul, I_sub h1]
  congr 1
  have := Nat.div_add_mod a b
  rw [Nat.mul_comm] at this
  omega
theorem eX_lowest {σ : St} {c a b : Nat} (hc : c < 6) (ha : σ.1 58 c = I a) (hb : σ.1 57 3 = I b) (hab : a ≤ b) (h64 : b ≤ 64) (v : Int32) : rX_lowest (I c) v σ = some (if b = 0 then -1 else if v = 0 then I (b / Nat.gcd a b) else I (a / Nat.gcd a b), σ) := by
  have goal : wp (rX_lowest (I c) v σ) (fun r => r = (if b = 0 then -1 else if v = 0 then I (b / Nat.gcd a b) else I (a / Nat.gcd a b), σ)) := by
    unfold rX_lowest
    rw [chk_t (ib_I hc (by omega)), nmE, nmE, I_cl (by omega), ha, hb]
    have ex : ∀ i, i = Nat.gcd a b → wp (rX_lowest_42 v (I a) (I i) σ) (fun r => r = (if b = 0 then -1 else if v = 0 then I (b / Nat.gcd a b) else I (a / Nat.gcd a b), σ)) := by
      intro i hi
      have hgl : Nat.gcd a b ≤ 64 := by
        by_cases h0 : b = 0
        · have : a = 0 := by omega
          rw [this, h0]; decide
        · exact Nat.le_trans (Nat.gcd_le_right a (by omega)) h64
      unfold rX_lowest_42 rX_lowest_62
      rw [hb]
      by_cases h0 : b = 0
      · have ea : a = 0 := by omega
        have : i = 0 := by rw [hi, ea, h0]; rfl
        rw [if_pos h0, brc_f (show ¬ (1 : Int32) ≤ I i by rw [this]; decide)]
        exact wp_some rfl
      · have hg : 0 < Nat.gcd a b := Nat.gcd_pos_of_pos_right a (by omega)
        have hne : ¬ I i = 0 := by rw [I0, I_inj (by omega) (by omega)]; omega
        rw [if_neg h0, brc_t (show (1 : Int32) ≤ I i by rw [I1, I_le (by omega) (by omega)]; omega), chk_t (decide_eq_true hne), chk_t (decide_eq_true hne), I_div (by omega) (by omega), I_div (by omega) (by omega), hi]
        by_cases hv : v = 0
        · rw [brc_t hv, if_pos hv]
          exact wp_some rfl
        · rw [brc_f hv, if_neg hv]
          exact wp_some rfl
    refine wp_lp (fun m x => ∃ i : Nat, i = m ∧ i ≤ b ∧ Nat.gcd a b ≤ i ∧ x = (v, I a, I i, σ)) ?_ fu b _ (by unfold fu; omega) ⟨b, rfl, Nat.le_refl _, ?_, rfl⟩
    · rintro m x k ⟨i, rfl, hib, hgi, rfl⟩ hk
      show wp (rX_lowest_13 (fun v2 v3 v4 σ => k (v2, v3, v4, σ)) v (I a) (I i) σ) _
      unfold rX_lowest_13 rX_lowest_36
      by_cases h1 : i ≤ 1
      · rw [brc_t (show I i ≤ 1 by rw [I1, I_le (by omega) (by omega)]; exact h1)]
        refine ex i ?_
        by_cases h0 : b = 0
        · have ea : a = 0 := by omega
          have : i = 0 := by omega
          rw [this, ea, h0]; rfl
        · have hg : 0 < Nat.gcd a b := Nat.gcd_pos_of_pos_right a (by omega)
          omega
      · have hne : ¬ I i = 0 := by rw [I0, I_inj (by omega) (by omega)]; omega
        rw [brc_f (show ¬ I i ≤ 1 by rw [I1, I_le (by omega) (by omega)]; exact h1), chk_t (decide_eq_true hne), I_mod (by omega) (by omega), chk_t (decide_eq_true hne), hb, I_mod (by omega) (by omega), nmE, I_pred (by omega)]
        have hmod1 := Nat.mod_lt a (show 0 < i by omega)
        have hmod2 := Nat.mod_lt b (show 0 < i by omega)
        have next : ¬ (a % i = 0 ∧ b % i = 0) → wp (k (v, I a, I (i - 1), σ)) (fun r => r = (if b = 0 then -1 else if v = 0 then I (b / Nat.gcd a b) else I (a / Nat.gcd a b), σ)) := by
          intro hno
          refine hk (i - 1) _ (by omega) ⟨i - 1, rfl, by omega, ?_, rfl⟩
          have : Nat.gcd a b ≠ i := fun e => hno ⟨Nat.mod_eq_zero_of_dvd (e ▸ Nat.gcd_dvd_left a b), Nat.mod_eq_zero_of_dvd (e ▸ Nat.gcd_dvd_right a b)⟩
          omega
        by_cases m1 : a % i = 0
        · rw [brc_f (show ¬ ¬ I (a % i) = 0 by rw [m1]; exact fun h => h rfl)]
          by_cases m2 : b % i = 0
          · rw [brc_t (show I (b % i) = 0 by rw [m2]; rfl)]
            refine ex i ?_
            have hd : i ∣ Nat.gcd a b := Nat.dvd_gcd (Nat.dvd_of_mod_eq_zero m1) (Nat.dvd_of_mod_eq_zero m2)
            have hle := Nat.le_of_dvd (Nat.gcd_pos_of_pos_right a (by omega)) hd
            omega
          · rw [brc_f (show ¬ I (b % i) = 0 by rw [I0, I_inj (by omega) (by omega)]; exact m2)]
            exact next (fun h => m2 h.2)
        · rw [brc_t (show ¬ I (a % i) = 0 by rw [I0, I_inj (by omega) (by omega)]; exact m1)]
          exact next (fun h => m1 h.1)
    · by_cases h0 : b = 0
      · have ea : a = 0 := by omega
        rw [ea, h0]; decide
      · exact Nat.gcd_le_right a (by omega)
  obtain ⟨r, e, rfl⟩ := goal
  exact e
theorem eM_common {σ : St} {a b : Nat} (ha : a ≤ 64) (hb : b ≤ 64) : rM_common (I a) (I b) σ = some (I (Nat.gcd a b), σ) := by
  have goal : wp (rM_common (I a) (I b) σ) (fun r => r = (I (Nat.gcd a b), σ)) := by
    unfold rM_common
    rw [nmE, nmE]
    refine wp_lp (fun m x => ∃ p q : Nat, q = m ∧ p ≤ 64 ∧ q ≤ 64 ∧ Nat.gcd p q = Nat.gcd a b ∧ x = (I p, I q, σ)) ?_ fu b _ (by unfold fu; omega) ⟨a, b, rfl, ha, hb, rfl, rfl⟩
    rintro m x k ⟨p, q, rfl, hp, hq, hg, rfl⟩ hk
    show wp (rM_common_4 (fun v2 v3 σ => k (v2, v3, σ)) (I p) (I q) σ) _
    unfold rM_common_4
    by_cases h0 : q = 0
    · rw [brc_t (show I q = 0 by rw [h0]; rfl)]
      rw [h0, Nat.gcd_zero_right] at hg
      exact wp_some (by rw [hg])
    · have hne : ¬ I q = 0 := by rw [I0, I_inj (by omega) (by omega)]; exact h0
      rw [brc_f hne, chk_t (decide_eq_true hne), nmE, nmE, nmE, I_mod (by omega) (by omega)]
      have hm := Nat.mod_lt p (show 0 < q by omega)
      refine hk (p % q) _ hm ⟨q, p % q, rfl, hq, by omega, ?_, rfl⟩
      rw [Nat.gcd_comm q (p % q), ← Nat.gcd_rec q p, Nat.gcd_comm q p]
      exact hg
  obtain ⟨r, e, rfl⟩ := goal
  exact e
theorem po_odds : PO_odds Inv := by
  intro σx σm h v u w
  obtain ⟨T, R, D, Mk, U, n, tp, LD, LP, hw, hx, hm⟩ := h
  have hm' := GM_0 hw 0 hm
  have h6 := hw.1.2.1
  obtain ⟨-, -, a3, a4, a5⟩ := sb_all h6 (Nat.two_pow_pos (T 0 2))
  have no : rX_odds v u w σx = some (-1, σx) → rM_odds v u w σm = some (-1, setI σm 0 0 0) → ∃ (r : Int32) (x m : St), rX_odds v u w σx = some (r, x) ∧ rM_odds v u w σm = some (r, m) ∧ Inv x m := fun e1 e2 => ⟨-1, _, _, e1, e2, T, R, D, Mk, U, n, tp, LD, LP, hw, hx, hm'⟩
  by_cases hv : 0 ≤ v ∧ v ≤ 99
  · obtain ⟨q, rfl, hq⟩ := I_of hv.1
    have hq2 : q ≤ 99 := by
      have := hv.2
      rw [litN, I_le hq (by omega)] at this
      exact this
    by_cases hu : inR u (I (T 0 2))
    · obtain ⟨c, rfl, hc⟩ := inR_I (by omega) hu
      have hc6 : c < 6 := by omega
      by_cases hz : 0 ≤ w ∧ w ≤ 1
      · obtain ⟨τ, e1, x3, x4, x5, f1⟩ := eX_judge hw.1 hx.1 hq2
        obtain ⟨hab, hb64⟩ := cc_le T q c (2 ^ T 0 2)
        have eX : rX_odds (I q) (I c) w σx = some (if cn T q (2 ^ T 0 2) = 0 then -1 else if ¬ w = 0 then I (cn T q (2 ^ T 0 2) / Nat.gcd (cc T q c (2 ^ T 0 2)) (cn T q (2 ^ T 0 2))) else I (cc T q c (2 ^ T 0 2) / Nat.gcd (cc T q c (2 ^ T 0 2)) (cn T q (2 ^ T 0 2))), τ) := by
          unfold rX_odds rX_odds_58
          rw [brc_f (not_lt32.mpr hv.1), brc_f (not_lt32.mpr hv.2), eX_hasCarrier, bnd2_e, hx.1.2.2.1, b01_t hu, brc_f b01_1, brc_f (not_lt32.mpr hz.1), brc_t hz.2, e1, bnd1_e, eX_lowest hc6 (x5 c hc) x3 hab (by omega), bnd2_e, eX_lowest hc6 (x5 c hc) x3 hab (by omega), bnd2_e]
          by_cases h0 : w = 0
          · rw [brc_f (fun h => h h0), if_neg b01_1, if_neg (show ¬ ¬ w = 0 from fun h => h h0)]
          · rw [brc_t h0, if_pos rfl, if_pos h0]
        have hxτ := GX_z f1 hx
        have m1 : ∀ σ, MT T σ → rM_missedBy (I q) (-1) σ = some (I (cn T q (2 ^ T 0 2)), σ) := fun σ hs => by
          have := eM_missedBy hw.1 hs hq2 (c := 99) (Or.inl rfl)
          rw [show cm T q 99 (2 ^ T 0 2) = cn T q (2 ^ T 0 2) from if_pos rfl] at this
          exact this
        have m2 : ∀ σ, MT T σ → rM_missedBy (I q) (I c) σ = some (I (cc T q c (2 ^ T 0 2)), σ) := fun σ hs => by
          have := eM_missedBy hw.1 hs hq2 (c := c) (Or.inr hc6)
          rw [show cm T q c (2 ^ T 0 2) = cc T q c (2 ^ T 0 2) from if_neg (by omega), hI_I hc6] at this
          exact this
        refine ⟨_, τ, setI σm 0 0 0, eX, ?_, T, R, D, Mk, U, n, tp, LD, LP, hw, hxτ, hm'⟩
        unfold rM_odds rM_odds_41 rM_odds_79
        rw [nmE, eM_within, bnd2_e, b01_t hv, brc_f b01_1, eM_isCarrier, bnd2_e, hm'.1.2.2.1, b01_t hu, brc_f b01_1, eM_within, bnd2_e, b01_t hz, brc_f b01_1, m1 _ hm'.1, bnd2_e]
        by_cases h0 : cn T q (2 ^ T 0 2) = 0
        · rw [if_pos h0, brc_f (show ¬ ¬ I (cn T q (2 ^ T 0 2)) = 0 by rw [h0]; exact fun h => h rfl)]
        · have hg : 0 < Nat.gcd (cc T q c (2 ^ T 0 2)) (cn T q (2 ^ T 0 2)) := Nat.gcd_pos_of_pos_right _ (by omega)
          have hgl : Nat.gcd (cc T q c (2 ^ T 0 2)) (cn T q (2 ^ T 0 2)) ≤ cn T q (2 ^ T 0 2) := Nat.gcd_le_right _ (by omega)
          have hne : ¬ I (Nat.gcd (cc T q c (2 ^ T 0 2)) (cn T q (2 ^ T 0 2))) = 0 := by rw [I0, I_inj (by omega) (by omega)]; omega
          rw [if_neg h0, brc_t (show ¬ I (cn T q (2 ^ T 0 2)) = 0 by rw [I0, I_inj (by omega) (by omega)]; exact h0), m2 _ hm'.1, bnd2_e, m1 _ hm'.1, bnd2_e, eM_common (by omega) (by omega), bnd2_e, nmE, m1 _ hm'.1, bnd2_e, m2 _ hm'.1, bnd2_e, chk_t (decide_eq_true hne), chk_t (decide_eq_true hne), I_div (by omega) (by omega), I_div (by omega) (by omega)]
          by_cases hw0 : w = 0
          · rw [brc_f (fun h => h hw0), if_neg (show ¬ ¬ w = 0 from fun h => h hw0)]
          · rw [brc_t hw0, if_pos hw0]
      · refine no ?_ ?_
        · unfold rX_odds rX_odds_30
          rw [brc_f (not_lt32.mpr hv.1), brc_f (not_lt32.mpr hv.2), eX_hasCarrier, bnd2_e, hx.1.2.2.1, b01_t hu, brc_f b01_1]
          by_cases h0 : w < 0
          · rw [brc_t h0]
          · rw [brc_f h0, brc_f (fun h => hz ⟨not_lt32.mp h0, h⟩)]
        · unfold rM_odds rM_odds_41
          rw [nmE, eM_within, bnd2_e, b01_t hv, brc_f b01_1, eM_isCarrier, bnd2_e, hm'.1.2.2.1, b01_t hu, brc_f b01_1, eM_within, bnd2_e, b01_f hz, brc_t rfl]
    · refine no ?_ ?_
      · unfold rX_odds rX_odds_30
        rw [brc_f (not_lt32.mpr hv.1), brc_f (not_lt32.mpr hv.2), eX_hasCarrier, bnd2_e, hx.1.2.2.1, b01_f hu, brc_t rfl]
      · unfold rM_odds rM_odds_41
        rw [nmE, eM_within, bnd2_e, b01_t hv, brc_f b01_1, eM_isCarrier, bnd2_e, hm'.1.2.2.1, b01_f hu, brc_t rfl]
  · refine no ?_ ?_
    · unfold rX_odds rX_odds_30
      by_cases h0 : v < 0
      · rw [brc_t h0]
      · rw [brc_f h0, brc_t (not_le32.mp (fun h => hv ⟨not_lt32.mp h0, h⟩))]
    · unfold rM_odds rM_odds_41
      rw [nmE, eM_within, bnd2_e, b01_f hv, brc_t rfl]
