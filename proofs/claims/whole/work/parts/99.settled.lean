/-! settled -/
theorem shl_I {n : Nat} (hn : n ≤ 6) : (1 : Int32) <<< (I n &&& 31) = I (2 ^ n) := by
  have H : ∀ n, n < 7 → (1 : Int32) <<< (I n &&& 31) = I (2 ^ n) := by decide
  exact H n (by omega)
theorem and_I {s t : Nat} (hs : s < 64) (ht : t < 64) : I s &&& I t = I (s &&& t) :=
  of_decide_eq_true (ck2_ok (p := fun s t => decide (I s &&& I t = I (s &&& t))) (by decide +kernel) hs ht)
theorem xor_I {s t : Nat} (hs : s < 64) (ht : t < 64) : I s ^^^ I t = I (s ^^^ t) :=
  of_decide_eq_true (ck2_ok (p := fun s t => decide (I s ^^^ I t = I (s ^^^ t))) (by decide +kernel) hs ht)
theorem andnot_I {s t : Nat} (hs : s < 64) (ht : t < 64) (h : t &&& s = t) : I s &&& (I t ^^^ (-1 : Int32)) = I (s ^^^ t) :=
  of_decide_eq_true (ck2_ok (p := fun s t => decide (t &&& s = t → I s &&& (I t ^^^ (-1 : Int32)) = I (s ^^^ t))) (by decide +kernel) hs ht) h
theorem and_bit {s c : Nat} (hs : s < 64) (hc : c < 6) : (s &&& 2 ^ c = 0 ↔ ¬ s / 2 ^ c % 2 = 1) ∧ s &&& 2 ^ c < 64 ∧ 2 ^ c < 64 := by
  have H : ∀ s, s < 64 → ∀ c, c < 6 → (s &&& 2 ^ c = 0 ↔ ¬ s / 2 ^ c % 2 = 1) ∧ s &&& 2 ^ c < 64 ∧ 2 ^ c < 64 := by decide +kernel
  exact H s hs c hc
theorem gr_le (b : Nat → Int32) {n : Nat} (hn : n ≤ 6) : ∀ s, s < 64 → gr b n s ≤ s := by
  intro s
  induction s using Nat.strongRecOn with
  | ind s ih =>
    intro hs
    by_cases h0 : s = 0
    · rw [h0]; exact Nat.le_refl _
    · rw [gr_eq hn hs h0]
      have : ∀ k, k ≤ n → mxg (gr b n) s k + 1 ≤ s := by
        intro k
        induction k with
        | zero => intro _; show 0 + 1 ≤ s; omega
        | succ k ihk =>
          intro hk
          have h1 := ihk (by omega)
          unfold mxg
          split
          · rename_i hb
            have h2 := (sb_bit hs (show k < 6 by omega) hb).2.1
            have h3 := ih _ h2 (by omega)
            have : max (mxg (gr b n) s k) (gr b n (s ^^^ 2 ^ k)) + 1 ≤ s := by
              rcases Nat.le_total (mxg (gr b n) s k) (gr b n (s ^^^ 2 ^ k)) with h | h
              · rw [Nat.max_eq_right h]; omega
              · rw [Nat.max_eq_left h]; omega
            exact this
          · exact h1
      have h1 := this n (Nat.le_refl _)
      unfold grV
      split <;> omega
theorem mxg_le {b : Nat → Int32} {n s : Nat} (hn : n ≤ 6) (hs : s < 64) : ∀ k, k ≤ 6 → mxg (gr b n) s k ≤ 64
  | 0, _ => Nat.zero_le _
  | k + 1, hk => by
    unfold mxg
    have h1 := mxg_le (b := b) hn hs k (by omega)
    split
    · rename_i hb
      have h2 := (sb_bit hs (show k < 6 by omega) hb).2.1
      have h3 := gr_le b hn (s ^^^ 2 ^ k) (by omega)
      exact Nat.max_le.mpr ⟨h1, by omega⟩
    · exact h1
/-- what the sets need -/
abbrev zX (σ τ : St) : Prop := frO [57, 58, 59, 60] 49 [] σ τ
theorem eX_fewest {T D : Vw} {σ : St} (hw : wfT T) (hT : XMt T σ) (hD : ∀ q, q < 36 → σ.1 38 q = I (D 0 q)) : wp (rX_fewest σ) (fun r => r.1 = I (T 0 2) - I (gr (blD D) (T 0 2) (2 ^ T 0 2 - 1)) ∧ zX σ r.2) := by
  have h6 := hw.2.1
  obtain ⟨-, -, a3, a4, a5⟩ := sb_all h6 (Nat.two_pow_pos (T 0 2))
  unfold rX_fewest
  rw [nmE, hT.2.2.1, shl_I h6, I1, I_sub a5, show ib (0 : Int32) 64 = true from rfl, chk_e, nmE, chk_e, nmE, nmE, show (0 : Int32).toNatClampNeg = 0 from rfl]
  have fr0 : zX σ (setI (setI σ 59 0 0) 60 0 0) := frO_c (frO_c frO_refl _ (by decide) (by decide)) _ (by decide) (by decide)
  refine wp_for (fun n a => ∃ (s : Nat) (τ : St), s + n = 2 ^ T 0 2 ∧ 1 ≤ s ∧ a = (I (2 ^ T 0 2 - 1), I s, τ) ∧ (∀ t, t < s → τ.1 59 t = sm (blD D) t (T 0 2) ∧ τ.1 60 t = I (gr (blD D) (T 0 2) t)) ∧ zX σ τ) ?_ ?_ (2 ^ T 0 2 - 1) fu _ ⟨1, _, by omega, by omega, rfl, fun t ht => ?_, fr0⟩ (by unfold fu; omega)
  · rintro n a k ⟨s, τ, hs, hs1, rfl, t1, f⟩ hk
    have hs64 : s < 64 := by omega
    show wp (rX_fewest_26 (fun v3 v4 σ => k (v3, v4, σ)) (I (2 ^ T 0 2 - 1)) (I s) τ) _
    unfold rX_fewest_26
    rw [brc_f (show ¬ I (2 ^ T 0 2 - 1) < I s by rw [I_lt (by omega) (by omega)]; omega), nmE, nmE]
    refine wp_for (fun n2 a2 => ∃ (c : Nat) (υ : St), c + n2 = T 0 2 ∧ a2 = (I (2 ^ T 0 2 - 1), I s, I (mxg (gr (blD D) (T 0 2)) s c), I c, υ) ∧ (∀ t, ¬ t = s → υ.1 59 t = τ.1 59 t) ∧ υ.1 60 = τ.1 60 ∧ ((∃ c', c' < c ∧ s / 2 ^ c' % 2 = 1) → υ.1 59 s = sm (blD D) s (T 0 2)) ∧ zX σ υ) ?_ ?_ (T 0 2) fu _ ⟨0, τ, by omega, rfl, fun _ _ => rfl, rfl, fun h => by obtain ⟨c', h1, -⟩ := h; exact absurd h1 (Nat.not_lt_zero _), f⟩ (by unfold fu; omega)
    · rintro n2 a2 k2 ⟨c, υ, hc, rfl, u1, u2, u3, fu2⟩ hk2
      have hc6 : c < 6 := by omega
      obtain ⟨b1, b2, b3⟩ := and_bit hs64 hc6
      show wp (rX_fewest_38 (fun v3 v4 σ => k (v3, v4, σ)) (fun v3 v4 v5 v6 σ => k2 (v3, v4, v5, v6, σ)) (I (2 ^ T 0 2 - 1)) (I s) (I (mxg (gr (blD D) (T 0 2)) s c)) (I c) υ) _
      unfold rX_fewest_38 rX_fewest_102
      have hTu : XMt T υ := XMt_fr (fun i h1 h2 => fu2.1 i (by simp; omega) (by omega)) hT
      rw [hTu.2.2.1, brc_f (show ¬ I (T 0 2) ≤ I c by rw [I_le (by omega) (by omega)]; omega), nmE, show (1 : Int32) <<< (I c &&& 31) = I (2 ^ c) from shl_I (by omega), and_I hs64 b3, nmE, oi1, I_add]
      by_cases hb : s / 2 ^ c % 2 = 1
      · obtain ⟨q1, q2, q3⟩ := sb_bit hs64 hc6 hb
        rw [brc_f (show ¬ I (s &&& 2 ^ c) = 0 by rw [I0, I_inj (by omega) (by omega)]; exact fun h => (b1.mp h) hb), xor_I hs64 b3, chk_t (ib_I (by omega) (by omega)), eX_balance _ hc6, bnd2_e, chk_t (ib_I (by omega) (by omega)), nmE, chk_t (ib_I (by omega) (by omega)), nmE, I_cl (by omega), I_cl (by omega), u1 (s ^^^ 2 ^ c) (by omega), (t1 (s ^^^ 2 ^ c) q2).1, gI_ne1 _ _ _ (show (60 : Nat) ≠ 59 by decide), u2, (t1 (s ^^^ 2 ^ c) q2).2]
        have e38 : balOf (υ.1 38) c = blD D c := by rw [fu2.1 38 (by decide) (by decide)]; exact balOf_congr hc6 hD
        rw [e38, sm_bit h6 hs64 (by omega) hb]
        have g1 := gr_le (blD D) h6 (s ^^^ 2 ^ c) (by omega)
        have g2 := mxg_le (b := blD D) (s := s) h6 hs64 c (by omega)
        refine hk2 _ ⟨c + 1, _, by omega, ?_, fun t ht => by rw [gI_ne2 _ _ _ ht]; exact u1 t ht, by rw [gI_ne1 _ _ _ (by decide)]; exact u2, fun _ => gI_same _ _ _ _, frO_c fu2 _ (by decide) (by decide)⟩
        have em : mxg (gr (blD D) (T 0 2)) s (c + 1) = max (mxg (gr (blD D) (T 0 2)) s c) (gr (blD D) (T 0 2) (s ^^^ 2 ^ c)) := if_pos hb
        rw [em]
        by_cases hlt : mxg (gr (blD D) (T 0 2)) s c < gr (blD D) (T 0 2) (s ^^^ 2 ^ c)
        · rw [if_pos ((I_lt (by omega) (by omega)).mpr hlt), Nat.max_eq_right (by omega)]
        · rw [if_neg (fun h => hlt ((I_lt (by omega) (by omega)).mp h)), Nat.max_eq_left (by omega)]
      · rw [brc_t (show I (s &&& 2 ^ c) = 0 by rw [b1.mpr hb]; rfl)]
        have em : mxg (gr (blD D) (T 0 2)) s (c + 1) = mxg (gr (blD D) (T 0 2)) s c := if_neg hb
        refine hk2 _ ⟨c + 1, υ, by omega, by rw [em], u1, u2, fun h => ?_, fu2⟩
        obtain ⟨c', h1, h2⟩ := h
        refine u3 ⟨c', ?_, h2⟩
        have : c' ≠ c := fun e => hb (e ▸ h2)
        omega
    · rintro a2 k2 ⟨c, υ, hc, rfl, u1, u2, u3, fu2⟩
      have ec : c = T 0 2 := by omega
      show wp (rX_fewest_38 (fun v3 v4 σ => k (v3, v4, σ)) (fun v3 v4 v5 v6 σ => k2 (v3, v4, v5, v6, σ)) (I (2 ^ T 0 2 - 1)) (I s) (I (mxg (gr (blD D) (T 0 2)) s c)) (I c) υ) _
      unfold rX_fewest_38
      have hTu : XMt T υ := XMt_fr (fun i h1 h2 => fu2.1 i (by simp; omega) (by omega)) hT
      obtain ⟨c0, hc0, hb0⟩ := sb_some hs64 (by omega)
      have u59 := u3 ⟨c0, by rw [ec]; exact sb_lt h6 (by omega) hc0 hb0, hb0⟩
      rw [hTu.2.2.1, brc_t (show I (T 0 2) ≤ I c by rw [I_le (by omega) (by omega)]; omega), chk_t (ib_I hs64 (by omega)), I_cl (by omega), u59, I1, I_add, ec]
      have eg := gr_eq (b := blD D) h6 hs64 (by omega)
      unfold grV at eg
      have go : ∀ x, x = gr (blD D) (T 0 2) s → wp (rX_fewest_133 (fun v3 v4 σ => k (v3, v4, σ)) (I (2 ^ T 0 2 - 1)) (I s) (I x) (I s) υ) (fun r => r.1 = I (T 0 2) - I (gr (blD D) (T 0 2) (2 ^ T 0 2 - 1)) ∧ zX σ r.2) := by
        intro x hx
        unfold rX_fewest_133
        rw [chk_t (ib_I hs64 (by omega)), nmE, nmE, oi1, I_add, I_cl (by omega)]
        refine hk _ ⟨s + 1, _, by omega, by omega, rfl, fun t ht => ?_, frO_c fu2 _ (by decide) (by decide)⟩
        rw [gI_ne1 _ _ _ (show (59 : Nat) ≠ 60 by decide)]
        by_cases e : t = s
        · rw [e, gI_same, hx]; exact ⟨u59, rfl⟩
        · rw [gI_ne2 _ _ _ e, u1 t e, u2]; exact t1 t (by omega)
      by_cases hz : sm (blD D) s (T 0 2) = 0
      · rw [brc_f (fun h => h hz)]
        rw [if_pos hz] at eg
        exact go _ eg.symm
      · rw [brc_t hz]
        rw [if_neg hz] at eg
        exact go _ eg.symm
  · rintro a k ⟨s, τ, hs, hs1, rfl, t1, f⟩
    show wp (rX_fewest_26 (fun v3 v4 σ => k (v3, v4, σ)) (I (2 ^ T 0 2 - 1)) (I s) τ) _
    unfold rX_fewest_26
    have hTu : XMt T τ := XMt_fr (fun i h1 h2 => f.1 i (by simp; omega) (by omega)) hT
    rw [brc_t (show I (2 ^ T 0 2 - 1) < I s by rw [I_lt (by omega) (by omega)]; omega), chk_t (ib_I (by omega) (by omega)), I_cl (by omega), (t1 (2 ^ T 0 2 - 1) (by omega)).2, hTu.2.2.1]
    exact wp_some ⟨rfl, f⟩
  · have : t = 0 := by omega
    rw [this, gI_ne1 _ _ _ (show (59 : Nat) ≠ 60 by decide), gI_same, gI_same, sm_0]
    exact ⟨rfl, rfl⟩
