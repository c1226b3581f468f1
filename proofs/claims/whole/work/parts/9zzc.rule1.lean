/-! a law's line in the reference -/
def ruM (c j : Nat) (σ τ : St) : Prop := (∀ i, i ≠ 0 → i ≠ 6 → i ≠ 8 → i ≠ 9 → τ.1 i = σ.1 i) ∧ (∀ q, q ≠ 166 + j → τ.1 6 q = σ.1 6 q) ∧ (∀ q, q ≠ 7 → q ≠ 8 → q ≠ 14 → q ≠ 19 → τ.1 0 q = σ.1 0 q) ∧ (∀ q, q < 1100 + c → τ.1 8 q = σ.1 8 q ∧ τ.1 9 q = σ.1 9 q) ∧ τ.2 = σ.2
theorem ruM_tr {c j : Nat} {σ τ υ : St} (h1 : ruM c j σ τ) (h2 : ruM c j τ υ) : ruM c j σ υ :=
  ⟨fun i x y z u => (h2.1 i x y z u).trans (h1.1 i x y z u), fun q a => (h2.2.1 q a).trans (h1.2.1 q a), fun q x y z u => (h2.2.2.1 q x y z u).trans (h1.2.2.1 q x y z u), fun q hq => ⟨(h2.2.2.2.1 q hq).1.trans (h1.2.2.2.1 q hq).1, (h2.2.2.2.1 q hq).2.trans (h1.2.2.2.1 q hq).2⟩, h2.2.2.2.2.trans h1.2.2.2.2⟩
theorem ruM_lw {c c' j : Nat} {σ τ : St} (h : lwM c' σ τ) (hc : c ≤ c') : ruM c j σ τ := ⟨fun i a _ b d => h.1 i a b d, fun q _ => by rw [h.1 6 (by decide) (by decide) (by decide)], fun q a b d _ => h.2.1 q a b d, fun q hq => h.2.2.1 q (by omega), h.2.2.2⟩
abbrev RuG (n : Nat) (tp : Nat → Nat) (N b c j k : Nat) (τ : St) : Prop := ∃ k' E, RM n tp N k' 0 τ ∧ τ.1 0 14 = I (c + E.length + 1) ∧ E.length + (k + 1) ≤ k' ∧ τ.1 6 (166 + j) = I c ∧ EM b τ (1100 + c) E ∧ τ.1 8 (1100 + c + E.length) = 0 ∧ HP b 0 E ∧ MG (tW n tp) (tV n tp) b 1 0 (k + 1) k' E ∧ tc 1 (tW n tp k')
abbrev RuB (n : Nat) (tp : Nat → Nat) (N b k : Nat) (τ : St) : Prop := ∃ k' f kf, RM n tp N k' (f + 16 * ps n tp kf) τ ∧ 0 < f ∧ f + 16 * ps n tp kf < 20000 ∧ MB (tW n tp) (tV n tp) b 1 0 (k + 1) f kf
theorem eM_readRule {n : Nat} {tp : Nat → Nat} (hw : wfP n tp) {N b c j k bit : Nat} {σ : St} (hj : (j = 0 ∧ b = 0) ∨ (j = 1 ∧ b = 5)) (hW : tW n tp k = 11 + j) (h : RM n tp N k 0 σ) (h14 : σ.1 0 14 = I c) (hc : c ≤ k) (h12 : σ.1 12 = sM0.1 12) (h13 : σ.1 13 = sM0.1 13) (h0 : bit = 0 → σ.1 6 (166 + j) = -1) (h1 : ¬ bit = 0 → ∃ a, a < 1100 ∧ σ.1 6 (166 + j) = I a) : wp (rM_readRule σ) (fun τ => ruM c j σ τ ∧ ((¬ bit = 0 ∧ RM n tp N k (3 + 16 * ps n tp k) τ) ∨ (bit = 0 ∧ (RuG n tp N b c j k τ ∨ RuB n tp N b k τ)))) := by
  have hn := hw.1
  have hp := (RM_tok h).2.2.1
  have hN := h.1.1
  have hj2 : j < 2 := by omega
  have hb : b = 0 ∨ b = 5 := by
    rcases hj with ⟨-, h9⟩ | ⟨-, h9⟩
    · exact Or.inl h9
    · exact Or.inr h9
  have e12 : rM_isWord (12 : Int32) σ = some (I j, σ) := by
    have e : rM_isWord (12 : Int32) σ = some (if tW n tp k = 12 then 1 else 0, σ) := eM_isWord hw h (w := 12) (by decide)
    rw [e]
    rcases hj with ⟨rfl, -⟩ | ⟨rfl, -⟩
    · rw [if_neg (by omega)]; rfl
    · rw [if_pos (by omega)]; rfl
  have ev : (166 : Int32) + I j = I (166 + j) := by rw [litN, I_add]
  have main : wp (rM_readRule_25 (I j) (166 : Int32) (setI σ 0 19 (I j))) (fun τ => ruM c j σ τ ∧ ((¬ bit = 0 ∧ RM n tp N k (3 + 16 * ps n tp k) τ) ∨ (bit = 0 ∧ (RuG n tp N b c j k τ ∨ RuB n tp N b k τ)))) := by
    have f0 : ruM c j σ (setI σ 0 19 (I j)) := ⟨fun i a _ _ _ => gI_ne1 _ _ _ a, fun q _ => by rw [gI_ne1 _ _ _ (by decide)], fun q _ _ _ d => gI_ne2 _ _ _ d, fun q _ => ⟨by rw [gI_ne1 _ _ _ (by decide)], by rw [gI_ne1 _ _ _ (by decide)]⟩, rfl⟩
    have r0 : RM n tp N k 0 (setI σ 0 19 (I j)) := RM_of h (gI_ne1 _ _ _ (by decide)) (gI_ne1 _ _ _ (by decide)) rfl rfl h.2.1 (by rw [gI_ne2 _ _ _ (by decide)]; exact h.2.2.1) (by rw [gI_ne2 _ _ _ (by decide)]; exact h.2.2.2.1)
    have g19 : (setI σ 0 19 (I j)).1 0 19 = I j := gI_same _ _ _ _
    have g14 : (setI σ 0 19 (I j)).1 0 14 = I c := by rw [gI_ne2 _ _ _ (by decide)]; exact h14
    have g6 : (setI σ 0 19 (I j)).1 6 = σ.1 6 := gI_ne1 _ _ _ (by decide)
    have g12 : (setI σ 0 19 (I j)).1 12 = sM0.1 12 := by rw [gI_ne1 _ _ _ (by decide)]; exact h12
    have g13 : (setI σ 0 19 (I j)).1 13 = sM0.1 13 := by rw [gI_ne1 _ _ _ (by decide)]; exact h13
    generalize setI σ 0 19 (I j) = τ at f0 r0 g19 g14 g6 g12 g13 ⊢
    unfold rM_readRule_25
    rw [nmE, ev, chk_t (ib_I (by omega) (by omega)), I_cl (by omega), g6]
    by_cases hbit : bit = 0
    · rw [h0 hbit, brc_t (by decide), nmE, r0.2.2.1, I1, I_add, chk_t (ib_I (by omega) (by omega)), nmE, gI_ne2 _ _ _ (show (14 : Nat) ≠ 7 by decide), g14]
      have r1 : RM n tp N (k + 1) 0 (setI (setI τ 0 7 (I (k + 1))) 6 (166 + j) (I c)) := RM_6 (RM_k r0 (wd_in r0 (by omega))) _ _
      have s1 : LSt n tp N b c (k + 1) 0 (setI (setI τ 0 7 (I (k + 1))) 6 (166 + j) (I c)) := by
        refine ⟨r1, ?_, ?_, ?_, ?_⟩
        · rw [gI_ne1 _ _ _ (by decide), gI_ne2 _ _ _ (by decide)]; exact g14
        · rw [gI_ne1 _ _ _ (by decide), gI_ne2 _ _ _ (by decide), g19]
          rcases hj with ⟨rfl, rfl⟩ | ⟨rfl, rfl⟩ <;> rfl
        · rw [gI_ne1 _ _ _ (by decide), gI_ne1 _ _ _ (by decide)]; exact g12
        · rw [gI_ne1 _ _ _ (by decide), gI_ne1 _ _ _ (by decide)]; exact g13
      have f1 : ruM c j σ (setI (setI τ 0 7 (I (k + 1))) 6 (166 + j) (I c)) := ruM_tr f0 ⟨fun i a b _ _ => by rw [gI_ne1 _ _ _ b, gI_ne1 _ _ _ a], fun q a => by rw [gI_ne2 _ _ _ a, gI_ne1 _ _ _ (by decide)], fun q a _ _ _ => by rw [gI_ne1 _ _ _ (by decide), gI_ne2 _ _ _ a], fun q _ => ⟨by rw [gI_ne1 _ _ _ (by decide), gI_ne1 _ _ _ (by decide)], by rw [gI_ne1 _ _ _ (by decide), gI_ne1 _ _ _ (by decide)]⟩, rfl⟩
      have c6 : (setI (setI τ 0 7 (I (k + 1))) 6 (166 + j) (I c)).1 6 (166 + j) = I c := gI_same _ _ _ _
      generalize setI (setI τ 0 7 (I (k + 1))) 6 (166 + j) (I c) = υ at r1 s1 f1 c6 ⊢
      refine wp_bnd1 (wp_mono (eM_all (d := 0) hw (eM_takePart hw hb 5 0 8 rfl (by omega)) (by omega) s1 (by omega)) ?_)
      rintro ω ⟨f2, ⟨k', E, ⟨p1, p2, p3, p4, p5, p6⟩, p7⟩ | ⟨k2, c2, f, kf, q1, q2, q3, q4, q5, q6⟩⟩
      · have hk' := p1.1.2.1
        refine wp_bnd1 (wp_mono (eM_emit p1 (by omega) 0 0) ?_)
        rintro ζ ⟨f3, s3, c8, c9⟩
        refine wp_some ⟨ruM_tr f1 (ruM_tr (ruM_lw f2 (Nat.le_refl _)) (ruM_lw f3 (by omega))), Or.inr ⟨hbit, Or.inl ⟨k', E, s3.1, s3.2.1, p2, ?_, EM_lw p4 f3 (Nat.le_refl _), ?_, HP_w p5 (by omega), p6, p7⟩⟩⟩
        · rw [f3.1 6 (by decide) (by decide) (by decide), f2.1 6 (by decide) (by decide) (by decide)]; exact c6
        · rw [show 1100 + c + E.length = 1100 + (c + E.length) by omega, c8]; rfl
      · have hk' := q1.1.2.1
        refine wp_bnd1 (wp_mono (eM_emit q1 (by omega) 0 0) ?_)
        rintro ζ ⟨f3, s3, -, -⟩
        exact wp_some ⟨ruM_tr f1 (ruM_tr (ruM_lw f2 (Nat.le_refl _)) (ruM_lw f3 (by omega))), Or.inr ⟨hbit, Or.inr ⟨k2, f, kf, s3.1, q4, q5, q6⟩⟩⟩
    · obtain ⟨a, ha, ea⟩ := h1 hbit
      rw [ea, brc_f (by rw [I0, I_lt (by omega) (by omega)]; omega), litN, eM_wrong r0, bnd1S]
      exact wp_some ⟨ruM_tr f0 (ruM_lw (lwM_rd (frO_f frO_refl _ (by decide))) (Nat.le_refl c)), Or.inl ⟨hbit, RM_F r0 _⟩⟩
  unfold rM_readRule
  rw [e12, bnd2S, chk_t (decide_eq_true (by rcases hj with ⟨rfl, -⟩ | ⟨rfl, -⟩ <;> decide)), nmE, gI_same]
  rcases hj with ⟨rfl, rfl⟩ | ⟨rfl, rfl⟩
  · rw [brc_t (by decide)]
    exact main
  · rw [brc_f (by decide)]
    exact main
/-! a law's line in the class -/
theorem Kn_eq {σ τ : St} (h : τ.2.2.2 = σ.2.2.2) : Kn τ = Kn σ := by
  unfold Kn
  rw [h]
theorem XS_map {out : List Nat} {σ : St} (h : XS out σ) : (List.range out.length).map (σ.1 21) = out.map cX := by
  apply List.ext_getElem
  · simp
  · intro i h1 h2
    have hi : i < out.length := by simpa using h1
    have h3 := h i hi
    rw [List.getD_eq_getElem?_getD, List.getElem?_eq_getElem hi] at h3
    simp
    exact h3
def ruX (j : Nat) (σ τ : St) : Prop := (∀ i, i ≠ 5 → i ≠ 7 → i ≠ 20 → i ≠ 21 → i ≠ 22 → τ.1 i = σ.1 i) ∧ (∀ q, q ≠ 1 → q ≠ 4 → q ≠ 5 → τ.1 5 q = σ.1 5 q) ∧ (∀ i, i ≠ 5 → τ.2.1 i = σ.2.1 i) ∧ (∀ i, i ≠ 5 → ∀ q, ¬ (i = 10 ∧ q = 12 + j) → τ.2.2.1 i q = σ.2.2.1 i q)
theorem ruX_tr {j : Nat} {σ τ υ : St} (h1 : ruX j σ τ) (h2 : ruX j τ υ) : ruX j σ υ :=
  ⟨fun i a b c d e => (h2.1 i a b c d e).trans (h1.1 i a b c d e), fun q a b c => (h2.2.1 q a b c).trans (h1.2.1 q a b c), fun i h => (h2.2.2.1 i h).trans (h1.2.2.1 i h), fun i h q g => (h2.2.2.2 i h q g).trans (h1.2.2.2 i h q g)⟩
theorem ruX_lx {j : Nat} {σ τ : St} (h : lxX σ τ) : ruX j σ τ := ⟨fun i a _ b c d => h.1 i a b c d, h.2.1, h.2.2.1, fun i a q _ => by rw [h.2.2.2.1 i a]⟩
theorem ruX_7 {j : Nat} {σ : St} (q : Nat) (v : Int32) : ruX j σ (setI σ 7 q v) := ⟨fun i _ a _ _ _ => gI_ne1 _ _ _ a, fun q _ _ _ => by rw [gI_ne1 _ _ _ (by decide)], fun _ _ => rfl, fun _ _ _ _ => rfl⟩
theorem eX_rreadLaw {n : Nat} {tp : Nat → Nat} (hw : wfP n tp) {N b j k o hb k0 mc ms f kf : Nat} {E : List Nat} {σ : St} (hj : (j = 0 ∧ b = 0) ∨ (j = 1 ∧ b = 5)) (hk : KX n tp k σ) (hkN : k + 1 ≤ N) (hN : N ≤ 1000) (hE : ps n tp N = n) (ho : o < 32) (h5 : σ.1 7 5 = I o) (hP : XN σ) (hk0 : k0 ≤ Kn σ) (hmc : Kn σ - k0 ≤ mc ∧ 1000 * (Kn σ - k0) ≤ ms) (hsy : o / 2 ^ j % 2 = 0 → ∃ m, syR (tW n tp) (tV n tp) b m (k + 1, true, [], []) = .inr (f, kf, E)) (hf5 : f < 20000) (hmc1 : o / 2 ^ j % 2 = 0 → f = 0 → Kn σ + 1 - k0 ≤ mc ∧ 1000 * (Kn σ + 1 - k0) ≤ ms) : wp (rX_rreadLaw hb k0 mc ms (vB b) σ) (fun r => ruX j σ r.2 ∧ ((¬ o / 2 ^ j % 2 = 0 ∧ r.1 = 0 ∧ r.2.1 7 4 = I (3 + 16 * ps n tp k) ∧ r.2.2.2.2 = σ.2.2.2 ∧ r.2.2.2.1 10 = σ.2.2.1 10) ∨ (o / 2 ^ j % 2 = 0 ∧ ((f = 0 ∧ r.1 = 1 ∧ KX n tp kf r.2 ∧ r.2.1 7 5 = I (o ||| 2 ^ j) ∧ r.2.2.2.1 10 (12 + j) = Kn σ + 2 ∧ r.2.2.2.2 = σ.2.2.2 ++ [(hb + Kn σ, E.map cX)]) ∨ (0 < f ∧ r.1 = 0 ∧ r.2.1 7 4 = I (f + 16 * ps n tp kf) ∧ r.2.2.2.2 = σ.2.2.2 ∧ r.2.2.2.1 10 = σ.2.2.1 10))))) := by
  have hb9 : b = 0 ∨ b = 5 := by omega
  have hj2 : j < 2 := by omega
  have main : wp (rX_rreadLaw_10 hb k0 mc ms (vB b) (I (2 ^ j)) σ) (fun r => ruX j σ r.2 ∧ ((¬ o / 2 ^ j % 2 = 0 ∧ r.1 = 0 ∧ r.2.1 7 4 = I (3 + 16 * ps n tp k) ∧ r.2.2.2.2 = σ.2.2.2 ∧ r.2.2.2.1 10 = σ.2.2.1 10) ∨ (o / 2 ^ j % 2 = 0 ∧ ((f = 0 ∧ r.1 = 1 ∧ KX n tp kf r.2 ∧ r.2.1 7 5 = I (o ||| 2 ^ j) ∧ r.2.2.2.1 10 (12 + j) = Kn σ + 2 ∧ r.2.2.2.2 = σ.2.2.2 ++ [(hb + Kn σ, E.map cX)]) ∨ (0 < f ∧ r.1 = 0 ∧ r.2.1 7 4 = I (f + 16 * ps n tp kf) ∧ r.2.2.2.2 = σ.2.2.2 ∧ r.2.2.2.1 10 = σ.2.2.1 10))))) := by
    unfold rX_rreadLaw_10
    rw [eX_isFirst hk ho (by omega) h5]
    by_cases h0 : o / 2 ^ j % 2 = 0
    · obtain ⟨m, hm⟩ := hsy h0
      rw [if_pos h0, bnd2S, chk_t (decide_eq_true ⟨rfl, hmc⟩), brc_t (by decide)]
      have k1 := KX_7 hk (i := 7) (j := 5) (I (o ||| 2 ^ j)) (by decide) (by decide)
      have f1 : ruX j σ (setI σ 7 5 (I (o ||| 2 ^ j))) := ruX_7 _ _
      have g5 : (setI σ 7 5 (I (o ||| 2 ^ j))).1 7 5 = I (o ||| 2 ^ j) := gI_same _ _ _ _
      have gK : (setI σ 7 5 (I (o ||| 2 ^ j))).2.2.2 = σ.2.2.2 := rfl
      have gP : (setI σ 7 5 (I (o ||| 2 ^ j))).2.2.1 10 = σ.2.2.1 10 := rfl
      generalize setI σ 7 5 (I (o ||| 2 ^ j)) = τ1 at k1 f1 g5 gK gP ⊢
      refine wp_bnd1 (wp_mono (eX_step hw k1) ?_)
      rintro τ2 ⟨t2, k2⟩
      have K1 : Kn τ1 = Kn σ := Kn_eq gK
      have K2 : Kn τ2 = Kn τ1 := Kn_eq t2.2.2.2.2
      rw [chk_t (decide_eq_true ⟨K2, by rw [K1]; exact hmc⟩)]
      refine wp_bnd2 (wp_mono (eX_lreadLaw hw hb9 (by omega) hkN hN hE k2 hm) ?_)
      rintro ⟨r, τ3⟩ ⟨a1, a2, a3, a4⟩
      have a1' : r = I f := a1
      subst a1'
      have K3 : Kn τ3 = Kn τ2 := Kn_eq a2.2.2.2.2
      have K3' : Kn τ3 = Kn σ := by omega
      show wp (chk (decide (Kn τ3 = Kn τ2 ∧ Kn τ2 - k0 ≤ mc ∧ 1000 * (Kn τ2 - k0) ≤ ms)) (nm (I f) fun v2_9 => brc (v2_9 = 0) (brc (vB b = 0) (bnd2 (rX_made hb τ3) fun r_12 σ_10 => chk (decide (k0 ≤ Kn τ3 ∧ Kn τ3 ≤ Kn σ_10 ∧ Kn σ_10 - k0 ≤ mc ∧ 1000 * (Kn σ_10 - k0) ≤ ms)) (nm (setP σ_10 10 13 r_12) fun σ_13 => rX_rreadLaw_79 hb k0 mc ms σ_13)) (bnd2 (rX_made hb τ3) fun r_16 σ_14 => chk (decide (k0 ≤ Kn τ3 ∧ Kn τ3 ≤ Kn σ_14 ∧ Kn σ_14 - k0 ≤ mc ∧ 1000 * (Kn σ_14 - k0) ≤ ms)) (nm (setP σ_14 10 12 r_16) fun σ_17 => rX_rreadLaw_79 hb k0 mc ms σ_17))) (bnd2 (rX_wrong v2_9 τ3) fun r_20 σ_18 => chk (decide (Kn σ_18 = Kn τ3 ∧ Kn τ3 - k0 ≤ mc ∧ 1000 * (Kn τ3 - k0) ≤ ms)) (chk (decide (r_20 = 0 ∨ r_20 = 1)) (some (r_20, σ_18)))))) _
      rw [chk_t (decide_eq_true ⟨K3, by rw [K2, K1]; exact hmc⟩), nmE]
      have fr3 : ruX j σ τ3 := ruX_tr f1 (ruX_tr (ruX_lx (lxX_tk t2)) (ruX_lx a2))
      have P3 : τ3.2.2.1 10 = σ.2.2.1 10 := by rw [a2.2.2.2.1 10 (by decide), t2.2.2.2.1 10 (by decide), gP]
      have L3 : τ3.2.2.2 = σ.2.2.2 := by rw [a2.2.2.2.2, t2.2.2.2.2, gK]
      have o3 : τ3.1 7 5 = I (o ||| 2 ^ j) := by
        rw [a2.1 7 (by decide) (by decide) (by decide) (by decide), t2.1 7 (by decide)]; exact g5
      refine wp_brc (fun hf0 => ?_) (fun hf0 => ?_)
      · rw [I0, I_inj (by omega) (by omega)] at hf0
        obtain ⟨b1, b2, b3⟩ := a4 hf0
        have b1' : τ3.1 20 3 = I E.length := b1
        have hmade : rX_made hb τ3 = some (Kn σ + 2, appK τ3 (hb + Kn σ) (E.map cX)) := by
          unfold rX_made rX_copyOf
          have hpk : Pok τ3 = true := by
            have : XN σ := hP
            unfold XN Pok at this
            unfold Pok
            rw [P3, K3', show τ3.2.2.1 23 = σ.2.2.1 23 by rw [a2.2.2.2.1 23 (by decide), t2.2.2.2.1 23 (by decide)]; exact funext (fun q => f1.2.2.2 23 (by decide) q (by omega))]
            exact this
          rw [b1', hpk, I_cl (by omega), decide_eq_true (show ¬ I E.length < 0 ∧ E.length < 1000 from ⟨by rw [I0, I_lt (by omega) (by omega)]; omega, b3⟩), XS_map b2, K3']
          rfl
        have KA : Kn (appK τ3 (hb + Kn σ) (E.map cX)) = Kn σ + 1 := by rw [Kn_app, K3']
        have hm1 := hmc1 h0 hf0
        have fin : ∀ q, q = 12 + j → wp (chk (decide (k0 ≤ Kn τ3 ∧ Kn τ3 ≤ Kn (appK τ3 (hb + Kn σ) (E.map cX)) ∧ Kn (appK τ3 (hb + Kn σ) (E.map cX)) - k0 ≤ mc ∧ 1000 * (Kn (appK τ3 (hb + Kn σ) (E.map cX)) - k0) ≤ ms)) (nm (setP (appK τ3 (hb + Kn σ) (E.map cX)) 10 q (Kn σ + 2)) fun σ_17 => rX_rreadLaw_79 hb k0 mc ms σ_17)) (fun r => ruX j σ r.2 ∧ ((¬ o / 2 ^ j % 2 = 0 ∧ r.1 = 0 ∧ r.2.1 7 4 = I (3 + 16 * ps n tp k) ∧ r.2.2.2.2 = σ.2.2.2 ∧ r.2.2.2.1 10 = σ.2.2.1 10) ∨ (o / 2 ^ j % 2 = 0 ∧ ((f = 0 ∧ r.1 = 1 ∧ KX n tp kf r.2 ∧ r.2.1 7 5 = I (o ||| 2 ^ j) ∧ r.2.2.2.1 10 (12 + j) = Kn σ + 2 ∧ r.2.2.2.2 = σ.2.2.2 ++ [(hb + Kn σ, E.map cX)]) ∨ (0 < f ∧ r.1 = 0 ∧ r.2.1 7 4 = I (f + 16 * ps n tp kf) ∧ r.2.2.2.2 = σ.2.2.2 ∧ r.2.2.2.1 10 = σ.2.2.1 10))))) := fun q hq => by
          subst hq
          rw [KA, chk_t (decide_eq_true ⟨by omega, by omega, hm1.1, hm1.2⟩), nmE]
          unfold rX_rreadLaw_79
          rw [chk_t (by decide)]
          refine wp_some ⟨ruX_tr fr3 ⟨fun _ _ _ _ _ _ => rfl, fun _ _ _ _ => rfl, fun _ _ => rfl, fun i _ q' hq' => if_neg (fun h9 => hq' ⟨h9.1, h9.2⟩)⟩, Or.inr ⟨h0, Or.inl ⟨hf0, rfl, ?_, o3, gP_same _ _ _ _, ?_⟩⟩⟩
          · obtain ⟨⟨z1, z2⟩, z3, z4, z5, z6, z7, z8⟩ := a3
            refine ⟨⟨z1, z2⟩, z3, z4, z5, ?_, z7, z8⟩
            show (if (5 : Nat) = 10 ∧ 3 = 12 + j then Kn σ + 2 else τ3.2.2.1 5 3) = _
            rw [if_neg (by omega)]
            exact z6
          · show τ3.2.2.2 ++ [(hb + Kn σ, E.map cX)] = _
            rw [L3]
        rcases hj with ⟨rfl, rfl⟩ | ⟨rfl, rfl⟩
        · rw [brc_f (by decide), hmade, bnd2S]
          exact fin 12 rfl
        · rw [brc_t (by decide), hmade, bnd2S]
          exact fin 13 rfl
      · rw [I0, I_inj (by omega) (by omega)] at hf0
        rw [eX_wrong a3, bnd2S, chk_t (decide_eq_true ⟨rfl, by rw [K3']; exact hmc⟩), chk_t (by decide)]
        exact wp_some ⟨ruX_tr fr3 (ruX_7 _ _), Or.inr ⟨h0, Or.inr ⟨by omega, rfl, gI_same _ _ _ _, L3, P3⟩⟩⟩
    · rw [if_neg h0, bnd2S, chk_t (decide_eq_true ⟨rfl, hmc⟩), brc_f (by decide), chk_t (by decide)]
      exact wp_some ⟨ruX_7 _ _, Or.inl ⟨h0, rfl, gI_same _ _ _ _, rfl, rfl⟩⟩
  unfold rX_rreadLaw
  rcases hj with ⟨rfl, rfl⟩ | ⟨rfl, rfl⟩
  · rw [brc_f (by decide)]
    exact main
  · rw [brc_t (by decide)]
    exact main
