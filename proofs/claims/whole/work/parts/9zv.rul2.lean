/-! laws: products, sums, tests, all, in the reference -/
theorem LG_rd {n : Nat} {tp : Nat → Nat} {N b lv d k c k' : Nat} {τ τ1 : St} {E : List Nat} (h : LGood n tp N b lv d k c τ k' E) (f : rdM τ τ1) (r : RM n tp N k' 0 τ1) : LGood n tp N b lv d k c τ1 k' E :=
  ⟨LSt_rd h.1 f r, h.2.1, h.2.2.1, EM_lw h.2.2.2.1 (lwM_rd (c := c + E.length) f) (Nat.le_refl _), h.2.2.2.2.1, h.2.2.2.2.2⟩
theorem LB_hs {n : Nat} {tp : Nat → Nat} {N b lv d k c : Nat} {τ : St} (h : LBad n tp N b lv d k c τ) (v : Int32) : wp (rM_hasSign v τ) (fun r => r.1 = 0 ∧ rdM τ r.2 ∧ LBad n tp N b lv d k c r.2) := by
  obtain ⟨k', c', f, kf, a1, a2, a3, a4, a5, a6⟩ := h
  refine wp_mono (eM_hasSignF a1.1 (by omega) v) ?_
  rintro r ⟨b1, b2, b3⟩
  exact ⟨b1, b2, k', c', f, kf, LSt_rd a1 b2 b3, a2, a3, a4, a5, a6⟩
theorem LB_is {n : Nat} {tp : Nat → Nat} {N b lv d k c : Nat} {τ : St} (h : LBad n tp N b lv d k c τ) (v : Int32) : rM_isSign v τ = some (0, τ) := by
  obtain ⟨k', c', f, kf, a1, a2, a3, a4, a5, a6⟩ := h
  exact eM_isSignF a1.1 (by omega) v
theorem LB_iw {n : Nat} {tp : Nat → Nat} {N b lv d k c : Nat} {τ : St} (h : LBad n tp N b lv d k c τ) (v : Int32) : rM_isWord v τ = some (0, τ) := by
  obtain ⟨k', c', f, kf, a1, a2, a3, a4, a5, a6⟩ := h
  exact eM_isWordF a1.1 (by omega) v
theorem eM_prodL {n : Nat} {tp : Nat → Nat} (hw : wfP n tp) {N b d : Nat} {tq : Int32 → St → Option St} (hq : TPok n tp N b d tq) (hd : d ≤ 5) {k c : Nat} {σ : St} (hc : c ≤ k) {τ : St} (f : lwM c σ τ) (hs : (∃ k' E, LGood n tp N b 4 d k c τ k' E) ∨ LBad n tp N b 4 d k c τ) : wp (lp (rM_products_5L tq) fu (I d, τ)) (LQ n tp N b 4 d k c σ) := by
  have hst : ∃ m, m < fu ∧ ((∃ k' E, LGood n tp N b 4 d k c τ k' E ∧ m = N + 1 - k') ∨ LBad n tp N b 4 d k c τ) := by
    rcases hs with ⟨k', E, hg⟩ | hb
    · exact ⟨N + 1 - k', by have := hg.1.1.1.1; unfold fu; omega, Or.inl ⟨k', E, hg, rfl⟩⟩
    · exact ⟨0, by unfold fu; omega, Or.inr hb⟩
  obtain ⟨m0, hm0, hs0⟩ := hst
  refine wp_lp (fun m a => ∃ τ, a = (I d, τ) ∧ lwM c σ τ ∧ ((∃ k' E, LGood n tp N b 4 d k c τ k' E ∧ m = N + 1 - k') ∨ LBad n tp N b 4 d k c τ)) ?_ fu m0 _ hm0 ⟨τ, rfl, f, hs0⟩
  clear hs0 hm0 hs f
  rintro m a kk ⟨τ, rfl, f, hgb⟩ hgo
  show wp (rM_products_5 tq (fun v1 σ => kk (v1, σ)) (I d) τ) _
  unfold rM_products_5
  rcases hgb with ⟨k', E, hg, hm⟩ | hb
  · have hr := hg.1.1
    refine wp_bnd2 (wp_mono (eM_hasSign hw hr (c := 42) (by decide)) ?_)
    rintro ⟨r, τ1⟩ ⟨f1, ⟨a, b', r1⟩ | ⟨a, b', r1⟩⟩
    · have b'' : r = 1 := b'
      subst b''
      have a29 : tW n tp k' = 29 := a.trans (by decide)
      have hj : ¬ jnC (tW n tp k') = 0 := by rw [a29]; decide
      have hrk : rkC (jnC (tW n tp k')) = 4 := by rw [a29]; decide
      show wp (brc ((1 : Int32) = 0) _ _) _
      rw [brc_f (by decide)]
      have s1 : LSt n tp N b (c + E.length) (k' + 1) 0 τ1 := LSt_rd hg.1 f1 r1
      have hl := hg.2.1
      refine wp_bnd1 (wp_mono (hq (k' + 1) (c + E.length) τ1 s1 (by omega)) ?_)
      rintro τ2 ⟨f2, ⟨k'', E2, p1, p2, p3, p4, p5, p6⟩ | ⟨k2, c2, ff, kf, q1, q2, q3, q4, q5, q6⟩⟩
      · refine wp_bnd1 (wp_mono (LG_j (o := 6) hc ⟨by omega, by omega⟩ hd f hg (lwM_rd f1) f2 hj hrk (by omega) p1 p2 p4 p5 (MG_p (by omega) p6) (by rw [a29]; decide)) ?_)
        rintro τ3 ⟨f3, g3⟩
        exact hgo (N + 1 - k'') _ (by have := p1.1.2.1; omega) ⟨τ3, rfl, f3, Or.inl ⟨k'', _, g3, rfl⟩⟩
      · refine wp_bnd1 (wp_mono (LB_j hc (by omega) f hg (lwM_rd f1) f2 hj hrk (by omega) ⟨k2, c2, ff, kf, q1, q2, q3, q4, q5, MB_p q6⟩ 6) ?_)
        rintro τ3 ⟨f3, g3⟩
        exact hgo 0 _ (by have := hr.2.1; omega) ⟨τ3, rfl, f3, Or.inr g3⟩
    · have b'' : r = 0 := b'
      subst b''
      show wp (brc ((0 : Int32) = 0) _ _) _
      rw [brc_t rfl]
      exact wp_some ⟨lwM_tr f (lwM_rd f1) (Nat.le_refl _), Or.inl ⟨k', E, LG_rd hg f1 r1, fun _ h9 => a (h9.trans (by decide)), fun h9 => absurd h9 (by omega), fun h9 => absurd h9 (by omega)⟩⟩
  · refine wp_bnd2 (wp_mono (LB_hs hb _) ?_)
    rintro ⟨r, τ1⟩ ⟨b', f1, hb1⟩
    have b'' : r = 0 := b'
    subst b''
    show wp (brc ((0 : Int32) = 0) _ _) _
    rw [brc_t rfl]
    exact wp_some ⟨lwM_tr f (lwM_rd f1) (Nat.le_refl _), Or.inr hb1⟩
theorem eM_products {n : Nat} {tp : Nat → Nat} (hw : wfP n tp) {N b d : Nat} {tq : Int32 → St → Option St} (hq : TPok n tp N b d tq) (hd : d ≤ 5) {k c : Nat} {σ : St} (h : LSt n tp N b c k 0 σ) (hc : c ≤ k) : wp (rM_products tq (I d) σ) (LQ n tp N b 4 d k c σ) := by
  unfold rM_products
  refine wp_bnd1 (wp_mono (hq k c σ h hc) ?_)
  rintro τ ⟨f, ⟨k', E, p1, p2, p3, p4, p5, p6⟩ | ⟨k2, c2, ff, kf, q1, q2, q3, q4, q5, q6⟩⟩
  · exact eM_prodL hw hq hd hc f (Or.inl ⟨k', E, p1, p2, p3, p4, HP_w p5 (by omega), MG_p (by omega) p6⟩)
  · exact eM_prodL hw hq hd hc f (Or.inr ⟨k2, c2, ff, kf, q1, q2, q3, q4, q5, MB_p q6⟩)
/-! sums -/
theorem eM_sums23 {n : Nat} {tp : Nat → Nat} (hw : wfP n tp) {N b d : Nat} {tq : Int32 → St → Option St} (hq : TPok n tp N b d tq) (hd : d ≤ 5) {k c k' : Nat} {σ τ : St} {E : List Nat} (hc : c ≤ k) (f : lwM c σ τ) (hg : LGood n tp N b 3 d k c τ k' E) (ht : tW n tp k' = 27 ∨ tW n tp k' = 28) {K : Int32 → St → Option St} {Q : St → Prop} (hG : ∀ τ3 k'' E3, lwM c σ τ3 → LGood n tp N b 3 d k c τ3 k'' E3 → k' < k'' → tc 4 (tW n tp k'') → wp (K (I d) τ3) Q) (hB : ∀ τ3, lwM c σ τ3 → LBad n tp N b 3 d k c τ3 → wp (K (I d) τ3) Q) : wp (rM_sums_23 tq K (I d) τ) Q := by
  have hr := hg.1.1
  have e43 : rM_isSign (43 : Int32) τ = some (if tW n tp k' = 27 then 1 else 0, τ) := eM_isSign hw hr (c := 43) (by decide)
  have hj : ¬ jnC (tW n tp k') = 0 := by rcases ht with h | h <;> rw [h] <;> decide
  have hrk : rkC (jnC (tW n tp k')) = 3 := by rcases ht with h | h <;> rw [h] <;> decide
  have hl := hg.2.1
  have f1 : rdM τ (setI τ 0 7 (I (k' + 1))) := frO_f frO_refl _ (by decide)
  have r1 := RM_k hr (wd_in hr (by omega))
  have s1 : LSt n tp N b (c + E.length) (k' + 1) 0 (setI τ 0 7 (I (k' + 1))) := LSt_rd hg.1 f1 r1
  unfold rM_sums_23 rM_sums_55
  rw [e43, bnd2S, nmE, nmE, hr.2.2.1, I1, I_add]
  generalize setI τ 0 7 (I (k' + 1)) = τ1 at f1 r1 s1 ⊢
  refine wp_bnd1 (wp_mono (eM_products hw hq hd s1 (by omega)) ?_)
  rintro τ2 ⟨f2, ⟨k'', E2, ⟨p1, p2, p3, p4, p5, p6⟩, p7⟩ | hb⟩
  · have fin : ∀ o, o = mOp (jnC (tW n tp k')) → wp (bnd1 (rM_emit (I o) (I 0) τ2) fun σ_13 => K (I d) σ_13) Q := fun o ho => by
      refine wp_bnd1 (wp_mono (LG_j hc ⟨by omega, by omega⟩ hd f hg (lwM_rd f1) f2 hj hrk (by omega) p1 p2 p4 (HP_w p5 (by omega)) p6 ho) ?_)
      rintro τ3 ⟨f3, g3⟩
      exact hG τ3 k'' _ f3 g3 (by omega) p7
    rcases ht with h | h
    · rw [if_pos h, brc_f (by decide)]
      exact fin 4 (by rw [h]; decide)
    · rw [if_neg (by omega), brc_t rfl]
      exact fin 5 (by rw [h]; decide)
  · have fin : ∀ o, wp (bnd1 (rM_emit (I o) (I 0) τ2) fun σ_13 => K (I d) σ_13) Q := fun o => by
      refine wp_bnd1 (wp_mono (LB_j hc (by omega) f hg (lwM_rd f1) f2 hj hrk (by omega) hb o) ?_)
      rintro τ3 ⟨f3, g3⟩
      exact hB τ3 f3 g3
    rcases ht with h | h
    · rw [if_pos h, brc_f (by decide)]
      exact fin 4
    · rw [if_neg (by omega), brc_t rfl]
      exact fin 5
theorem eM_sums {n : Nat} {tp : Nat → Nat} (hw : wfP n tp) {N b d : Nat} {tq : Int32 → St → Option St} (hq : TPok n tp N b d tq) (hd : d ≤ 5) {k c : Nat} {σ : St} (h : LSt n tp N b c k 0 σ) (hc : c ≤ k) : wp (rM_sums tq (I d) σ) (LQ n tp N b 3 d k c σ) := by
  unfold rM_sums
  refine wp_bnd1 (wp_mono (eM_products hw hq hd h hc) ?_)
  rintro τ ⟨f, hs⟩
  have hst : ∃ m, m < fu ∧ ((∃ k' E, LGood n tp N b 3 d k c τ k' E ∧ tc 4 (tW n tp k') ∧ m = N + 1 - k') ∨ LBad n tp N b 3 d k c τ) := by
    rcases hs with ⟨k', E, ⟨p1, p2, p3, p4, p5, p6⟩, p7⟩ | hb
    · exact ⟨N + 1 - k', by have := p1.1.1.1; unfold fu; omega, Or.inl ⟨k', E, ⟨p1, p2, p3, p4, HP_w p5 (by omega), MG_w (fun h9 => absurd h9 (by omega)) p6⟩, p7, rfl⟩⟩
    · exact ⟨0, by unfold fu; omega, Or.inr (LB_w hb)⟩
  obtain ⟨m0, hm0, hs0⟩ := hst
  refine wp_lp (fun m a => ∃ τ, a = (I d, τ) ∧ lwM c σ τ ∧ ((∃ k' E, LGood n tp N b 3 d k c τ k' E ∧ tc 4 (tW n tp k') ∧ m = N + 1 - k') ∨ LBad n tp N b 3 d k c τ)) ?_ fu m0 _ hm0 ⟨τ, rfl, f, hs0⟩
  clear hs0 hm0 hs f
  rintro m a kk ⟨τ, rfl, f, hgb⟩ hgo
  show wp (rM_sums_5 tq (fun v1 σ => kk (v1, σ)) (I d) τ) _
  unfold rM_sums_5
  rcases hgb with ⟨k', E, hg, ht4, hm⟩ | hb
  · have hr := hg.1.1
    have e43 : rM_isSign (43 : Int32) τ = some (if tW n tp k' = 27 then 1 else 0, τ) := eM_isSign hw hr (c := 43) (by decide)
    have e45 : rM_isSign (45 : Int32) τ = some (if tW n tp k' = 28 then 1 else 0, τ) := eM_isSign hw hr (c := 45) (by decide)
    have hkN := hr.2.1
    have go : (tW n tp k' = 27 ∨ tW n tp k' = 28) → wp (rM_sums_23 tq (fun v1 σ => kk (v1, σ)) (I d) τ) (LQ n tp N b 3 d k c σ) := fun ht =>
      eM_sums23 hw hq hd hc f hg ht (fun τ3 k'' E3 f3 g3 hk h4 => hgo (N + 1 - k'') _ (by have := g3.1.1.2.1; omega) ⟨τ3, rfl, f3, Or.inl ⟨k'', E3, g3, h4, rfl⟩⟩) (fun τ3 f3 g3 => hgo 0 _ (by omega) ⟨τ3, rfl, f3, Or.inr g3⟩)
    rw [e43, bnd2S]
    by_cases h27 : tW n tp k' = 27
    · rw [if_pos h27, brc_t (by decide)]
      exact go (Or.inl h27)
    · rw [if_neg h27, brc_f (by decide), e45, bnd2S]
      by_cases h28 : tW n tp k' = 28
      · rw [if_pos h28, brc_f (by decide)]
        exact go (Or.inr h28)
      · rw [if_neg h28, brc_t rfl]
        exact wp_some ⟨f, Or.inl ⟨k', E, hg, fun _ => ht4.1 (by omega), fun _ => ⟨h27, h28⟩, fun h9 => absurd h9 (by omega)⟩⟩
  · rw [LB_is hb, bnd2S, brc_f (by decide), LB_is hb, bnd2S, brc_t rfl]
    exact wp_some ⟨f, Or.inr hb⟩
/-! tests -/
theorem LG_j2 {n : Nat} {tp : Nat → Nat} {N b d k c k' k'' : Nat} {τ τ1 τ2 : St} {E E2 : List Nat} {σ : St} (hc : c ≤ k) (hd : d ≤ 5) (f0 : lwM c σ τ) (hg : LGood n tp N b 3 d k c τ k' E) (f1 : lwM (c + E.length) τ τ1) (f2 : lwM (c + E.length) τ1 τ2) (hj : ¬ jnC (tW n tp k') = 0) (hr : rkC (jnC (tW n tp k')) = 2) (hs : LGood n tp N b 3 d (k' + 1) (c + E.length) τ2 k'' E2) {o : Nat} (ho : o = mOp (jnC (tW n tp k'))) : wp (rM_emit (I o) (I 0) τ2) (fun τ3 => lwM c σ τ3 ∧ LGood n tp N b 2 d k c τ3 k'' (E ++ E2 ++ [jnC (tW n tp k')])) := by
  obtain ⟨g1, g2, g3, g4, g5, g6⟩ := hg
  obtain ⟨s1, s2, s3, s4, s5, s6⟩ := hs
  have hN := s1.1.1.1
  have hk := s1.1.2.1
  have hx : 20003 ≤ jnC (tW n tp k') ∧ jnC (tW n tp k') ≤ 20009 := by
    have h9 := jn_rk hj
    have h : ∀ W, W < 30 → 23 ≤ W → 20003 ≤ jnC W ∧ jnC W ≤ 20009 := by decide
    exact h _ (by omega) h9.1
  refine wp_mono (eM_emit s1 (by omega) o 0) ?_
  rintro τ3 ⟨f3, t3, c8, c9⟩
  have hlen : (E ++ E2 ++ [jnC (tW n tp k')]).length = E.length + E2.length + 1 := by simp; omega
  refine ⟨lwM_tr f0 (lwM_tr f1 (lwM_tr f2 f3 (by omega)) (Nat.le_refl _)) (by omega), ?_, by rw [hlen]; omega, by omega, ?_, ?_, MG_j2 g6 hj hr s6⟩
  · rw [hlen, show c + (E.length + E2.length + 1) = c + E.length + E2.length + 1 by omega]
    exact t3
  · refine EM_app _ _ _ (EM_app _ _ _ (EM_lw (EM_lw (EM_lw g4 f1 (Nat.le_refl _)) f2 (Nat.le_refl _)) f3 (by omega)) ?_) ?_
    · rw [show 1100 + c + E.length = 1100 + (c + E.length) by omega]
      exact EM_lw s4 f3 (by omega)
    · rw [List.length_append, show 1100 + c + (E.length + E2.length) = 1100 + (c + E.length + E2.length) by omega]
      exact ⟨by rw [c8, ho], fun h9 => absurd h9 (by omega), trivial⟩
  · exact HP_j (HP_w g5 (by omega)) (HP_w s5 (by omega)) hx (by omega)
theorem LB_j2 {n : Nat} {tp : Nat → Nat} {N b d k c k' : Nat} {τ τ1 τ2 : St} {E : List Nat} {σ : St} (hc : c ≤ k) (f0 : lwM c σ τ) (hg : LGood n tp N b 3 d k c τ k' E) (f1 : lwM (c + E.length) τ τ1) (f2 : lwM (c + E.length) τ1 τ2) (hj : ¬ jnC (tW n tp k') = 0) (hr : rkC (jnC (tW n tp k')) = 2) (hb : LBad n tp N b 3 d (k' + 1) (c + E.length) τ2) (o : Nat) : wp (rM_emit (I o) (I 0) τ2) (fun τ3 => lwM c σ τ3 ∧ LBad n tp N b 2 d k c τ3) := by
  obtain ⟨g1, g2, g3, g4, g5, g6⟩ := hg
  obtain ⟨kk, cc, f, kf, a1, a2, a3, a4, a5, a6⟩ := hb
  have hN := a1.1.1.1
  have hk := a1.1.2.1
  refine wp_mono (eM_emit a1 (by omega) o 0) ?_
  rintro τ3 ⟨f3, s3, -, -⟩
  exact ⟨lwM_tr f0 (lwM_tr f1 (lwM_tr f2 f3 (by omega)) (Nat.le_refl _)) (by omega), kk, cc + 1, f, kf, s3, by omega, by omega, a4, a5, MB_j2 g6 hj hr a6⟩
theorem tc_3 {lv W : Nat} (h : tc 3 W) (hlv : 2 ≤ lv) : tc lv W := ⟨fun _ => h.1 (by omega), fun _ => h.2.1 (by omega), fun h9 => absurd h9 (by omega)⟩
theorem eM_test30 {n : Nat} {tp : Nat → Nat} (hw : wfP n tp) {N b d : Nat} {tq : Int32 → St → Option St} (hq : TPok n tp N b d tq) (hd : d ≤ 5) {k c k' : Nat} {σ τ τ1 : St} {E : List Nat} (hc : c ≤ k) (f : lwM c σ τ) (hg : LGood n tp N b 3 d k c τ k' E) (ht : tW n tp k' = 25 ∨ tW n tp k' = 26) (f1 : rdM τ τ1) (r1 : RM n tp N (k' + 1) 0 τ1) : wp (rM_test_30 tq (I d) (if tW n tp k' = 25 then 1 else 0) τ1) (LQ n tp N b 2 d k c σ) := by
  have hj : ¬ jnC (tW n tp k') = 0 := by rcases ht with h | h <;> rw [h] <;> decide
  have hrk : rkC (jnC (tW n tp k')) = 2 := by rcases ht with h | h <;> rw [h] <;> decide
  have hl := hg.2.1
  have s1 : LSt n tp N b (c + E.length) (k' + 1) 0 τ1 := LSt_rd hg.1 f1 r1
  unfold rM_test_30 rM_test_47 rM_test_51
  refine wp_bnd1 (wp_mono (eM_sums hw hq hd s1 (by omega)) ?_)
  rintro τ2 ⟨f2, ⟨k'', E2, hg2, p7⟩ | hb⟩
  · have fin : ∀ o, o = mOp (jnC (tW n tp k')) → wp (bnd1 (rM_emit (I o) (I 0) τ2) fun σ_12 => some σ_12) (LQ n tp N b 2 d k c σ) := fun o ho => by
      refine wp_bnd1 (wp_mono (LG_j2 hc hd f hg (lwM_rd f1) f2 hj hrk hg2 ho) ?_)
      rintro τ3 ⟨f3, g3⟩
      exact wp_some ⟨f3, Or.inl ⟨k'', _, g3, tc_3 p7 (by omega)⟩⟩
    rcases ht with h | h
    · rw [if_pos h, brc_f (by decide)]
      exact fin 7 (by rw [h]; decide)
    · rw [if_neg (by omega), brc_t rfl]
      exact fin 8 (by rw [h]; decide)
  · have fin : ∀ o, wp (bnd1 (rM_emit (I o) (I 0) τ2) fun σ_12 => some σ_12) (LQ n tp N b 2 d k c σ) := fun o => by
      refine wp_bnd1 (wp_mono (LB_j2 hc f hg (lwM_rd f1) f2 hj hrk hb o) ?_)
      rintro τ3 ⟨f3, g3⟩
      exact wp_some ⟨f3, Or.inr g3⟩
    rcases ht with h | h
    · rw [if_pos h, brc_f (by decide)]
      exact fin 7
    · rw [if_neg (by omega), brc_t rfl]
      exact fin 8
theorem eM_test {n : Nat} {tp : Nat → Nat} (hw : wfP n tp) {N b d : Nat} {tq : Int32 → St → Option St} (hq : TPok n tp N b d tq) (hd : d ≤ 5) {k c : Nat} {σ : St} (h : LSt n tp N b c k 0 σ) (hc : c ≤ k) : wp (rM_test tq (I d) σ) (LQ n tp N b 2 d k c σ) := by
  unfold rM_test
  refine wp_bnd1 (wp_mono (eM_sums hw hq hd h hc) ?_)
  rintro τ ⟨f, ⟨k', E, hg, h3⟩ | hb⟩
  · have hr := hg.1.1
    have e60 : rM_isSign (60 : Int32) τ = some (if tW n tp k' = 25 then 1 else 0, τ) := eM_isSign hw hr (c := 60) (by decide)
    rw [e60, bnd2S, nmE]
    refine wp_bnd2 (wp_mono (eM_hasSign hw hr (c := 60) (by decide)) ?_)
    rintro ⟨r, τ1⟩ ⟨f1, ⟨a, b', r1⟩ | ⟨a, b', r1⟩⟩
    · have b'' : r = 1 := b'
      subst b''
      have a25 : tW n tp k' = 25 := a.trans (by decide)
      show wp (brc (¬ (1 : Int32) = 0) (rM_test_30 tq (I d) (if tW n tp k' = 25 then 1 else 0) τ1) _) _
      rw [brc_t (by decide)]
      exact eM_test30 hw hq hd hc f hg (Or.inl a25) f1 r1
    · have b'' : r = 0 := b'
      subst b''
      have a25 : ¬ tW n tp k' = 25 := fun h9 => a (h9.trans (by decide))
      show wp (brc (¬ (0 : Int32) = 0) _ (bnd2 (rM_hasSign (61 : Int32) τ1) fun r_16 σ_14 => brc (r_16 = 0) (rM_test_51 tq σ_14) (rM_test_30 tq (I d) (if tW n tp k' = 25 then 1 else 0) σ_14))) _
      rw [brc_f (by decide)]
      refine wp_bnd2 (wp_mono (eM_hasSign hw r1 (c := 61) (by decide)) ?_)
      rintro ⟨r, τ2⟩ ⟨f2, ⟨a2, b', r2⟩ | ⟨a2, b', r2⟩⟩
      · have b'' : r = 1 := b'
        subst b''
        have a26 : tW n tp k' = 26 := a2.trans (by decide)
        show wp (brc ((1 : Int32) = 0) _ (rM_test_30 tq (I d) (if tW n tp k' = 25 then 1 else 0) τ2)) _
        rw [brc_f (by decide)]
        exact eM_test30 hw hq hd hc f hg (Or.inr a26) (frO_tr f1 f2) r2
      · have b'' : r = 0 := b'
        subst b''
        have a26 : ¬ tW n tp k' = 26 := fun h9 => a2 (h9.trans (by decide))
        show wp (brc ((0 : Int32) = 0) _ _) _
        rw [brc_t rfl]
        unfold rM_test_51
        have g := LG_rd hg (frO_tr f1 f2) r2
        exact wp_some ⟨lwM_tr f (lwM_rd (frO_tr f1 f2)) (Nat.le_refl _), Or.inl ⟨k', E, ⟨g.1, g.2.1, g.2.2.1, g.2.2.2.1, HP_w g.2.2.2.2.1 (by omega), MG_w (fun _ => by omega) g.2.2.2.2.2⟩, tc_3 h3 (by omega)⟩⟩
  · rw [LB_is hb, bnd2S, nmE]
    refine wp_bnd2 (wp_mono (LB_hs hb _) ?_)
    rintro ⟨r, τ1⟩ ⟨b', f1, hb1⟩
    have b'' : r = 0 := b'
    subst b''
    show wp (brc (¬ (0 : Int32) = 0) _ (bnd2 (rM_hasSign (61 : Int32) τ1) fun r_16 σ_14 => brc (r_16 = 0) (rM_test_51 tq σ_14) _)) _
    rw [brc_f (by decide)]
    refine wp_bnd2 (wp_mono (LB_hs hb1 _) ?_)
    rintro ⟨r, τ2⟩ ⟨b', f2, hb2⟩
    have b'' : r = 0 := b'
    subst b''
    show wp (brc ((0 : Int32) = 0) _ _) _
    rw [brc_t rfl]
    unfold rM_test_51
    exact wp_some ⟨lwM_tr f (lwM_rd (frO_tr f1 f2)) (Nat.le_refl _), Or.inr (LB_w hb2)⟩
