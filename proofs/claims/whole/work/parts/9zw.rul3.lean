/-! laws: all, facts and parts of the reference -/
theorem eM_all23 {n : Nat} {tp : Nat → Nat} (hw : wfP n tp) {N b d : Nat} {tq : Int32 → St → Option St} (hq : TPok n tp N b d tq) (hd : d ≤ 5) {k c k' : Nat} {σ τ : St} {E : List Nat} (hc : c ≤ k) (f : lwM c σ τ) (hg : LGood n tp N b 1 d k c τ k' E) (ht : tW n tp k' = 23 ∨ tW n tp k' = 24) {K : Int32 → St → Option St} {Q : St → Prop} (hG : ∀ τ3 k'' E3, lwM c σ τ3 → LGood n tp N b 1 d k c τ3 k'' E3 → k' < k'' → tc 2 (tW n tp k'') → wp (K (I d) τ3) Q) (hB : ∀ τ3, lwM c σ τ3 → LBad n tp N b 1 d k c τ3 → wp (K (I d) τ3) Q) : wp (rM_all_23 tq K (I d) τ) Q := by
  have hr := hg.1.1
  have e23 : rM_isWord (23 : Int32) τ = some (if tW n tp k' = 23 then 1 else 0, τ) := eM_isWord hw hr (w := 23) (by decide)
  have hj : ¬ jnC (tW n tp k') = 0 := by rcases ht with h | h <;> rw [h] <;> decide
  have hrk : rkC (jnC (tW n tp k')) = 1 := by rcases ht with h | h <;> rw [h] <;> decide
  have hl := hg.2.1
  have f1 : rdM τ (setI τ 0 7 (I (k' + 1))) := frO_f frO_refl _ (by decide)
  have r1 := RM_k hr (wd_in hr (by omega))
  have s1 : LSt n tp N b (c + E.length) (k' + 1) 0 (setI τ 0 7 (I (k' + 1))) := LSt_rd hg.1 f1 r1
  unfold rM_all_23 rM_all_57
  rw [e23, bnd2S, nmE, nmE, hr.2.2.1, I1, I_add]
  generalize setI τ 0 7 (I (k' + 1)) = τ1 at f1 r1 s1 ⊢
  refine wp_bnd1 (wp_mono (eM_test hw hq hd s1 (by omega)) ?_)
  rintro τ2 ⟨f2, ⟨k'', E2, ⟨p1, p2, p3, p4, p5, p6⟩, p7⟩ | hb⟩
  · have fin : ∀ o, o = mOp (jnC (tW n tp k')) → wp (bnd1 (rM_emit (I o) (I 0) τ2) fun σ_13 => K (I d) σ_13) Q := fun o ho => by
      refine wp_bnd1 (wp_mono (LG_j hc ⟨by omega, by omega⟩ hd f hg (lwM_rd f1) f2 hj hrk (by omega) p1 p2 p4 (HP_w p5 (by omega)) p6 ho) ?_)
      rintro τ3 ⟨f3, g3⟩
      exact hG τ3 k'' _ f3 g3 (by omega) p7
    rcases ht with h | h
    · rw [if_pos h, brc_f (by decide)]
      exact fin 9 (by rw [h]; decide)
    · rw [if_neg (by omega), brc_t rfl]
      exact fin 10 (by rw [h]; decide)
  · have fin : ∀ o, wp (bnd1 (rM_emit (I o) (I 0) τ2) fun σ_13 => K (I d) σ_13) Q := fun o => by
      refine wp_bnd1 (wp_mono (LB_j hc (by omega) f hg (lwM_rd f1) f2 hj hrk (by omega) hb o) ?_)
      rintro τ3 ⟨f3, g3⟩
      exact hB τ3 f3 g3
    rcases ht with h | h
    · rw [if_pos h, brc_f (by decide)]
      exact fin 9
    · rw [if_neg (by omega), brc_t rfl]
      exact fin 10
theorem eM_all {n : Nat} {tp : Nat → Nat} (hw : wfP n tp) {N b d : Nat} {tq : Int32 → St → Option St} (hq : TPok n tp N b d tq) (hd : d ≤ 5) {k c : Nat} {σ : St} (h : LSt n tp N b c k 0 σ) (hc : c ≤ k) : wp (rM_all tq (I d) σ) (LQ n tp N b 1 d k c σ) := by
  unfold rM_all
  refine wp_bnd1 (wp_mono (eM_test hw hq hd h hc) ?_)
  rintro τ ⟨f, hs⟩
  have hst : ∃ m, m < fu ∧ ((∃ k' E, LGood n tp N b 1 d k c τ k' E ∧ tc 2 (tW n tp k') ∧ m = N + 1 - k') ∨ LBad n tp N b 1 d k c τ) := by
    rcases hs with ⟨k', E, ⟨p1, p2, p3, p4, p5, p6⟩, p7⟩ | hb
    · exact ⟨N + 1 - k', by have := p1.1.1.1; unfold fu; omega, Or.inl ⟨k', E, ⟨p1, p2, p3, p4, HP_w p5 (by omega), MG_w (fun h9 => absurd h9 (by omega)) p6⟩, p7, rfl⟩⟩
    · exact ⟨0, by unfold fu; omega, Or.inr (LB_w hb)⟩
  obtain ⟨m0, hm0, hs0⟩ := hst
  refine wp_lp (fun m a => ∃ τ, a = (I d, τ) ∧ lwM c σ τ ∧ ((∃ k' E, LGood n tp N b 1 d k c τ k' E ∧ tc 2 (tW n tp k') ∧ m = N + 1 - k') ∨ LBad n tp N b 1 d k c τ)) ?_ fu m0 _ hm0 ⟨τ, rfl, f, hs0⟩
  clear hs0 hm0 hs f
  rintro m a kk ⟨τ, rfl, f, hgb⟩ hgo
  show wp (rM_all_5 tq (fun v1 σ => kk (v1, σ)) (I d) τ) _
  unfold rM_all_5
  rcases hgb with ⟨k', E, hg, ht4, hm⟩ | hb
  · have hr := hg.1.1
    have e23 : rM_isWord (23 : Int32) τ = some (if tW n tp k' = 23 then 1 else 0, τ) := eM_isWord hw hr (w := 23) (by decide)
    have e24 : rM_isWord (24 : Int32) τ = some (if tW n tp k' = 24 then 1 else 0, τ) := eM_isWord hw hr (w := 24) (by decide)
    have hkN := hr.2.1
    have go : (tW n tp k' = 23 ∨ tW n tp k' = 24) → wp (rM_all_23 tq (fun v1 σ => kk (v1, σ)) (I d) τ) (LQ n tp N b 1 d k c σ) := fun ht =>
      eM_all23 hw hq hd hc f hg ht (fun τ3 k'' E3 f3 g3 hk h4 => hgo (N + 1 - k'') _ (by have := g3.1.1.2.1; omega) ⟨τ3, rfl, f3, Or.inl ⟨k'', E3, g3, h4, rfl⟩⟩) (fun τ3 f3 g3 => hgo 0 _ (by omega) ⟨τ3, rfl, f3, Or.inr g3⟩)
    rw [e23, bnd2S]
    by_cases h23 : tW n tp k' = 23
    · rw [if_pos h23, brc_t (by decide)]
      exact go (Or.inl h23)
    · rw [if_neg h23, brc_f (by decide), e24, bnd2S]
      by_cases h24 : tW n tp k' = 24
      · rw [if_pos h24, brc_f (by decide)]
        exact go (Or.inr h24)
      · rw [if_neg h24, brc_t rfl]
        exact wp_some ⟨f, Or.inl ⟨k', E, hg, fun _ => ht4.1 (by omega), fun _ => ht4.2.1 (by omega), fun _ => ⟨h23, h24⟩⟩⟩
  · rw [LB_iw hb, bnd2S, brc_f (by decide), LB_iw hb, bnd2S, brc_t rfl]
    exact wp_some ⟨f, Or.inr hb⟩
/-! facts -/
def fhV (b W v : Nat) : Int32 := if 10000 + b ≤ fcC W ∧ fcC W < 10000 + b + v then I (fcC W - 10000 - b) else -1
def dwB (b v : Nat) : Nat := if b = 0 then [9, 25, 1, 26, 27].getD v 0 else [28, 29].getD v 0
theorem dw_0 {v : Nat} (hv : v < 5) : sM0.1 12 v = I (dwB 0 v) ∧ dwB 0 v < 30 := by
  have h : ∀ v, v < 5 → sM0.1 12 v = I (dwB 0 v) ∧ dwB 0 v < 30 := by decide +kernel
  exact h v hv
theorem dw_5 {v : Nat} (hv : v < 2) : sM0.1 13 v = I (dwB 5 v) ∧ dwB 5 v < 30 := by
  have h : ∀ v, v < 2 → sM0.1 13 v = I (dwB 5 v) ∧ dwB 5 v < 30 := by decide +kernel
  exact h v hv
theorem fc_0 {W v : Nat} (hW : W < 42) (hv : v < 5) : W = wcl (dwB 0 v) ↔ fcC W = 10000 + v := by
  have h : ∀ W, W < 42 → ∀ v, v < 5 → (W = wcl (dwB 0 v) ↔ fcC W = 10000 + v) := by decide +kernel
  exact h W hW v hv
theorem fc_5 {W v : Nat} (hW : W < 42) (hv : v < 2) : W = wcl (dwB 5 v) ↔ fcC W = 10005 + v := by
  have h : ∀ W, W < 42 → ∀ v, v < 2 → (W = wcl (dwB 5 v) ↔ fcC W = 10005 + v) := by decide +kernel
  exact h W hW v hv
theorem eM_factHere {n : Nat} {tp : Nat → Nat} (hw : wfP n tp) {N b c k : Nat} {σ : St} (hb : b = 0 ∨ b = 5) (h : LSt n tp N b c k 0 σ) : wp (rM_factHere σ) (fun r => r = (fhV b (tW n tp k) (hiB b - b), σ)) := by
  obtain ⟨r, -, h19, h12, h13⟩ := h
  have hlt : tW n tp k < 42 := tkW_lt
  have st : ∀ v, fcC (tW n tp k) = 10000 + b + v → fhV b (tW n tp k) (v + 1) = I v := fun v hv => by
    unfold fhV
    rw [if_pos (by omega), hv, show 10000 + b + v - 10000 - b = v by omega]
  have sn : ∀ v, ¬ fcC (tW n tp k) = 10000 + b + v → fhV b (tW n tp k) (v + 1) = fhV b (tW n tp k) v := fun v hv => by
    unfold fhV
    by_cases e2 : 10000 + b ≤ fcC (tW n tp k) ∧ fcC (tW n tp k) < 10000 + b + v
    · rw [if_pos e2, if_pos (by omega)]
    · rw [if_neg e2, if_neg (by omega)]
  unfold rM_factHere
  rw [nmE, nmE]
  refine wp_for (fun m a => ∃ v, v + m = hiB b - b ∧ a = (fhV b (tW n tp k) v, I v, σ)) ?_ ?_ (hiB b - b) fu _ ⟨0, by omega, ?_⟩ (by unfold fu hiB; split <;> omega)
  · rintro m a kk ⟨v, hv, rfl⟩ hgo
    show wp (rM_factHere_4 (fun v1 v2 σ => kk (v1, v2, σ)) (fhV b (tW n tp k) v) (I v) σ) _
    unfold rM_factHere_4 rM_factHere_17 rM_factHere_43 rM_factHere_54
    rcases hb with rfl | rfl
    · have hv5 : v < 5 := by have : hiB 0 = 5 := rfl; omega
      rw [h19, if_pos rfl, brc_t rfl, brc_f (by rw [litN, I_le (by omega) (by omega)]; omega), brc_t rfl, chk_t (ib_I hv5 (by omega)), I_cl (by omega), h12, (dw_0 hv5).1, eM_isWord hw r (dw_0 hv5).2, bnd2S]
      by_cases e : tW n tp k = wcl (dwB 0 v)
      · rw [if_pos e, brc_f (by decide), nmE, nmE, oi1, I_add]
        refine hgo _ ⟨v + 1, by omega, ?_⟩
        rw [st v (by have := (fc_0 hlt hv5).mp e; omega)]
      · rw [if_neg e, brc_t rfl, nmE, nmE, oi1, I_add]
        refine hgo _ ⟨v + 1, by omega, ?_⟩
        rw [sn v (by have := mt (fc_0 hlt hv5).mpr e; omega)]
    · have hv2 : v < 2 := by have : hiB 5 = 7 := rfl; omega
      rw [h19, if_neg (by decide), brc_f (by decide), brc_f (by rw [litN, I_le (by omega) (by omega)]; omega), brc_f (by decide), chk_t (ib_I hv2 (by omega)), I_cl (by omega), h13, (dw_5 hv2).1, eM_isWord hw r (dw_5 hv2).2, bnd2S]
      by_cases e : tW n tp k = wcl (dwB 5 v)
      · rw [if_pos e, brc_f (by decide), nmE, nmE, oi1, I_add]
        refine hgo _ ⟨v + 1, by omega, ?_⟩
        rw [st v (by have := (fc_5 hlt hv2).mp e; omega)]
      · rw [if_neg e, brc_t rfl, nmE, nmE, oi1, I_add]
        refine hgo _ ⟨v + 1, by omega, ?_⟩
        rw [sn v (by have := mt (fc_5 hlt hv2).mpr e; omega)]
  · rintro a kk ⟨v, hv, rfl⟩
    show wp (rM_factHere_4 (fun v1 v2 σ => kk (v1, v2, σ)) (fhV b (tW n tp k) v) (I v) σ) _
    unfold rM_factHere_4 rM_factHere_17
    rcases hb with rfl | rfl
    · have hv5 : v = 5 := by have : hiB 0 = 5 := rfl; omega
      subst hv5
      rw [h19, if_pos rfl, brc_t rfl, brc_t (by decide)]
      exact wp_some rfl
    · have hv2 : v = 2 := by have : hiB 5 = 7 := rfl; omega
      subst hv2
      rw [h19, if_neg (by decide), brc_f (by decide), brc_t (by decide)]
      exact wp_some rfl
  · rw [I0]
    unfold fhV
    rw [if_neg (by omega)]
