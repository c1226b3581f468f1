/-! laws: parts of the reference -/
theorem eM_at162 {n : Nat} {tp : Nat → Nat} {N b c k : Nat} {τ : St} (tq : Int32 → St → Option St) (h : LSt n tp N b c k 0 τ) (hc : c ≤ k) (hW : ¬ tW n tp k = 40) (o a : Nat) : wp (rM_takePartB_162 tq (I a) (I o) τ) (fun υ => lwM c τ υ ∧ LSt n tp N b (c + 1) (k + 1) 0 υ ∧ υ.1 8 (1100 + c) = I o ∧ υ.1 9 (1100 + c) = I a) := by
  have hN := h.1.1.1
  have hk := h.1.2.1
  unfold rM_takePartB_162 rM_takePartB_175
  refine wp_bnd1 (wp_mono (eM_emit h (by omega) o a) ?_)
  rintro υ ⟨f, s, c8, c9⟩
  have f1 : rdM υ (setI υ 0 7 (I (k + 1))) := frO_f frO_refl _ (by decide)
  rw [nmE, s.1.2.2.1, I1, I_add]
  exact wp_some ⟨lwM_tr f (lwM_rd f1) (Nat.le_refl _), LSt_rd s f1 (RM_k s.1 (wd_in s.1 hW)), by rw [gI_ne1 _ _ _ (by decide)]; exact c8, by rw [gI_ne1 _ _ _ (by decide)]; exact c9⟩
theorem tc_1 {W : Nat} (h : tc 1 W) (hj : ¬ jnC W = 0) : W = 25 ∨ W = 26 := by
  have h1 := jn_rk hj
  have h2 := h.1 (by omega)
  have h3 := h.2.1 (by omega)
  have h4 := h.2.2 (by omega)
  omega
theorem eM_tp66 {n : Nat} {tp : Nat → Nat} (hw : wfP n tp) {N b d k c : Nat} {σ : St} {tq : Int32 → St → Option St} (hb : b = 0 ∨ b = 5) (hd : d ≤ 5) (hq : d < 5 → TPok n tp N b (d + 1) tq) (h : LSt n tp N b c k 0 σ) (hc : c ≤ k) (hbg : bgP b (tW n tp k) = true) : wp (rM_takePartB_66 tq (I d) (if tW n tp k = 39 then 1 else 0) (fhV b (tW n tp k) (hiB b - b)) σ) (PQ n tp N b d k c σ) := by
  have hn := hw.1
  have r := h.1
  have hp := (RM_tok r).2.2.1
  have hN := r.1.1
  have hkN := r.2.1
  have hlt : tW n tp k < 42 := tkW_lt
  have e1 : I d + (1 : Int32) = I (d + 1) := by rw [I1, I_add]
  unfold rM_takePartB_66
  by_cases h5 : d = 5
  · subst h5
    rw [brc_f (fun h9 => h9 (by decide)), litN, eM_wrong r, bnd1S]
    have r1 := RM_F r (5 + 16 * ps n tp k)
    have f1 : rdM σ (setI σ 0 8 (I (5 + 16 * ps n tp k))) := frO_f frO_refl _ (by decide)
    unfold rM_takePartB_76
    rw [brc_f (F_ne r1 (by omega)).2]
    exact wp_some ⟨lwM_rd f1, Or.inr ⟨k, c, 5, k, LSt_rd h f1 r1, by omega, by omega, by omega, by omega, MBp_5 hbg⟩⟩
  · have hd5 : d < 5 := by omega
    have hq1 := hq hd5
    rw [brc_t (by rw [litN, I_inj (by omega) (by omega)]; exact h5)]
    unfold rM_takePartB_76
    rw [brc_t (F_0 r).2]
    refine wp_bnd2 (wp_mono (eM_hasWord hw r (w := 22) (by decide)) ?_)
    rintro ⟨x, τ1⟩ ⟨f1, ⟨a, b', r1⟩ | ⟨a, b', r1⟩⟩
    · have b'' : x = 1 := b'
      subst b''
      have a22 : tW n tp k = 22 := a.trans (by decide)
      show wp (brc ((1 : Int32) = 0) _ (bnd1 (tq (I d + (1 : Int32)) τ1) _)) _
      rw [brc_f (by decide), e1]
      have s1 : LSt n tp N b c (k + 1) 0 τ1 := LSt_rd h f1 r1
      refine wp_bnd1 (wp_mono (hq1 (k + 1) c τ1 s1 (by omega)) ?_)
      rintro τ2 ⟨f2, ⟨k', E, p1, p2, p3, p4, p5, p6⟩ | ⟨k2, c2, ff, kf, q1, q2, q3, q4, q5, q6⟩⟩
      · have hk' := p1.1.2.1
        refine wp_bnd1 (wp_mono (eM_emit p1 (by omega) 3 0) ?_)
        rintro τ3 ⟨f3, s3, c8, c9⟩
        unfold rM_takePartB_175
        have hlen : (E ++ [20002]).length = E.length + 1 := by simp
        refine wp_some ⟨lwM_tr (lwM_rd f1) (lwM_tr f2 f3 (by omega)) (Nat.le_refl _), Or.inl ⟨k', E ++ [20002], by rw [hlen]; exact s3, by rw [hlen]; omega, by omega, ?_, HP_n (HP_w p5 (by omega)) (by omega), MGp_not a22 hd5 p6⟩⟩
        refine EM_app _ _ _ (EM_lw p4 f3 (Nat.le_refl _)) ?_
        rw [show 1100 + c + E.length = 1100 + (c + E.length) by omega]
        exact ⟨c8, fun h9 => absurd h9 (by omega), trivial⟩
      · have hk' := q1.1.2.1
        refine wp_bnd1 (wp_mono (eM_emit q1 (by omega) 3 0) ?_)
        rintro τ3 ⟨f3, s3, -, -⟩
        unfold rM_takePartB_175
        exact wp_some ⟨lwM_tr (lwM_rd f1) (lwM_tr f2 f3 (by omega)) (Nat.le_refl _), Or.inr ⟨k2, c2 + 1, ff, kf, s3, by omega, by omega, q4, q5, MBp_not a22 hd5 q6⟩⟩
    · have b'' : x = 0 := b'
      subst b''
      have a22 : ¬ tW n tp k = 22 := fun h9 => a (h9.trans (by decide))
      have s1 : LSt n tp N b c k 0 τ1 := LSt_rd h f1 r1
      show wp (brc ((0 : Int32) = 0) (bnd2 (rM_hasSign (40 : Int32) τ1) fun r_11 σ_9 => brc (r_11 = 0) (brc ((if tW n tp k = 39 then (1 : Int32) else 0) = 0) (rM_takePartB_144 tq (if tW n tp k = 39 then 1 else 0) (fhV b (tW n tp k) (hiB b - b)) (2 : Int32) σ_9) (rM_takePartB_144 tq (if tW n tp k = 39 then 1 else 0) (fhV b (tW n tp k) (hiB b - b)) (1 : Int32) σ_9)) (bnd1 (rM_all tq (I d + (1 : Int32)) σ_9) fun σ_15 => bnd1 (rM_takeSign (41 : Int32) σ_15) fun σ_17 => rM_takePartB_175 tq σ_17)) _) _
      rw [brc_t rfl, e1]
      refine wp_bnd2 (wp_mono (eM_hasSign hw r1 (c := 40) (by decide)) ?_)
      rintro ⟨x, τ2⟩ ⟨f2, ⟨a2, b', r2⟩ | ⟨a2, b', r2⟩⟩
      · have b'' : x = 1 := b'
        subst b''
        have a30 : tW n tp k = 30 := a2.trans (by decide)
        show wp (brc ((1 : Int32) = 0) _ (bnd1 (rM_all tq (I (d + 1)) τ2) _)) _
        rw [brc_f (by decide)]
        have s2 : LSt n tp N b c (k + 1) 0 τ2 := LSt_rd s1 f2 r2
        have g2 := frO_tr f1 f2
        refine wp_bnd1 (wp_mono (eM_all hw hq1 (by omega) s2 (by omega)) ?_)
        rintro τ3 ⟨f3, ⟨k', E, ⟨p1, p2, p3, p4, p5, p6⟩, p7⟩ | ⟨k2, c2, ff, kf, q1, q2, q3, q4, q5, q6⟩⟩
        · have hp' := (RM_tok p1.1).2.2.1
          refine wp_bnd1 (wp_mono (eM_takeSign hw p1.1 (c := 41) (by decide)) ?_)
          rintro τ4 ⟨f4, ⟨a4, r4⟩ | ⟨a4, r4⟩⟩
          · unfold rM_takePartB_175
            exact wp_some ⟨lwM_tr (lwM_rd g2) (lwM_tr f3 (lwM_rd f4) (Nat.le_refl _)) (Nat.le_refl _), Or.inl ⟨k' + 1, E, LSt_rd p1 f4 r4, by omega, by omega, EM_lw p4 (lwM_rd (c := c + E.length) f4) (Nat.le_refl _), HP_w p5 (by omega), MGp_br a30 hd5 p6 (a4.trans (by decide))⟩⟩
          · unfold rM_takePartB_175
            exact wp_some ⟨lwM_tr (lwM_rd g2) (lwM_tr f3 (lwM_rd f4) (Nat.le_refl _)) (Nat.le_refl _), Or.inr ⟨k', c + E.length, 1, k', LSt_rd p1 f4 r4, by omega, by omega, by omega, by omega, MBp_br2 a30 hd5 p6 (fun h9 => a4 (h9.trans (by decide))) (fun hj => tc_1 p7 hj)⟩⟩
        · rw [eM_takeSignF q1.1 (by omega), bnd1S]
          unfold rM_takePartB_175
          exact wp_some ⟨lwM_tr (lwM_rd g2) f3 (Nat.le_refl _), Or.inr ⟨k2, c2, ff, kf, q1, by omega, q3, q4, q5, MBp_br a30 hd5 q6⟩⟩
      · have b'' : x = 0 := b'
        subst b''
        have a30 : ¬ tW n tp k = 30 := fun h9 => a2 (h9.trans (by decide))
        have s2 : LSt n tp N b c k 0 τ2 := LSt_rd s1 f2 r2
        have g2 := frO_tr f1 f2
        have hbg' := of_decide_eq_true hbg
        show wp (brc ((0 : Int32) = 0) (brc ((if tW n tp k = 39 then (1 : Int32) else 0) = 0) (rM_takePartB_144 tq (if tW n tp k = 39 then 1 else 0) (fhV b (tW n tp k) (hiB b - b)) (2 : Int32) τ2) (rM_takePartB_144 tq (if tW n tp k = 39 then 1 else 0) (fhV b (tW n tp k) (hiB b - b)) (1 : Int32) τ2)) _) _
        rw [brc_t rfl]
        unfold rM_takePartB_144
        by_cases h39 : tW n tp k = 39
        · obtain ⟨t1, t2, t3, t4, t5, t6⟩ := tk_num hw hp h39
          have t5' : tV n tp k < 10000 := t5
          have hV : τ2.2.1 4 k = Int64.ofNat (tkV n tp (ps n tp k)) := ((RM_tok r2).2.2.2 t2).2
          have e9 : (Int64.ofNat (tkV n tp (ps n tp k))).toInt32 = I (tV n tp k) := by
            apply Int32.toInt_inj.mp
            have hV' : (Int64.ofNat (tkV n tp (ps n tp k))).toInt = tkV n tp (ps n tp k) := Int64.toInt_ofNat_of_lt (by omega)
            rw [Int64.toInt_toInt32, hV', I_toInt (by omega)]
            apply Int.bmod_eq_of_le <;> omega
          rw [if_pos h39, brc_f (by decide), brc_f (by decide), r2.2.2.1, chk_t (ib_I (by omega) (by omega)), I_cl (by omega), hV, e9]
          refine wp_mono (eM_at162 tq s2 hc (by omega) 1 (tV n tp k)) ?_
          rintro υ ⟨f3, s3, c8, c9⟩
          have eat : atC (tW n tp k) (tV n tp k) = tV n tp k := by unfold atC; rw [if_pos h39]
          refine ⟨lwM_tr (lwM_rd g2) f3 (Nat.le_refl _), Or.inl ⟨k + 1, [atC (tW n tp k) (tV n tp k)], s3, by simp; omega, by omega, ?_, ?_, MGp_at hbg hd5 a22 a30⟩⟩
          · rw [eat]
            refine ⟨?_, fun _ => ?_, trivial⟩
            · rw [c8]; unfold mOp; rw [if_pos t5']
            · rw [c9, if_pos t5']
          · rw [eat]
            exact HP_a (Or.inl t5') (by omega)
        · have hF : 10000 + b ≤ fcC (tW n tp k) ∧ fcC (tW n tp k) < 10000 + hiB b := by
            rcases hbg' with h9 | h9 | h9 | h9
            · exact absurd h9 h39
            · exact absurd h9 a22
            · exact absurd h9 a30
            · exact h9
          have hhi : hiB b ≤ 7 := by unfold hiB; split <;> omega
          have ef : fhV b (tW n tp k) (hiB b - b) = I (fcC (tW n tp k) - 10000 - b) := by
            unfold fhV
            rw [if_pos (by omega)]
          rw [if_neg h39, brc_t rfl, brc_t rfl, ef]
          have h40 : ¬ tW n tp k = 40 := by
            intro h9
            rw [h9] at hF
            have : fcC 40 = 0 := by decide
            omega
          refine wp_mono (eM_at162 tq s2 hc h40 2 (fcC (tW n tp k) - 10000 - b)) ?_
          rintro υ ⟨f3, s3, c8, c9⟩
          have eat : atC (tW n tp k) (tV n tp k) = fcC (tW n tp k) := by unfold atC; rw [if_neg h39]
          refine ⟨lwM_tr (lwM_rd g2) f3 (Nat.le_refl _), Or.inl ⟨k + 1, [atC (tW n tp k) (tV n tp k)], s3, by simp; omega, by omega, ?_, ?_, MGp_at hbg hd5 a22 a30⟩⟩
          · rw [eat]
            refine ⟨?_, fun _ => ?_, trivial⟩
            · rw [c8]; unfold mOp; rw [if_neg (by omega), if_pos (by omega)]
            · rw [c9, if_neg (by omega)]
          · rw [eat]
            exact HP_a (Or.inr hF) (by omega)
theorem eM_takePartB {n : Nat} {tp : Nat → Nat} (hw : wfP n tp) {N b d : Nat} {tq : Int32 → St → Option St} (hb : b = 0 ∨ b = 5) (hd : d ≤ 5) (hq : d < 5 → TPok n tp N b (d + 1) tq) : TPok n tp N b d (fun v σ => rM_takePartB tq v σ) := by
  intro k c σ h hc
  have hn := hw.1
  have r := h.1
  obtain ⟨t1, t2, t3, t4⟩ := RM_tok r
  have hN := r.1.1
  have hkN := r.2.1
  have hlt : tW n tp k < 42 := tkW_lt
  have hhi : b ≤ hiB b := by rcases hb with rfl | rfl <;> decide
  have main : wp (rM_takePartB_26 tq (I d) (if tW n tp k = 39 then 1 else 0) σ) (PQ n tp N b d k c σ) := by
    unfold rM_takePartB_26
    rw [nmE]
    refine wp_bnd2 (wp_mono (eM_factHere hw hb h) ?_)
    rintro x rfl
    rw [nmE]
    have e40 : rM_isSign (40 : Int32) σ = some (if tW n tp k = 30 then 1 else 0, σ) := eM_isSign hw r (c := 40) (by decide)
    have e22 : rM_isWord (22 : Int32) σ = some (if tW n tp k = 22 then 1 else 0, σ) := eM_isWord hw r (w := 22) (by decide)
    show wp (brc (0 ≤ fhV b (tW n tp k) (hiB b - b)) (rM_takePartB_66 tq (I d) (if tW n tp k = 39 then 1 else 0) (fhV b (tW n tp k) (hiB b - b)) σ) (brc (¬ (if tW n tp k = 39 then (1 : Int32) else 0) = 0) (rM_takePartB_66 tq (I d) (if tW n tp k = 39 then 1 else 0) (fhV b (tW n tp k) (hiB b - b)) σ) (bnd2 (rM_isSign (40 : Int32) σ) fun r_27 σ_25 => brc (¬ r_27 = 0) (rM_takePartB_66 tq (I d) (if tW n tp k = 39 then 1 else 0) (fhV b (tW n tp k) (hiB b - b)) σ_25) (bnd2 (rM_isWord (22 : Int32) σ_25) fun r_30 σ_28 => brc (¬ r_30 = 0) (rM_takePartB_66 tq (I d) (if tW n tp k = 39 then 1 else 0) (fhV b (tW n tp k) (hiB b - b)) σ_28) (bnd1 (rM_wrong (1 : Int32) σ_28) fun σ_31 => rM_takePartB_76 tq (I d) (if tW n tp k = 39 then 1 else 0) (fhV b (tW n tp k) (hiB b - b)) σ_31))))) _
    by_cases hF : 10000 + b ≤ fcC (tW n tp k) ∧ fcC (tW n tp k) < 10000 + hiB b
    · have hbg : bgP b (tW n tp k) = true := decide_eq_true (Or.inr (Or.inr (Or.inr hF)))
      have hhi7 : hiB b ≤ 7 := by unfold hiB; split <;> omega
      have ef : fhV b (tW n tp k) (hiB b - b) = I (fcC (tW n tp k) - 10000 - b) := by unfold fhV; rw [if_pos (by omega)]
      rw [brc_t (by rw [ef, I0, I_le (by omega) (by omega)]; omega)]
      exact eM_tp66 hw hb hd hq h hc hbg
    · have ef : fhV b (tW n tp k) (hiB b - b) = -1 := by unfold fhV; rw [if_neg (by omega)]
      rw [brc_f (by rw [ef]; decide)]
      by_cases h39 : tW n tp k = 39
      · have hbg : bgP b (tW n tp k) = true := decide_eq_true (Or.inl h39)
        rw [brc_t (by rw [if_pos h39]; decide)]
        exact eM_tp66 hw hb hd hq h hc hbg
      · rw [brc_f (by rw [if_neg h39]; decide), e40, bnd2S]
        by_cases h30 : tW n tp k = 30
        · have hbg : bgP b (tW n tp k) = true := decide_eq_true (Or.inr (Or.inr (Or.inl h30)))
          rw [brc_t (by rw [if_pos h30]; decide)]
          exact eM_tp66 hw hb hd hq h hc hbg
        · rw [brc_f (by rw [if_neg h30]; decide), e22, bnd2S]
          by_cases h22 : tW n tp k = 22
          · have hbg : bgP b (tW n tp k) = true := decide_eq_true (Or.inr (Or.inl h22))
            rw [brc_t (by rw [if_pos h22]; decide)]
            exact eM_tp66 hw hb hd hq h hc hbg
          · have hbg : ¬ bgP b (tW n tp k) = true := fun h9 => by
              rcases of_decide_eq_true h9 with h8 | h8 | h8 | h8
              · exact h39 h8
              · exact h22 h8
              · exact h30 h8
              · exact hF h8
            rw [brc_f (by rw [if_neg h22]; decide), I1, eM_wrong r, bnd1S]
            have r1 := RM_F r (1 + 16 * ps n tp k)
            have f1 : rdM σ (setI σ 0 8 (I (1 + 16 * ps n tp k))) := frO_f frO_refl _ (by decide)
            unfold rM_takePartB_76
            rw [brc_f (F_ne r1 (by omega)).2]
            exact wp_some ⟨lwM_rd f1, Or.inr ⟨k, c, 1, k, LSt_rd h f1 r1, by omega, by omega, by omega, by omega, MBp_1 hbg⟩⟩
  show wp (rM_takePartB tq (I d) σ) _
  unfold rM_takePartB
  rw [brc_t (F_0 r).2, r.2.2.1, chk_t (ib_I (by omega) (by omega)), I_cl (by omega), t2]
  by_cases h39 : tW n tp k = 39
  · obtain ⟨u1, -⟩ := tk_num hw t3 h39
    rw [if_pos h39] at main
    rw [u1, brc_f (fun h9 => h9 (by decide))]
    exact main
  · have u1 := tk_nnum hw t3 h39
    rw [if_neg h39] at main
    rw [brc_t (by rw [litN, I_inj (by omega) (by omega)]; exact u1.1)]
    exact main
theorem eM_takePart {n : Nat} {tp : Nat → Nat} (hw : wfP n tp) {N b : Nat} (hb : b = 0 ∨ b = 5) : ∀ (e d f : Nat), d + e = 5 → e < f → TPok n tp N b d (rM_takePart f)
  | 0, d, f, hd, hf => by
    obtain ⟨f, rfl⟩ : ∃ g, f = g + 1 := ⟨f - 1, by omega⟩
    exact eM_takePartB hw hb (by omega) (tq := fun v1 σ => lp rM_takePart_F f (v1, σ)) (fun h9 => absurd h9 (by omega))
  | e + 1, d, f, hd, hf => by
    obtain ⟨f, rfl⟩ : ∃ g, f = g + 1 := ⟨f - 1, by omega⟩
    exact eM_takePartB hw hb (by omega) (tq := fun v1 σ => lp rM_takePart_F f (v1, σ)) (fun _ => eM_takePart hw hb e (d + 1) f (by omega) (by omega))
