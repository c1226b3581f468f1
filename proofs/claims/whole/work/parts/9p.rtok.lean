/-! what the reference asks of a token -/
theorem lg0 (x y : Int64) : lg_cmp x y = 0 ↔ x = y := by
  unfold lg_cmp
  by_cases h1 : x > y
  · rw [if_pos h1]
    constructor
    · intro h; exact absurd h (by decide)
    · intro h
      rw [h] at h1
      exact absurd h1 (Int64.lt_irrefl)
  · rw [if_neg h1]
    by_cases h2 : x = y
    · rw [if_pos h2]; exact ⟨fun _ => h2, fun _ => rfl⟩
    · rw [if_neg h2]
      constructor
      · intro h; exact absurd h (by decide)
      · intro h; exact absurd h h2
/-- the reference stands at token k; F: what was wrong -/
def RM (n : Nat) (tp : Nat → Nat) (N k F : Nat) (σ : St) : Prop := MTk n tp N σ ∧ k ≤ N ∧ σ.1 0 7 = I k ∧ σ.1 0 8 = I F ∧ σ.2.1 5 = sM0.2.1 5
abbrev tW (n : Nat) (tp : Nat → Nat) (k : Nat) : Nat := tkW n tp (ps n tp k)
theorem wcl_r {w : Nat} (h : w < 30) : wcl w < 25 ∨ (33 ≤ wcl w ∧ wcl w < 38) := by unfold wcl; split <;> omega
theorem RM_tok {n : Nat} {tp : Nat → Nat} {N k F : Nat} {σ : St} (h : RM n tp N k F σ) : σ.1 3 k = I (ps n tp k) ∧ σ.1 2 k = I (tkS n tp (ps n tp k)) ∧ ps n tp k ≤ n ∧ (ps n tp k < n → k < N ∧ σ.2.1 4 k = Int64.ofNat (tkV n tp (ps n tp k))) := by
  obtain ⟨⟨h1, h2, h3, h4, h5⟩, h6, h7, h8, h9⟩ := h
  by_cases e : k = N
  · subst e
    rw [h3]
    refine ⟨h4, ?_, Nat.le_refl _, fun h => absurd h (by omega)⟩
    rw [h5]; unfold tkS; rw [if_neg (by omega)]
  · have h' := h2 k (by omega)
    exact ⟨h'.1, h'.2.1, by omega, fun _ => ⟨by omega, h'.2.2.1⟩⟩
theorem eM_isWord {n : Nat} {tp : Nat → Nat} (hw : wfP n tp) {N k : Nat} {σ : St} (h : RM n tp N k 0 σ) {w : Nat} (hw9 : w < 30) : rM_isWord (I w) σ = some (if tW n tp k = wcl w then 1 else 0, σ) := by
  obtain ⟨t1, t2, t3, t4⟩ := RM_tok h
  obtain ⟨⟨g1, -⟩, g2, g3, g4, g5⟩ := h
  have hr := wcl_r hw9
  unfold rM_isWord rM_isWord_43 rM_isWord_44
  rw [g4, brc_f (by rw [I0]; exact fun h => h rfl), g3, chk_t (ib_I (by omega) (by omega)), I_cl (by omega), t2]
  have no : ∀ S, S < 5 → ¬ S = 1 → tkS n tp (ps n tp k) = S → ¬ tW n tp k = wcl w → brc (¬ I (tkS n tp (ps n tp k)) = 1) (chk (decide ((0 : Int32) = 0 ∨ (0 : Int32) = 1)) (some ((0 : Int32), σ))) (chk (ib (I k) 1002) (chk (ib (I w) 30) (brc (¬ lg_cmp (σ.2.1 4 k) (σ.2.1 5 (I w).toNatClampNeg) = 0) (chk (decide ((0 : Int32) = 0 ∨ (0 : Int32) = 1)) (some ((0 : Int32), σ))) (chk (decide ((1 : Int32) = 0 ∨ (1 : Int32) = 1)) (some ((1 : Int32), σ)))))) = some (if tW n tp k = wcl w then (1 : Int32) else 0, σ) := fun S hS h1 hS' hn => by
    rw [hS', brc_t (by rw [litN, I_inj (by omega) (by omega)]; exact h1), chk_t (by decide), if_neg hn]
  rcases tk_cases hw t3 with ⟨a1, a2, a3⟩ | ⟨a1, a2, a3, a4, a5, a6⟩ | ⟨a1, a2, a3, a4, a5, -⟩ | ⟨a1, a2, a3, a4, a5⟩ | ⟨a1, a2, a3⟩
  · exact no 0 (by omega) (by omega) a2 (by show ¬ tkW n tp (ps n tp k) = _; omega)
  · rw [a1, brc_f (by decide), chk_t (ib_I (by omega) (by omega)), chk_t (ib_I (by omega) (by omega)), I_cl (by omega), (t4 a2).2, a6, g5]
    by_cases e : wfd (lts tp (ps n tp k) (tkM n tp (ps n tp k))) = wcl w
    · rw [brc_f (fun h9 => h9 ((lg0 _ _).mpr ((tk_word a4 hw9).mpr e))), chk_t (by decide), if_pos (show tW n tp k = wcl w by show tkW n tp (ps n tp k) = _; rw [a5]; exact e)]
    · rw [brc_t (mt (fun h9 => (tk_word a4 hw9).mp ((lg0 _ _).mp h9)) e), chk_t (by decide), if_neg (show ¬ tW n tp k = wcl w by show ¬ tkW n tp (ps n tp k) = _; rw [a5]; exact e)]
  · exact no 2 (by omega) (by omega) a1 (by show ¬ tkW n tp (ps n tp k) = _; omega)
  · have := sgo_b (tp (ps n tp k))
    exact no 3 (by omega) (by omega) a1 (by show ¬ tkW n tp (ps n tp k) = _; omega)
  · exact no 4 (by omega) (by omega) a1 (by show ¬ tkW n tp (ps n tp k) = _; omega)
theorem sgo_inj {b c : Nat} (hb : sgn b = true) (hc : sgn c = true) : sgo b = sgo c ↔ b = c := by
  have h1 := of_decide_eq_true hb
  have h2 := of_decide_eq_true hc
  constructor
  · rcases h1 with rfl | rfl | rfl | rfl | rfl | rfl | rfl | rfl <;> rcases h2 with rfl | rfl | rfl | rfl | rfl | rfl | rfl | rfl <;> decide
  · rintro rfl; rfl
theorem eM_isSign {n : Nat} {tp : Nat → Nat} (hw : wfP n tp) {N k : Nat} {σ : St} (h : RM n tp N k 0 σ) {c : Nat} (hc : sgn c = true) : rM_isSign (I c) σ = some (if tW n tp k = sgo c then 1 else 0, σ) := by
  obtain ⟨t1, t2, t3, t4⟩ := RM_tok h
  obtain ⟨⟨g1, -⟩, g2, g3, g4, g5⟩ := h
  have hb := sgo_b c
  have hc200 : c < 200 := by have := of_decide_eq_true hc; omega
  unfold rM_isSign rM_isSign_39 rM_isSign_40
  rw [g4, brc_f (by rw [I0]; exact fun h => h rfl), g3, chk_t (ib_I (by omega) (by omega)), I_cl (by omega), t2]
  have no : ∀ S, S < 5 → ¬ S = 3 → tkS n tp (ps n tp k) = S → ¬ tW n tp k = sgo c → brc (¬ I (tkS n tp (ps n tp k)) = 3) (chk (decide ((0 : Int32) = 0 ∨ (0 : Int32) = 1)) (some ((0 : Int32), σ))) (chk (ib (I k) 1002) (brc (¬ lg_cmp (σ.2.1 4 k) (I c).toInt64 = 0) (chk (decide ((0 : Int32) = 0 ∨ (0 : Int32) = 1)) (some ((0 : Int32), σ))) (chk (decide ((1 : Int32) = 0 ∨ (1 : Int32) = 1)) (some ((1 : Int32), σ))))) = some (if tW n tp k = sgo c then (1 : Int32) else 0, σ) := fun S hS h1 hS' hn => by
    rw [hS', brc_t (by rw [litN, I_inj (by omega) (by omega)]; exact h1), chk_t (by decide), if_neg hn]
  rcases tk_cases hw t3 with ⟨a1, a2, a3⟩ | ⟨a1, a2, a3, a4, a5, a6⟩ | ⟨a1, a2, a3, a4, a5, -⟩ | ⟨a1, a2, a3, a4, a5⟩ | ⟨a1, a2, a3⟩
  · exact no 0 (by omega) (by omega) a2 (by show ¬ tkW n tp (ps n tp k) = _; omega)
  · have := tk_letw a2 a3
    exact no 1 (by omega) (by omega) a1 (by show ¬ tkW n tp (ps n tp k) = _; omega)
  · exact no 2 (by omega) (by omega) a1 (by show ¬ tkW n tp (ps n tp k) = _; omega)
  · have hJ : (I c).toInt64 = Int64.ofNat c := by
      have h : ∀ b, b < 200 → (I b).toInt64 = Int64.ofNat b := by decide +kernel
      exact h _ hc200
    have hlt := tp_lt hw a2
    have e1 : Int64.ofNat (tp (ps n tp k)) = Int64.ofNat c ↔ tkW n tp (ps n tp k) = sgo c := by
      rw [J_inj (by omega) (by omega), a5, sgo_inj a3 hc]
    rw [a1, brc_f (by decide), chk_t (ib_I (by omega) (by omega)), (t4 a2).2, a4, hJ]
    by_cases e : tkW n tp (ps n tp k) = sgo c
    · rw [brc_f (fun h9 => h9 ((lg0 _ _).mpr (e1.mpr e))), chk_t (by decide), if_pos e]
    · rw [brc_t (mt (fun h9 => e1.mp ((lg0 _ _).mp h9)) e), chk_t (by decide), if_neg e]
  · exact no 4 (by omega) (by omega) a1 (by show ¬ tkW n tp (ps n tp k) = _; omega)
/-- can be a name -/
def cnm (W : Nat) : Bool := decide (33 ≤ W ∧ W ≤ 38)
theorem eM_isName {n : Nat} {tp : Nat → Nat} (hw : wfP n tp) {N k : Nat} {σ : St} (h : RM n tp N k 0 σ) : wp (rM_isName σ) (fun r => r = (if cnm (tW n tp k) = true then 1 else 0, σ)) := by
  obtain ⟨t1, t2, t3, t4⟩ := RM_tok h
  obtain ⟨⟨g1, -⟩, g2, g3, g4, g5⟩ := h
  unfold rM_isName rM_isName_24 rM_isName_25
  rw [g4, brc_f (by rw [I0]; exact fun h => h rfl), g3, chk_t (ib_I (by omega) (by omega)), I_cl (by omega), t2]
  have zero : cnm (tW n tp k) = false → wp (lp rM_isName_28L fu ((0 : Int32), (0 : Int32), σ)) (fun r => r = (if cnm (tW n tp k) = true then 1 else 0, σ)) := fun hn => by
    rw [hn]
    refine wp_for (fun m a => ∃ v, v + m = 25 ∧ a = ((0 : Int32), I v, σ)) ?_ ?_ 25 fu _ ⟨0, rfl, by rw [I0]⟩ (by unfold fu; omega)
    · rintro m a kk ⟨v, hv, rfl⟩ hgo
      show wp (rM_isName_28 (fun v1 v2 σ => kk (v1, v2, σ)) 0 (I v) σ) _
      unfold rM_isName_28 rM_isName_61 rM_isName_62
      rw [brc_f (by rw [litN, I_le (by omega) (by omega)]; omega), brc_t rfl, nmE, nmE, oi1, I_add]
      exact hgo _ ⟨v + 1, by omega, rfl⟩
    · rintro a kk ⟨v, hv, rfl⟩
      show wp (rM_isName_28 (fun v1 v2 σ => kk (v1, v2, σ)) 0 (I v) σ) _
      unfold rM_isName_28
      rw [brc_t (by rw [litN, I_le (by omega) (by omega)]; omega), chk_t (by decide)]
      exact wp_some rfl
  have no : ∀ S, S < 5 → ¬ S = 1 → tkS n tp (ps n tp k) = S → cnm (tW n tp k) = false → wp (brc (¬ I (tkS n tp (ps n tp k)) = 1) (nm (0 : Int32) fun v1_1 => nm (0 : Int32) fun v2_2 => lp rM_isName_28L fu (v1_1, v2_2, σ)) (nm (1 : Int32) fun v1_1 => nm (0 : Int32) fun v2_2 => lp rM_isName_28L fu (v1_1, v2_2, σ))) (fun r => r = (if cnm (tW n tp k) = true then 1 else 0, σ)) := fun S hS h1 hS' hn => by
    rw [hS', brc_t (by rw [litN, I_inj (by omega) (by omega)]; exact h1), nmE, nmE]
    exact zero hn
  rcases tk_cases hw t3 with ⟨a1, a2, a3⟩ | ⟨a1, a2, a3, a4, a5, a6⟩ | ⟨a1, a2, a3, a4, a5, -⟩ | ⟨a1, a2, a3, a4, a5⟩ | ⟨a1, a2, a3⟩
  · exact no 0 (by omega) (by omega) a2 (decide_eq_false (by show ¬ (33 ≤ tkW n tp (ps n tp k) ∧ tkW n tp (ps n tp k) ≤ 38); omega))
  · have hlw := tk_letw a2 a3
    rw [a1, brc_f (by decide), nmE, nmE]
    refine wp_for (fun m a => ∃ v, v + m = 25 ∧ a = ((if tW n tp k < v then (0 : Int32) else 1), I v, σ)) ?_ ?_ 25 fu _ ⟨0, rfl, by rw [I0, if_neg (by omega)]⟩ (by unfold fu; omega)
    · rintro m a kk ⟨v, hv, rfl⟩ hgo
      show wp (rM_isName_28 (fun v1 v2 σ => kk (v1, v2, σ)) (if tW n tp k < v then (0 : Int32) else 1) (I v) σ) _
      unfold rM_isName_28 rM_isName_61 rM_isName_62
      rw [brc_f (by rw [litN, I_le (by omega) (by omega)]; omega), nmE, nmE, nmE, oi1, I_add]
      by_cases hlt : tW n tp k < v
      · rw [if_pos hlt, brc_t rfl]
        exact hgo _ ⟨v + 1, by omega, by rw [if_pos (show tW n tp k < v + 1 by omega)]⟩
      · rw [if_neg hlt, brc_f (by decide), g3, chk_t (ib_I (by omega) (by omega)), chk_t (ib_I (by omega) (by omega)), I_cl (by omega), I_cl (by omega), (t4 a2).2, a6, g5]
        have ew : wcl v = v := by unfold wcl; rw [if_pos (by omega)]
        by_cases e : wfd (lts tp (ps n tp k) (tkM n tp (ps n tp k))) = wcl v
        · have e' : tW n tp k = v := by show tkW n tp (ps n tp k) = _; rw [a5, e, ew]
          rw [brc_t ((lg0 _ _).mpr ((tk_word a4 (by omega)).mpr e))]
          exact hgo _ ⟨v + 1, by omega, by rw [if_pos (show tW n tp k < v + 1 by omega)]⟩
        · have e' : ¬ tW n tp k = v := by show ¬ tkW n tp (ps n tp k) = _; rw [a5]; rw [ew] at e; exact e
          rw [brc_f (fun h9 => e ((tk_word a4 (by omega)).mp ((lg0 _ _).mp h9)))]
          exact hgo _ ⟨v + 1, by omega, by rw [if_neg (show ¬ tW n tp k < v + 1 by omega)]⟩
    · rintro a kk ⟨v, hv, rfl⟩
      show wp (rM_isName_28 (fun v1 v2 σ => kk (v1, v2, σ)) (if tW n tp k < v then (0 : Int32) else 1) (I v) σ) _
      unfold rM_isName_28
      have hv25 : v = 25 := by omega
      subst hv25
      rw [brc_t (by decide)]
      have eW : tW n tp k = wfd (lts tp (ps n tp k) (tkM n tp (ps n tp k))) := a5
      by_cases hlt : tW n tp k < 25
      · have : cnm (tW n tp k) = false := decide_eq_false (by omega)
        rw [if_pos hlt, chk_t (by decide), this]
        exact wp_some rfl
      · have : cnm (tW n tp k) = true := decide_eq_true (by omega)
        rw [if_neg hlt, chk_t (by decide), this]
        exact wp_some rfl
  · exact no 2 (by omega) (by omega) a1 (decide_eq_false (by show ¬ (33 ≤ tkW n tp (ps n tp k) ∧ tkW n tp (ps n tp k) ≤ 38); omega))
  · have := sgo_b (tp (ps n tp k))
    exact no 3 (by omega) (by omega) a1 (decide_eq_false (by show ¬ (33 ≤ tkW n tp (ps n tp k) ∧ tkW n tp (ps n tp k) ≤ 38); omega))
  · exact no 4 (by omega) (by omega) a1 (decide_eq_false (by show ¬ (33 ≤ tkW n tp (ps n tp k) ∧ tkW n tp (ps n tp k) ≤ 38); omega))
