/-! laws: parts in the class -/
def vB (b : Nat) : Int32 := if b = 0 then 1 else 0
theorem eX_wfact {W : Nat} (hW : W < 42) (σ : St) : rX_wfact W σ = some (if fcC W = 0 then -1 else I (fcC W - 10000), σ) := by
  have d1 : ∀ W, W < 42 → (wdS.getD W 0 = (0 : Int32) ∨ wdS.getD W 0 = (3 : Int32) → wdM.getD W 0 = if fcC W = 0 then -1 else I (fcC W - 10000)) ∧ (¬ wdS.getD W 0 = (0 : Int32) → ¬ wdS.getD W 0 = (3 : Int32) → fcC W = 0) := by decide +kernel
  unfold rX_wfact rX_wfact_15 rX_wfact_23
  rw [chk_t (decide_eq_true hW)]
  by_cases h0 : wdS.getD W 0 = (0 : Int32)
  · rw [brc_t h0, chk_t (decide_eq_true hW), (d1 W hW).1 (Or.inl h0)]
  · rw [brc_f h0, chk_t (decide_eq_true hW)]
    by_cases h3 : wdS.getD W 0 = (3 : Int32)
    · rw [brc_f (fun h9 => h9 h3), chk_t (decide_eq_true hW), (d1 W hW).1 (Or.inr h3)]
    · rw [brc_t h3, if_pos ((d1 W hW).2 h0 h3)]
theorem fcC_b {W : Nat} : fcC W = 0 ∨ (10000 ≤ fcC W ∧ fcC W ≤ 10006) := by
  unfold fcC
  repeat (first | omega | split)
theorem eX_beginsPart {W b : Nat} (hW : W < 42) (hb : b = 0 ∨ b = 5) (σ : St) : rX_beginsPart W (vB b) σ = some (if bgP b W = true then 1 else 0, σ) := by
  have hf := fcC_b (W := W)
  unfold rX_beginsPart rX_beginsPart_21 rX_beginsPart_64 rX_beginsPart_45 rX_beginsPart_65
  rw [chk_t (decide_eq_true (by omega))]
  by_cases h39 : W = 39
  · rw [brc_t h39, chk_t (by decide), if_pos (show bgP b W = true from decide_eq_true (Or.inl h39))]
  · rw [brc_f h39, chk_t (decide_eq_true (by omega))]
    by_cases h22 : W = 22
    · rw [brc_t h22, chk_t (by decide), if_pos (show bgP b W = true from decide_eq_true (Or.inr (Or.inl h22)))]
    · rw [brc_f h22, chk_t (decide_eq_true (by omega))]
      by_cases h30 : W = 30
      · rw [brc_f (fun h9 => h9 h30), chk_t (by decide), if_pos (show bgP b W = true from decide_eq_true (Or.inr (Or.inr (Or.inl h30))))]
      · rw [brc_t h30, chk_t (decide_eq_true hW), eX_wfact hW, bnd2S, nmE]
        have eb : bgP b W = true ↔ (10000 + b ≤ fcC W ∧ fcC W < 10000 + hiB b) := by
          constructor
          · intro h8
            rcases of_decide_eq_true h8 with h9 | h9 | h9 | h9
            · exact absurd h9 h39
            · exact absurd h9 h22
            · exact absurd h9 h30
            · exact h9
          · intro h9
            exact decide_eq_true (Or.inr (Or.inr (Or.inr h9)))
        by_cases h0 : fcC W = 0
        · rw [if_pos h0, if_neg (fun h9 => by have := eb.mp h9; omega)]
          rcases hb with rfl | rfl
          · rw [brc_f (by decide), brc_t (by decide), chk_t (by decide)]
          · rw [brc_t (by decide), brc_t (by decide), chk_t (by decide)]
        · rw [if_neg h0]
          rcases hb with rfl | rfl
          · have hh : hiB 0 = 5 := rfl
            rw [brc_f (by decide), brc_f (by rw [I0, I_lt (by omega) (by omega)]; omega)]
            by_cases e : 4 < fcC W - 10000
            · rw [brc_t (by rw [litN, I_lt (by omega) (by omega)]; exact e), chk_t (by decide), if_neg (fun h9 => by have := eb.mp h9; omega)]
            · rw [brc_f (by rw [litN, I_lt (by omega) (by omega)]; exact e), chk_t (by decide), if_pos (eb.mpr (by omega))]
          · have hh : hiB 5 = 7 := rfl
            rw [brc_t (by decide)]
            by_cases e : fcC W - 10000 < 5
            · rw [brc_t (by rw [litN, I_lt (by omega) (by omega)]; exact e), chk_t (by decide), if_neg (fun h9 => by have := eb.mp h9; omega)]
            · rw [brc_f (by rw [litN, I_lt (by omega) (by omega)]; exact e), brc_f (by rw [litN, I_lt (by omega) (by omega)]; omega), chk_t (by decide), if_pos (eb.mpr (by omega))]
theorem eX_ltakePart {n : Nat} {tp : Nat → Nat} (hw : wfP n tp) {k b : Nat} {W out : List Nat} {σ : St} (hk : KX n tp k σ) (h : LW W out (brW W) (dpW W) σ) (hwf : wfS W) (hc : cdW W) (hl : out.length + W.length < 1000) (hdp : dpW W < 5) (hbg : bgP b (tW n tp k) = true) : wp (rX_ltakePart (tW n tp k) σ) (fun r => lrX σ r.2 ∧ ((tW n tp k = 22 ∧ r.1 = 1 ∧ LW (20002 :: W) out (brW (20002 :: W)) (dpW (20002 :: W)) r.2) ∨ (tW n tp k = 30 ∧ r.1 = 1 ∧ LW (20010 :: W) out (brW (20010 :: W)) (dpW (20010 :: W)) r.2) ∨ (¬ tW n tp k = 22 ∧ ¬ tW n tp k = 30 ∧ r.1 = 0 ∧ LW (popN W).2 (out ++ [atC (tW n tp k) (tV n tp k)] ++ (popN W).1) (brW (popN W).2) (dpW (popN W).2) r.2))) := by
  have hlt : tW n tp k < 42 := tkW_lt
  have hlen := wfS_len W hwf
  have htp := tpR_le W
  have hbl : brW W < 1000 := by
    have : ∀ W : List Nat, brW W ≤ W.length := by
      intro W
      induction W with
      | nil => exact Nat.le_refl _
      | cons c W ih =>
        show (if c = 20010 then 1 else 0) + brW W ≤ W.length + 1
        split <;> omega
    have := this W
    omega
  have p81 : ∀ c, wp (rX_ltakePart_81 (cX c) σ) (fun r => lrX σ r.2 ∧ r.1 = 0 ∧ LW (popN W).2 (out ++ [c] ++ (popN W).1) (brW (popN W).2) (dpW (popN W).2) r.2) := fun c => by
    unfold rX_ltakePart_81
    refine wp_bnd1 (wp_mono (eX_lwrite h (by omega) c) ?_)
    rintro τ ⟨f, hτ⟩
    refine wp_bnd1 (wp_mono (eX_lrelNots hτ hc (by rw [List.length_append, List.length_singleton]; omega) (by omega) (by omega)) ?_)
    rintro υ ⟨g, hυ⟩
    rw [chk_t (by decide), brW_n]
    exact wp_some ⟨lrX_tr f g, rfl, hυ⟩
  have m22 : wdM.getD 22 0 = cX 20002 := by decide
  have m30 : wdM.getD 30 0 = cX 20010 := by decide
  unfold rX_ltakePart
  rw [chk_t (decide_eq_true (by omega))]
  by_cases h22 : tW n tp k = 22
  · rw [brc_t h22]
    unfold rX_ltakePart_14 rX_ltakePart_49
    rw [chk_t (decide_eq_true hlt), h22, m22]
    refine wp_bnd1 (wp_mono (eX_lawait h (by omega) 20002) ?_)
    rintro τ ⟨f, hτ⟩
    rw [nmE, hτ.2.2.2.1, I1, I_add]
    have hL2 := LW_dp hτ (dpW W + 1)
    have f2 : lrX σ (setI τ 20 6 (I (dpW W + 1))) := lrX_I f _ (by omega)
    generalize setI τ 20 6 (I (dpW W + 1)) = ω at hL2 f2 ⊢
    rw [chk_t (by decide), brc_t (by decide), nmE, hL2.2.2.1, Int32.add_zero, chk_t (by decide)]
    have hL3 := LW_br hL2 (brW W)
    refine wp_some ⟨lrX_I f2 _ (by omega), Or.inl ⟨rfl, I1.symm, ?_⟩⟩
    rw [show brW (20002 :: W) = brW W from Nat.zero_add _, show dpW (20002 :: W) = dpW W + 1 from Nat.add_comm _ _]
    exact hL3
  · rw [brc_f h22, chk_t (decide_eq_true (by omega))]
    by_cases h30 : tW n tp k = 30
    · rw [brc_f (fun h9 => h9 h30)]
      unfold rX_ltakePart_14 rX_ltakePart_49
      rw [chk_t (decide_eq_true hlt), h30, m30]
      refine wp_bnd1 (wp_mono (eX_lawait h (by omega) 20010) ?_)
      rintro τ ⟨f, hτ⟩
      rw [nmE, hτ.2.2.2.1, I1, I_add]
      have hL2 := LW_dp hτ (dpW W + 1)
      have f2 : lrX σ (setI τ 20 6 (I (dpW W + 1))) := lrX_I f _ (by omega)
      generalize setI τ 20 6 (I (dpW W + 1)) = ω at hL2 f2 ⊢
      rw [chk_t (by decide), brc_f (fun h9 => h9 rfl), nmE, hL2.2.2.1, I_add, chk_t (by decide)]
      have hL3 := LW_br hL2 (brW W + 1)
      refine wp_some ⟨lrX_I f2 _ (by omega), Or.inr (Or.inl ⟨rfl, I1.symm, ?_⟩)⟩
      rw [show brW (20010 :: W) = brW W + 1 from Nat.add_comm _ _, show dpW (20010 :: W) = dpW W + 1 from Nat.add_comm _ _]
      exact hL3
    · rw [brc_t h30, chk_t (decide_eq_true (by omega))]
      by_cases h39 : tW n tp k = 39
      · obtain ⟨a1, a2, a3, a4, a5, a6⟩ := tk_num hw hk.2.1 h39
        have a5' : tV n tp k < 10000 := a5
        have e5 : σ.1 5 5 = cX (tV n tp k) := by
          rw [hk.2.2.2.2.2.2 a2 a3 a4, ← a6, cX_lo (by omega)]
        have eat : atC (tW n tp k) (tV n tp k) = tV n tp k := by unfold atC; rw [if_pos h39]
        rw [brc_f (fun h9 => h9 h39), e5, eat]
        refine wp_mono (p81 (tV n tp k)) ?_
        rintro r ⟨x1, x2, x3⟩
        exact ⟨x1, Or.inr (Or.inr ⟨h22, h30, x2, x3⟩)⟩
      · have hF : 10000 + b ≤ fcC (tW n tp k) := by
          rcases of_decide_eq_true hbg with h9 | h9 | h9 | h9
          · exact absurd h9 h39
          · exact absurd h9 h22
          · exact absurd h9 h30
          · exact h9.1
        have hf := fcC_b (W := tW n tp k)
        have eat : atC (tW n tp k) (tV n tp k) = fcC (tW n tp k) := by unfold atC; rw [if_neg h39]
        have e1 : (10000 : Int32) + I (fcC (tW n tp k) - 10000) = cX (fcC (tW n tp k)) := by
          rw [litN, I_add, cX_lo (by omega), show 10000 + (fcC (tW n tp k) - 10000) = fcC (tW n tp k) by omega]
        rw [brc_t h39, chk_t (decide_eq_true hlt), eX_wfact hlt, bnd2S, if_neg (by omega), e1, eat]
        refine wp_mono (p81 (fcC (tW n tp k))) ?_
        rintro r ⟨x1, x2, x3⟩
        exact ⟨x1, Or.inr (Or.inr ⟨h22, h30, x2, x3⟩)⟩
/-! the loop of the class over a law -/
def lxX (σ τ : St) : Prop := (∀ i, i ≠ 5 → i ≠ 20 → i ≠ 21 → i ≠ 22 → τ.1 i = σ.1 i) ∧ (∀ j, j ≠ 1 → j ≠ 4 → j ≠ 5 → τ.1 5 j = σ.1 5 j) ∧ (∀ i, i ≠ 5 → τ.2.1 i = σ.2.1 i) ∧ (∀ i, i ≠ 5 → τ.2.2.1 i = σ.2.2.1 i) ∧ τ.2.2.2 = σ.2.2.2
theorem lxX_lr {σ τ : St} (h : lrX σ τ) : lxX σ τ := ⟨fun i _ a b c => h.1 i a b c, fun j _ _ _ => by rw [h.1 5 (by decide) (by decide) (by decide)], fun i _ => by rw [h.2], fun i _ => by rw [h.2], by rw [h.2]⟩
theorem lxX_tk {σ τ : St} (h : tkX σ τ) : lxX σ τ := ⟨fun i a _ _ _ => h.1 i a, h.2.1, h.2.2.1, h.2.2.2.1, h.2.2.2.2⟩
theorem lxX_tr {σ τ υ : St} (h1 : lxX σ τ) (h2 : lxX τ υ) : lxX σ υ :=
  ⟨fun i a b c d => (h2.1 i a b c d).trans (h1.1 i a b c d), fun j a b c => (h2.2.1 j a b c).trans (h1.2.1 j a b c), fun i h => (h2.2.2.1 i h).trans (h1.2.2.1 i h), fun i h => (h2.2.2.2.1 i h).trans (h1.2.2.2.1 i h), h2.2.2.2.2.trans h1.2.2.2.2⟩
def bI (w : Bool) : Int32 := if w = true then 1 else 0
def SI (ks k : Nat) (want : Bool) (W out : List Nat) : Prop := cdW W ∧ wfS W ∧ dpW W ≤ 5 ∧ (want = false → ¬ W.head? = some 20002) ∧ out.length + W.length + ks ≤ k
/-- the class shows a configuration -/
def SX (n : Nat) (tp : Nat → Nat) (ks : Nat) (c : Cfg) (σ : St) : Prop := KX n tp c.1 σ ∧ LW c.2.2.1 c.2.2.2 (brW c.2.2.1) (dpW c.2.2.1) σ ∧ SI ks c.1 c.2.1 c.2.2.1 c.2.2.2
abbrev LawQ (n : Nat) (tp : Nat → Nat) (σ : St) (f kf : Nat) (outf : List Nat) (r : Int32 × St) : Prop := r.1 = I f ∧ lxX σ r.2 ∧ KX n tp kf r.2 ∧ (f = 0 → r.2.1 20 3 = I outf.length ∧ XS outf r.2 ∧ outf.length < 1000)
theorem eX_l138 {n : Nat} {tp : Nat → Nat} (hw : wfP n tp) {ks k i : Nat} {c' : Cfg} {σ τ : St} {k24 : Int32 → Int32 → Int32 → St → Option (Int32 × St)} {v1 v2 : Int32} {Q : Int32 × St → Prop} (hk : KX n tp k τ) (hc : c'.1 = k + 1) (hL : LW c'.2.2.1 c'.2.2.2 (brW c'.2.2.1) (dpW c'.2.2.1) τ) (hSI : SI ks c'.1 c'.2.1 c'.2.2.1 c'.2.2.2) (f : lxX σ τ) (hgo : ∀ υ, lxX σ υ → SX n tp ks c' υ → wp (k24 v1 v2 (I (i + 1)) υ) Q) : wp (rX_lreadLaw_138 k24 v1 v2 (I i) τ) Q := by
  unfold rX_lreadLaw_138
  refine wp_bnd1 (wp_mono (eX_step hw hk) ?_)
  rintro υ ⟨g, ku⟩
  rw [nmE, oi1, I_add]
  exact hgo υ (lxX_tr f (lxX_tk g)) ⟨by rw [hc]; exact ku, LW_tk g hL, hSI⟩
theorem eX_lawW {n : Nat} {tp : Nat → Nat} (hw : wfP n tp) {b ks k i : Nat} (hb : b = 0 ∨ b = 5) (hks : 1 ≤ ks) (hk1 : k ≤ 1000) (hi : i ≤ 1000) {W out : List Nat} {σ : St} (h : SX n tp ks (k, true, W, out) σ) {k24 : Int32 → Int32 → Int32 → St → Option (Int32 × St)} {Q : Int32 × St → Prop} (hstop : ∀ f kf outf, syW (tW n tp) (tV n tp) b k W out = .inr (f, kf, outf) → LawQ n tp σ f kf outf (I f, σ) → Q (I f, σ)) (hgo : ∀ c' υ, syW (tW n tp) (tV n tp) b k W out = .inl c' → c'.1 = k + 1 → ¬ tW n tp k = 40 → lxX σ υ → SX n tp ks c' υ → wp (k24 (vB b) (bI c'.2.1) (I (i + 1)) υ) Q) : wp (rX_lreadLaw_24 k24 (vB b) 1 (I i) σ) Q := by
  obtain ⟨hk, hL, hcd, hwf, hdp, -, hlen⟩ := h
  have hk' : KX n tp k σ := hk
  have hL' : LW W out (brW W) (dpW W) σ := hL
  have hlen' : out.length + W.length + ks ≤ k := hlen
  have hcd' : cdW W := hcd
  have hwf' : wfS W := hwf
  have hdp' : dpW W ≤ 5 := hdp
  have hlt : tW n tp k < 42 := tkW_lt
  have etok : σ.2.2.1 5 3 = tW n tp k := hk'.2.2.2.2.1
  have refl : lxX σ σ := lxX_lr lrX_refl
  unfold rX_lreadLaw_24
  rw [brc_f (by rw [litN, I_lt (by omega) (by omega)]; omega), brc_f (by decide), etok, eX_beginsPart hlt hb, bnd2S]
  by_cases hbg : bgP b (tW n tp k) = true
  · rw [if_pos hbg, brc_t (by decide), hL'.2.2.2.1]
    have h40 : ¬ tW n tp k = 40 := by
      intro h9
      rw [h9] at hbg
      have : ∀ b, b = 0 ∨ b = 5 → ¬ bgP b 40 = true := by rintro b (rfl | rfl) <;> decide
      exact this b hb hbg
    refine wp_brc (fun h5 => ?_) (fun h5 => ?_)
    · rw [litN, I_lt (by omega) (by omega)] at h5
      obtain ⟨n1, n2, n3, n4, n5⟩ := popN_wf W hwf' hcd'
      refine wp_bnd2 (wp_mono (eX_ltakePart hw hk' hL' hwf' hcd' (by omega) h5 hbg) ?_)
      rintro ⟨r, τ⟩ ⟨f, ⟨a, a1, a2⟩ | ⟨a, a1, a2⟩ | ⟨a, a', a1, a2⟩⟩
      · have a1' : r = 1 := a1
        subst a1'
        have es : syW (tW n tp) (tV n tp) b k W out = .inl (k + 1, true, 20002 :: W, out) := by
          unfold syW
          rw [if_pos hbg, if_neg (by omega), if_pos a]
        refine eX_l138 (ks := ks) (c' := (k + 1, true, 20002 :: W, out)) hw (KX_lr f hk') rfl a2 ⟨fun x hx => ?_, wfS_o hwf' (Or.inl rfl), ?_, fun h9 => Bool.noConfusion (show true = false from h9), ?_⟩ (lxX_lr f) (fun υ g s => hgo _ υ es rfl h40 g s)
        · rcases List.mem_cons.mp hx with h9 | h9
          · rw [h9]; omega
          · exact hcd' x h9
        · show 1 + dpW W ≤ 5
          omega
        · show out.length + (W.length + 1) + ks ≤ k + 1
          omega
      · have a1' : r = 1 := a1
        subst a1'
        have es : syW (tW n tp) (tV n tp) b k W out = .inl (k + 1, true, 20010 :: W, out) := by
          unfold syW
          rw [if_pos hbg, if_neg (by omega), if_neg (by omega), if_pos a]
        refine eX_l138 (ks := ks) (c' := (k + 1, true, 20010 :: W, out)) hw (KX_lr f hk') rfl a2 ⟨fun x hx => ?_, wfS_o hwf' (Or.inr rfl), ?_, fun h9 => Bool.noConfusion (show true = false from h9), ?_⟩ (lxX_lr f) (fun υ g s => hgo _ υ es rfl h40 g s)
        · rcases List.mem_cons.mp hx with h9 | h9
          · rw [h9]; omega
          · exact hcd' x h9
        · show 1 + dpW W ≤ 5
          omega
        · show out.length + (W.length + 1) + ks ≤ k + 1
          omega
      · have a1' : r = 0 := a1
        subst a1'
        have es : syW (tW n tp) (tV n tp) b k W out = .inl (fin (k + 1) W (out ++ [atC (tW n tp k) (tV n tp k)])) := by
          unfold syW
          rw [if_pos hbg, if_neg (by omega), if_neg a, if_neg a']
        refine eX_l138 (ks := ks) (c' := fin (k + 1) W (out ++ [atC (tW n tp k) (tV n tp k)])) hw (KX_lr f hk') rfl a2 ⟨n2, n1, ?_, fun _ => n5, ?_⟩ (lxX_lr f) (fun υ g s => hgo _ υ es rfl h40 g s)
        · show dpW (popN W).2 ≤ 5
          omega
        · show (out ++ [atC (tW n tp k) (tV n tp k)] ++ (popN W).1).length + (popN W).2.length + ks ≤ k + 1
          rw [List.length_append, List.length_append, List.length_singleton]
          omega
    · rw [litN, I_lt (by omega) (by omega)] at h5
      have es : syW (tW n tp) (tV n tp) b k W out = .inr (5, k, out) := by
        unfold syW
        rw [if_pos hbg, if_pos (by omega)]
      exact wp_some (hstop 5 k out es ⟨rfl, refl, hk', fun h9 => absurd h9 (by omega)⟩)
  · rw [if_neg hbg, brc_f (by decide)]
    have es : syW (tW n tp) (tV n tp) b k W out = .inr (1, k, out) := by
      unfold syW
      rw [if_neg hbg]
    exact wp_some (hstop 1 k out es ⟨rfl, refl, hk', fun h9 => absurd h9 (by omega)⟩)
