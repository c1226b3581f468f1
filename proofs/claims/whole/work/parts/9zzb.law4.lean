/-! laws: the class's loop against the machine -/
theorem eX_lawE {n : Nat} {tp : Nat → Nat} (hw : wfP n tp) {b ks k i : Nat} (hks : 1 ≤ ks) (hk1 : k ≤ 1000) (hi : i ≤ 1000) {W out : List Nat} {σ : St} (h : SX n tp ks (k, false, W, out) σ) {k24 : Int32 → Int32 → Int32 → St → Option (Int32 × St)} {Q : Int32 × St → Prop} (hstop : ∀ f kf outf τ, syE (tW n tp) k W out = .inr (f, kf, outf) → LawQ n tp σ f kf outf (I f, τ) → Q (I f, τ)) (hgo : ∀ c' υ, syE (tW n tp) k W out = .inl c' → c'.1 = k + 1 → ¬ tW n tp k = 40 → lxX σ υ → SX n tp ks c' υ → wp (k24 (vB b) (bI c'.2.1) (I (i + 1)) υ) Q) : wp (rX_lreadLaw_24 k24 (vB b) 0 (I i) σ) Q := by
  obtain ⟨hk, hL, hcd, hwf, hdp, hnn, hlen⟩ := h
  have hk' : KX n tp k σ := hk
  have hL' : LW W out (brW W) (dpW W) σ := hL
  have hlen' : out.length + W.length + ks ≤ k := hlen
  have hcd' : cdW W := hcd
  have hwf' : wfS W := hwf
  have hdp' : dpW W ≤ 5 := hdp
  have hn' : ¬ W.head? = some 20002 := hnn rfl
  have hlt : tW n tp k < 42 := tkW_lt
  have etok : σ.2.2.1 5 3 = tW n tp k := hk'.2.2.2.2.1
  have hWl := wfS_len W hwf'
  have htp := tpR_le W
  have hbl : brW W < 1000 := by
    have : ∀ W : List Nat, brW W ≤ W.length := by
      intro W
      induction W with
      | nil => exact Nat.le_refl _
      | cons c W ih =>
        show (if c = 20010 then 1 else 0) + brW W ≤ W.length + 1
        split <;> omega
    have := this W
    omega
  have p119 : ¬ (tW n tp k = 32 ∧ brW W = 0) → ¬ (tW n tp k = 31 ∧ 0 < brW W) → wp (rX_lreadLaw_119 k24 (vB b) (I i) (tW n tp k) σ) Q := fun n32 n31 => by
    unfold rX_lreadLaw_119
    rw [chk_t (decide_eq_true hlt), eX_wjoiner hlt, bnd2S]
    by_cases hj : jnC (tW n tp k) = 0
    · have es : syE (tW n tp) k W out = .inr (1, k, out) := by
        unfold syE
        rw [if_neg n32, if_neg n31, if_pos hj]
      have ej : rX_ltakeJoiner (-1 : Int32) σ = some (0, σ) := by
        unfold rX_ltakeJoiner
        rw [brc_f (fun h9 => h9 rfl), chk_t (by decide)]
      rw [if_pos hj, ej, bnd2S, brc_t rfl]
      exact wp_some (hstop 1 k out σ es ⟨rfl, lxX_lr lrX_refl, hk', fun h9 => absurd h9 (by omega)⟩)
    · have hW9 := jn_rk hj
      have hjr : 20003 ≤ jnC (tW n tp k) ∧ jnC (tW n tp k) ≤ 20009 := by
        have h : ∀ W, W < 30 → 23 ≤ W → 20003 ≤ jnC W ∧ jnC W ≤ 20009 := by decide
        exact h _ (by omega) hW9.1
      have hrj : 1 ≤ rkC (jnC (tW n tp k)) := by
        have h : ∀ W, W < 30 → 23 ≤ W → 1 ≤ rkC (jnC W) := by decide
        exact h _ (by omega) hW9.1
      rw [if_neg hj]
      refine wp_bnd2 (wp_mono (eX_takeJoiner hL' hcd' (by omega) (by omega) hjr) ?_)
      rintro ⟨r, τ⟩ ⟨f, ⟨a1, a2, a3⟩ | ⟨a1, a2, a3⟩⟩
      · have a3' : r = 0 := a3
        subst a3'
        have es : syE (tW n tp) k W out = .inr (1, k, out) := by
          unfold syE syJ
          rw [if_neg n32, if_neg n31, if_neg hj, if_pos a1, if_pos a2]
        show wp (brc ((0 : Int32) = 0) _ _) _
        rw [brc_t rfl]
        exact wp_some (hstop 1 k out τ es ⟨rfl, lxX_lr f, KX_lr f hk', fun h9 => absurd h9 (by omega)⟩)
      · have a2' : r = 1 := a2
        subst a2'
        have es : syE (tW n tp) k W out = .inl (k + 1, true, jnC (tW n tp k) :: (popR (jnS (jnC (tW n tp k))) W).2, out ++ (popR (jnS (jnC (tW n tp k))) W).1) := by
          unfold syE syJ jnS
          rw [if_neg n32, if_neg n31, if_neg hj]
          by_cases e2 : rkC (jnC (tW n tp k)) = 2
          · rw [if_pos e2, if_pos e2, if_neg (fun h9 => a1 ⟨e2, h9⟩)]
          · rw [if_neg e2, if_neg e2]
        have hs1 : 1 ≤ jnS (jnC (tW n tp k)) := by
          unfold jnS
          split <;> omega
        obtain ⟨p1, p2, p3, p4, p5, p6, p7⟩ := popR_wf hs1 W hwf' hcd'
        have ht3 : tpR (popR (jnS (jnC (tW n tp k))) W).2 < rkC (jnC (tW n tp k)) := by
          by_cases e2 : rkC (jnC (tW n tp k)) = 2
          · have e3 : jnS (jnC (tW n tp k)) = 3 := if_pos e2
            rw [e3] at p3 ⊢
            have : ¬ tpR (popR 3 W).2 = 2 := fun h9 => a1 ⟨e2, h9⟩
            omega
          · have e3 : jnS (jnC (tW n tp k)) = rkC (jnC (tW n tp k)) := if_neg e2
            rw [e3] at p3 ⊢
            exact p3
        show wp (brc ((1 : Int32) = 0) _ _) _
        rw [brc_f (by decide), nmE]
        have a3' : LW (jnC (tW n tp k) :: (popR (jnS (jnC (tW n tp k))) W).2) (out ++ (popR (jnS (jnC (tW n tp k))) W).1) (brW (jnC (tW n tp k) :: (popR (jnS (jnC (tW n tp k))) W).2)) (dpW (jnC (tW n tp k) :: (popR (jnS (jnC (tW n tp k))) W).2)) τ := by
          rw [dp_j hrj, p5, show brW (jnC (tW n tp k) :: (popR (jnS (jnC (tW n tp k))) W).2) = brW (popR (jnS (jnC (tW n tp k))) W).2 from brW_app [jnC (tW n tp k)] _ (fun x hx => by rw [List.mem_singleton.mp hx]; exact hrj), p6]
          exact a3
        refine eX_l138 (ks := ks) (c' := (k + 1, true, jnC (tW n tp k) :: (popR (jnS (jnC (tW n tp k))) W).2, out ++ (popR (jnS (jnC (tW n tp k))) W).1)) hw (KX_lr f hk') rfl a3' ⟨fun x hx => ?_, wfS_j p1 ht3 (p7 hn'), ?_, fun h9 => Bool.noConfusion (show true = false from h9), ?_⟩ (lxX_lr f) (fun υ g s => hgo _ υ es rfl (by omega) g s)
        · rcases List.mem_cons.mp hx with h9 | h9
          · rw [h9]; omega
          · exact p2 x h9
        · show dpW (jnC (tW n tp k) :: (popR (jnS (jnC (tW n tp k))) W).2) ≤ 5
          rw [dp_j hrj, p5]
          exact hdp'
        · show (out ++ (popR (jnS (jnC (tW n tp k))) W).1).length + ((popR (jnS (jnC (tW n tp k))) W).2.length + 1) + ks ≤ k + 1
          rw [List.length_append]
          omega
  have p97 : ¬ (tW n tp k = 32 ∧ brW W = 0) → wp (rX_lreadLaw_97 k24 (vB b) 0 (I i) (tW n tp k) σ) Q := fun n32 => by
    unfold rX_lreadLaw_97
    rw [chk_t (decide_eq_true (by omega))]
    refine wp_brc (fun t31 => p119 n32 (fun h9 => t31 h9.1)) (fun t31 => ?_)
    have t31' : tW n tp k = 31 := Classical.not_not.mp t31
    rw [hL'.2.2.1]
    refine wp_brc (fun t5 => ?_) (fun t5 => ?_)
    · rw [I0, I_le (by omega) (by omega)] at t5
      exact p119 n32 (fun h9 => by omega)
    · rw [I0, I_le (by omega) (by omega)] at t5
      refine wp_bnd1 (wp_mono (eX_takeClose hL' hwf' hcd' hn' (by omega) (by omega) hdp') ?_)
      rintro τ ⟨f, hτ, hh⟩
      have es : syE (tW n tp) k W out = .inl (fin (k + 1) (popR 1 W).2.tail (out ++ (popR 1 W).1)) := by
        unfold syE
        rw [if_neg n32, if_pos ⟨t31', by omega⟩]
      obtain ⟨p1, p2, p3, p4, p5, p6, p7⟩ := popR_wf (r := 1) (by omega) W hwf' hcd'
      have tl : wfS (popR 1 W).2.tail ∧ cdW (popR 1 W).2.tail ∧ dpW (popR 1 W).2.tail ≤ dpW W ∧ (popR 1 W).2.tail.length ≤ (popR 1 W).2.length := by
        generalize (popR 1 W).2 = W1 at p1 p2 p5
        cases W1 with
        | nil => exact ⟨p1, p2, by rw [← p5]; exact Nat.le_refl _, Nat.le_refl _⟩
        | cons c W1 =>
          refine ⟨p1.2.2, fun x hx => p2 x (List.mem_cons_of_mem _ hx), ?_, by simp⟩
          rw [← p5]
          show dpW W1 ≤ (if c = 20002 ∨ c = 20010 then 1 else 0) + dpW W1
          omega
      obtain ⟨n1, n2, n3, n4, n5⟩ := popN_wf _ tl.1 tl.2.1
      refine eX_l138 (ks := ks) (v2 := 0) (c' := fin (k + 1) (popR 1 W).2.tail (out ++ (popR 1 W).1)) hw (KX_lr f hk') rfl hτ ⟨n2, n1, ?_, fun _ => n5, ?_⟩ (lxX_lr f) (fun υ g s => hgo _ υ es rfl (by omega) g s)
      · show dpW (popN (popR 1 W).2.tail).2 ≤ 5
        omega
      · show (out ++ (popR 1 W).1 ++ (popN (popR 1 W).2.tail).1).length + (popN (popR 1 W).2.tail).2.length + ks ≤ k + 1
        rw [List.length_append, List.length_append]
        omega
  unfold rX_lreadLaw_24
  rw [brc_f (by rw [litN, I_lt (by omega) (by omega)]; omega), brc_t rfl, etok, chk_t (decide_eq_true (by omega))]
  refine wp_brc (fun t32 => p97 (fun h9 => t32 h9.1)) (fun t32 => ?_)
  have t32' : tW n tp k = 32 := Classical.not_not.mp t32
  rw [hL'.2.2.1]
  refine wp_brc (fun t5 => ?_) (fun t5 => ?_)
  · rw [I0, I_inj (by omega) (by omega)] at t5
    exact p97 (fun h9 => t5 h9.2)
  · have t5' := Classical.not_not.mp t5
    rw [I0, I_inj (by omega) (by omega)] at t5'
    obtain ⟨p1, p2, p3, p4, p5, p6, p7⟩ := popR_wf (r := 1) (by omega) W hwf' hcd'
    refine wp_bnd1 (wp_mono (eX_lrelease hL' hcd' (by omega) (by omega) (r := 1) (by omega)) ?_)
    rintro τ ⟨f, hτ⟩
    have es : syE (tW n tp) k W out = .inr (0, k, out ++ (popR 1 W).1) := by
      unfold syE
      rw [if_pos ⟨t32', t5'⟩]
    refine wp_some (hstop 0 k _ τ es ⟨rfl, lxX_lr f, KX_lr f hk', fun _ => ⟨hτ.1, hτ.2.2.2.2.2, ?_⟩⟩)
    rw [List.length_append]
    omega
theorem tW_end {n : Nat} {tp : Nat → Nat} {N : Nat} (hE : ps n tp N = n) : ∀ q, N ≤ q → ps n tp q = n
  | 0, h => by
    have : N = 0 := by omega
    subst this
    exact hE
  | q + 1, h => by
    by_cases e : N = q + 1
    · rw [← e]; exact hE
    · have ih := tW_end hE q (by omega)
      show tkR (pB tp) n (tkE n tp (ps n tp q)) = n
      rw [ih]
      have e1 : tkE n tp n = n := by unfold tkE; rw [if_neg (by omega)]
      rw [e1]
      exact tkR_out (by omega)
theorem tW_lt {n : Nat} {tp : Nat → Nat} {N k : Nat} (hE : ps n tp N = n) (h : ¬ tW n tp k = 40) : k < N := by
  apply Classical.byContradiction
  intro h9
  apply h
  show tkW n tp (ps n tp k) = 40
  rw [tW_end hE k (by omega)]
  unfold tkW
  rw [if_neg (by omega)]
theorem eX_lawL {n : Nat} {tp : Nat → Nat} (hw : wfP n tp) {b ks N : Nat} (hb : b = 0 ∨ b = 5) (hks : 1 ≤ ks) (hN : N ≤ 1000) (hE : ps n tp N = n) : ∀ (m fuel : Nat) (c : Cfg) (i : Nat) (σ : St) (f kf : Nat) (outf : List Nat), syR (tW n tp) (tV n tp) b m c = .inr (f, kf, outf) → SX n tp ks c σ → i + ks = c.1 → c.1 ≤ N → N < fuel + c.1 → wp (lp rX_lreadLaw_24L fuel (vB b, bI c.2.1, I i, σ)) (LawQ n tp σ f kf outf)
  | 0, _, _, _, _, _, _, _, h, _, _, _, _ => by cases h
  | m + 1, fuel, (k, want, W, out), i, σ, f, kf, outf, h, hs, hi, hk, hf => by
    have hi' : i + ks = k := hi
    have hk' : k ≤ N := hk
    have hf' : N < fuel + k := hf
    obtain ⟨fuel, rfl⟩ : ∃ g, fuel = g + 1 := ⟨fuel - 1, by omega⟩
    have next : ∀ (c' : Cfg) (υ : St), syS (tW n tp) (tV n tp) b (k, want, W, out) = .inl c' → c'.1 = k + 1 → ¬ tW n tp k = 40 → lxX σ υ → SX n tp ks c' υ → wp (lp rX_lreadLaw_24L fuel (vB b, bI c'.2.1, I (i + 1), υ)) (LawQ n tp σ f kf outf) := fun c' υ es ec h40 g s => by
      rw [syR_l es] at h
      have hlt := tW_lt hE h40
      refine wp_mono (eX_lawL hw hb hks hN hE m fuel c' (i + 1) υ f kf outf h s (by omega) (by omega) (by omega)) ?_
      rintro r ⟨a1, a2, a3, a4⟩
      exact ⟨a1, lxX_tr g a2, a3, a4⟩
    cases want with
    | true =>
      show wp (rX_lreadLaw_24 (fun v1 v2 v3 σ => lp rX_lreadLaw_24L fuel (v1, v2, v3, σ)) (vB b) 1 (I i) σ) _
      refine eX_lawW hw hb hks (by omega) (by omega) hs (fun f1 kf1 outf1 es hq => ?_) (fun c' υ es ec h40 g s => next c' υ es ec h40 g s)
      have e1 : syR (tW n tp) (tV n tp) b (m + 1) (k, true, W, out) = .inr (f1, kf1, outf1) := syR_r es
      rw [e1] at h
      cases h
      exact hq
    | false =>
      show wp (rX_lreadLaw_24 (fun v1 v2 v3 σ => lp rX_lreadLaw_24L fuel (v1, v2, v3, σ)) (vB b) 0 (I i) σ) _
      refine eX_lawE hw hks (by omega) (by omega) hs (fun f1 kf1 outf1 τ es hq => ?_) (fun c' υ es ec h40 g s => next c' υ es ec h40 g s)
      have e1 : syR (tW n tp) (tV n tp) b (m + 1) (k, false, W, out) = .inr (f1, kf1, outf1) := syR_r es
      rw [e1] at h
      cases h
      exact hq
theorem eX_lreadLaw {n : Nat} {tp : Nat → Nat} (hw : wfP n tp) {b ks N m f kf : Nat} {outf : List Nat} {σ : St} (hb : b = 0 ∨ b = 5) (hks : 1 ≤ ks) (hksN : ks ≤ N) (hN : N ≤ 1000) (hE : ps n tp N = n) (hk : KX n tp ks σ) (h : syR (tW n tp) (tV n tp) b m (ks, true, [], []) = .inr (f, kf, outf)) : wp (rX_lreadLaw (vB b) σ) (LawQ n tp σ f kf outf) := by
  unfold rX_lreadLaw
  rw [nmE, nmE, nmE, nmE, nmE, nmE]
  have f0 : lrX σ (setI (setI (setI (setI σ 20 3 0) 20 4 0) 20 5 0) 20 6 0) := lrX_I (lrX_I (lrX_I (lrX_I lrX_refl _ (by omega)) _ (by omega)) _ (by omega)) _ (by omega)
  have hL : LW [] [] 0 0 (setI (setI (setI (setI σ 20 3 0) 20 4 0) 20 5 0) 20 6 0) := by
    refine ⟨?_, ?_, ?_, ?_, trivial, fun i hi => absurd hi (Nat.not_lt_zero _)⟩
    · rw [gI_ne2 _ _ _ (by decide), gI_ne2 _ _ _ (by decide), gI_ne2 _ _ _ (by decide), gI_same]; rfl
    · rw [gI_ne2 _ _ _ (by decide), gI_ne2 _ _ _ (by decide), gI_same]; rfl
    · rw [gI_ne2 _ _ _ (by decide), gI_same]; rfl
    · rw [gI_same]; rfl
  generalize setI (setI (setI (setI σ 20 3 0) 20 4 0) 20 5 0) 20 6 0 = τ at f0 hL ⊢
  have hs : SX n tp ks (ks, true, [], []) τ := ⟨KX_lr f0 hk, hL, fun x hx => absurd hx (List.not_mem_nil), trivial, Nat.zero_le _, fun h9 => Bool.noConfusion (show true = false from h9), by show 0 + 0 + ks ≤ ks; omega⟩
  refine wp_mono (eX_lawL hw hb hks hN hE m fu (ks, true, [], []) 0 τ f kf outf h hs (Nat.zero_add _) hksN (by unfold fu; show N < 4096 + ks; omega)) ?_
  rintro r ⟨a1, a2, a3, a4⟩
  exact ⟨a1, lxX_tr (lxX_lr f0) a2, a3, a4⟩
