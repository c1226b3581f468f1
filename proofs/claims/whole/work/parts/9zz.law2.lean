/-! laws: what stands in the class's row of waiting signs -/
def wfS : List Nat → Prop
  | [] => True
  | c :: W => (c :: W).length ≤ 5 * dpW (c :: W) + rkC c ∧ (1 ≤ rkC c → ¬ W.head? = some 20002) ∧ wfS W
theorem wfS_len : ∀ W : List Nat, wfS W → W.length ≤ 5 * dpW W + tpR W
  | [], _ => Nat.zero_le _
  | _ :: _, h => h.1
theorem popR_wf {r : Nat} (hr : 1 ≤ r) : ∀ W : List Nat, wfS W → cdW W → wfS (popR r W).2 ∧ cdW (popR r W).2 ∧ tpR (popR r W).2 < r ∧ (popR r W).1.length + (popR r W).2.length = W.length ∧ dpW (popR r W).2 = dpW W ∧ brW (popR r W).2 = brW W ∧ (¬ W.head? = some 20002 → ¬ (popR r W).2.head? = some 20002)
  | [], h, hc => ⟨h, hc, hr, rfl, rfl, rfl, fun h => h⟩
  | c :: W, h, hc => by
    by_cases e : r ≤ rkC c
    · have e1 : popR r (c :: W) = (c :: (popR r W).1, (popR r W).2) := if_pos e
      obtain ⟨a1, a2, a3, a4, a5, a6, a7⟩ := popR_wf hr W h.2.2 (fun x hx => hc x (List.mem_cons_of_mem _ hx))
      rw [e1]
      refine ⟨a1, a2, a3, ?_, ?_, ?_, fun _ => a7 (h.2.1 (by omega))⟩
      · show (popR r W).1.length + 1 + (popR r W).2.length = W.length + 1
        omega
      · rw [dp_j (by omega)]; exact a5
      · rw [show brW (c :: W) = brW W from brW_app [c] W (fun x hx => by rw [List.mem_singleton.mp hx]; omega)]; exact a6
    · have e1 : popR r (c :: W) = ([], c :: W) := if_neg e
      rw [e1]
      exact ⟨h, hc, by show rkC c < r; omega, Nat.zero_add _, rfl, rfl, fun h => h⟩
theorem popN_wf : ∀ W : List Nat, wfS W → cdW W → wfS (popN W).2 ∧ cdW (popN W).2 ∧ (popN W).1.length + (popN W).2.length = W.length ∧ dpW (popN W).2 ≤ dpW W ∧ ¬ (popN W).2.head? = some 20002
  | [], h, hc => ⟨h, hc, rfl, Nat.le_refl _, fun h => by cases h⟩
  | c :: W, h, hc => by
    by_cases e : c = 20002
    · have e1 : popN (c :: W) = (c :: (popN W).1, (popN W).2) := if_pos e
      obtain ⟨a1, a2, a3, a4, a5⟩ := popN_wf W h.2.2 (fun x hx => hc x (List.mem_cons_of_mem _ hx))
      rw [e1]
      refine ⟨a1, a2, ?_, ?_, a5⟩
      · show (popN W).1.length + 1 + (popN W).2.length = W.length + 1
        omega
      · show dpW (popN W).2 ≤ (if c = 20002 ∨ c = 20010 then 1 else 0) + dpW W
        omega
    · have e1 : popN (c :: W) = ([], c :: W) := if_neg e
      rw [e1]
      exact ⟨h, hc, Nat.zero_add _, Nat.le_refl _, fun h9 => e (Option.some.inj h9)⟩
theorem wfS_j {j : Nat} {W : List Nat} (h : wfS W) (hr : tpR W < rkC j) (hn : ¬ W.head? = some 20002) : wfS (j :: W) := by
  refine ⟨?_, fun _ => hn, h⟩
  have h1 := wfS_len W h
  rw [dp_j (by omega), List.length_cons]
  omega
theorem tpR_le (W : List Nat) : tpR W ≤ 4 := by
  cases W with
  | nil => exact Nat.zero_le _
  | cons c W => exact rkC_le c
theorem wfS_o {j : Nat} {W : List Nat} (h : wfS W) (hj : j = 20002 ∨ j = 20010) : wfS (j :: W) := by
  refine ⟨?_, fun h9 => ?_, h⟩
  · have h1 := wfS_len W h
    have h2 := tpR_le W
    have h3 : dpW (j :: W) = 1 + dpW W := by
      show (if j = 20002 ∨ j = 20010 then 1 else 0) + dpW W = _
      rw [if_pos hj]
    rw [h3, List.length_cons]
    omega
  · rcases hj with rfl | rfl <;> exact absurd h9 (by decide)
theorem KX_lr {n : Nat} {tp : Nat → Nat} {k : Nat} {σ τ : St} (f : lrX σ τ) (h : KX n tp k σ) : KX n tp k τ := by
  obtain ⟨⟨z1, z2⟩, z3, z4, z5, z6, z7, z8⟩ := h
  have q5 := f.1 5 (by decide) (by decide) (by decide)
  have q6 := f.1 6 (by decide) (by decide) (by decide)
  exact ⟨⟨by rw [q5]; exact z1, fun i hi => by rw [q6]; exact z2 i hi⟩, z3, by rw [q5]; exact z4, by rw [q5]; exact z5, by rw [f.2]; exact z6, fun x y => by rw [f.2]; exact z7 x y, fun x y z => by rw [q5]; exact z8 x y z⟩
theorem LW_tk {W out : List Nat} {br dp : Nat} {σ τ : St} (f : tkX σ τ) (h : LW W out br dp σ) : LW W out br dp τ := by
  obtain ⟨h3, h4, h5, h6, hW, hS⟩ := h
  have e20 := f.1 20 (by decide)
  have e21 := f.1 21 (by decide)
  have e22 := f.1 22 (by decide)
  exact ⟨by rw [e20]; exact h3, by rw [e20]; exact h4, by rw [e20]; exact h5, by rw [e20]; exact h6, XW_fr W (fun j _ => by rw [e22]) hW, fun i hi => by rw [e21]; exact hS i hi⟩
/-! joiners -/
def cwC (W : Nat) : Nat := if W = 22 then 20002 else if W = 30 then 20010 else jnC W
theorem rank_m1 (σ : St) : rX_rank (-1) σ = some (0, σ) := by
  unfold rX_rank
  rw [brc_f (by decide), brc_f (by decide), brc_f (by decide), brc_f (by decide), brc_f (by decide), brc_f (by decide), brc_f (by decide)]
theorem eX_wjoiner {W : Nat} (hW : W < 42) (σ : St) : rX_wjoiner W σ = some (if jnC W = 0 then -1 else cX (jnC W), σ) := by
  have d1 : ∀ W, W < 42 → (wdS.getD W 0 = (2 : Int32) → 22 ≤ W ∧ W ≤ 32) ∧ (¬ wdS.getD W 0 = (2 : Int32) → jnC W = 0) := by decide +kernel
  have d2 : ∀ W, W < 33 → 31 ≤ W → wdM.getD W 0 = (-1 : Int32) ∧ jnC W = 0 := by decide +kernel
  have d3 : ∀ W, W < 31 → 22 ≤ W → wdM.getD W 0 = cX (cwC W) ∧ (20002 ≤ cwC W ∧ cwC W ≤ 20010) ∧ (rkC (cwC W) = 0 → jnC W = 0) ∧ (¬ rkC (cwC W) = 0 → jnC W = cwC W ∧ ¬ jnC W = 0) := by decide +kernel
  unfold rX_wjoiner rX_wjoiner_25 rX_wjoiner_26
  rw [chk_t (decide_eq_true hW)]
  by_cases hs : wdS.getD W 0 = (2 : Int32)
  · have hr := (d1 W hW).1 hs
    rw [brc_f (fun h9 => h9 hs)]
    by_cases h31 : 31 ≤ W
    · obtain ⟨m1, m2⟩ := d2 W (by omega) h31
      rw [chk_t (decide_eq_true hW), m1, rank_m1, bnd2S, brc_t (by decide), if_pos m2]
    · obtain ⟨m1, m2, m3, m4⟩ := d3 W (by omega) hr.1
      have hle := rkC_le (cwC W)
      rw [chk_t (decide_eq_true hW), m1, eX_rank m2, bnd2S]
      by_cases e : rkC (cwC W) = 0
      · rw [brc_t (by rw [I0, I_le (by omega) (by omega)]; omega), if_pos (m3 e)]
      · rw [brc_f (by rw [I0, I_le (by omega) (by omega)]; omega), chk_t (decide_eq_true hW), if_neg (m4 e).2, (m4 e).1]
  · rw [brc_t hs, if_pos ((d1 W hW).2 hs)]
def jnS (j : Nat) : Nat := if rkC j = 2 then 3 else rkC j
theorem eX_takeJoiner {W out : List Nat} {br dp j : Nat} {σ : St} (h : LW W out br dp σ) (hc : cdW W) (hl : out.length + W.length ≤ 1000) (hW64 : W.length < 64) (hj : 20003 ≤ j ∧ j ≤ 20009) : wp (rX_ltakeJoiner (cX j) σ) (fun r => lrX σ r.2 ∧ ((rkC j = 2 ∧ tpR (popR 3 W).2 = 2 ∧ r.1 = 0) ∨ (¬ (rkC j = 2 ∧ tpR (popR 3 W).2 = 2) ∧ r.1 = 1 ∧ LW (j :: (popR (jnS j) W).2) (out ++ (popR (jnS j) W).1) br dp r.2))) := by
  have d1 : ∀ d, d < 7 → ¬ cX (20003 + d) = -1 ∧ 1 ≤ rkC (20003 + d) := by decide
  have d2 := d1 (j - 20003) (by omega)
  rw [show 20003 + (j - 20003) = j by omega] at d2
  have hle := rkC_le j
  have plen : ∀ r, (popR r W).2.length ≤ W.length := by
    intro r
    clear hc hl hW64 h
    induction W with
    | nil => exact Nat.le_refl _
    | cons c W ih =>
      by_cases e : r ≤ rkC c
      · have e1 : popR r (c :: W) = (c :: (popR r W).1, (popR r W).2) := if_pos e
        rw [e1, List.length_cons]
        exact Nat.le_succ_of_le ih
      · have e1 : popR r (c :: W) = ([], c :: W) := if_neg e
        rw [e1]
        exact Nat.le_refl _
  have pcd : ∀ r, cdW (popR r W).2 := by
    intro r
    clear hl hW64 h plen
    induction W with
    | nil => exact hc
    | cons c W ih =>
      by_cases e : r ≤ rkC c
      · have e1 : popR r (c :: W) = (c :: (popR r W).1, (popR r W).2) := if_pos e
        rw [e1]
        exact ih (fun x hx => hc x (List.mem_cons_of_mem _ hx))
      · have e1 : popR r (c :: W) = ([], c :: W) := if_neg e
        rw [e1]
        exact hc
  have p60 : ∀ (W1 out1 : List Nat) (τ : St), lrX σ τ → LW W1 out1 br dp τ → W1.length < 64 → wp (rX_ltakeJoiner_60 (cX j) τ) (fun r => lrX σ r.2 ∧ r.1 = 1 ∧ LW (j :: W1) out1 br dp r.2) := fun W1 out1 τ f hL h64 => by
    unfold rX_ltakeJoiner_60
    refine wp_bnd1 (wp_mono (eX_lawait hL h64 j) ?_)
    rintro υ ⟨g, hυ⟩
    rw [chk_t (by decide)]
    exact wp_some ⟨lrX_tr f g, rfl, hυ⟩
  unfold rX_ltakeJoiner
  rw [brc_t d2.1, eX_rank (by omega), bnd2S, nmE]
  by_cases e2 : rkC j = 2
  · have es : jnS j = 3 := if_pos e2
    rw [es, e2, brc_f (fun h9 => h9 (by decide)), show I 2 + (1 : Int32) = I 3 by decide]
    unfold rX_ltakeJoiner_25
    refine wp_bnd1 (wp_mono (eX_lrelease h hc hl (by omega) (r := 3) (by omega)) ?_)
    rintro τ ⟨f, hL⟩
    have hp64 := plen 3
    have hcd := pcd 3
    rw [brc_f (fun h9 => h9 (by decide))]
    generalize (popR 3 W).2 = W1 at hL hp64 hcd ⊢
    generalize out ++ (popR 3 W).1 = out1 at hL ⊢
    cases W1 with
    | nil =>
      have h4 : τ.1 20 4 = I 0 := hL.2.1
      rw [h4, brc_t (by decide)]
      refine wp_mono (p60 [] out1 τ f hL (by simp)) ?_
      rintro r ⟨a, a', a''⟩
      exact ⟨a, Or.inr ⟨fun h9 => absurd h9.2 (by decide), a', a''⟩⟩
    | cons c W1 =>
      obtain ⟨-, hcell, h4⟩ := LW_pop hL
      rw [List.length_cons] at hp64
      have hcc := hcd c (List.mem_cons_self)
      have hrk := rkC_le c
      have e : I (W1.length + 1) - (1 : Int32) = I W1.length := by rw [I1, I_sub (by omega), Nat.add_sub_cancel]
      rw [h4, brc_f (by rw [I0, I_le (by omega) (by omega)]; omega), e, chk_t (ib_I (by omega) (by omega)), I_cl (by omega), hcell, eX_rank hcc, bnd2S]
      refine wp_brc (fun h1 => ?_) (fun h1 => ?_)
      · rw [I_inj (by omega) (by omega)] at h1
        refine wp_mono (p60 (c :: W1) out1 τ f hL (by rw [List.length_cons]; omega)) ?_
        rintro r ⟨a, a', a''⟩
        exact ⟨a, Or.inr ⟨fun h9 => h1 h9.2, a', a''⟩⟩
      · have h9 := Classical.not_not.mp h1
        rw [I_inj (by omega) (by omega)] at h9
        rw [chk_t (by decide)]
        exact wp_some ⟨f, Or.inl ⟨rfl, h9, rfl⟩⟩
  · have es : jnS j = rkC j := if_neg e2
    rw [es, brc_t (by rw [litN, I_inj (by omega) (by omega)]; exact e2)]
    unfold rX_ltakeJoiner_25
    refine wp_bnd1 (wp_mono (eX_lrelease h hc hl (by omega) (r := rkC j) (by omega)) ?_)
    rintro τ ⟨f, hL⟩
    rw [brc_t (by rw [litN, I_inj (by omega) (by omega)]; exact e2)]
    have hp64 := plen (rkC j)
    refine wp_mono (p60 _ _ τ f hL (by omega)) ?_
    rintro r ⟨a, a', a''⟩
    exact ⟨a, Or.inr ⟨fun h9 => e2 h9.1, a', a''⟩⟩
/-! closing -/
theorem eX_takeClose {W out : List Nat} {σ : St} (h : LW W out (brW W) (dpW W) σ) (hwf : wfS W) (hc : cdW W) (hn : ¬ W.head? = some 20002) (hbr : 0 < brW W) (hl : out.length + W.length ≤ 1000) (hdp : dpW W ≤ 5) : wp (rX_ltakeClose σ) (fun τ => lrX σ τ ∧ LW (popN (popR 1 W).2.tail).2 (out ++ (popR 1 W).1 ++ (popN (popR 1 W).2.tail).1) (brW (popN (popR 1 W).2.tail).2) (dpW (popN (popR 1 W).2.tail).2) τ ∧ (popR 1 W).2.head? = some 20010) := by
  have hlen := wfS_len W hwf
  have htp := tpR_le W
  obtain ⟨a1, a2, a3, a4, a5, a6, a7⟩ := popR_wf (r := 1) (by omega) W hwf hc
  unfold rX_ltakeClose
  refine wp_bnd1 (wp_mono (eX_lrelease h hc hl (by omega) (r := 1) (by omega)) ?_)
  rintro τ ⟨f, hL⟩
  have ol : (out ++ (popR 1 W).1).length + (popR 1 W).2.length ≤ 1000 := by rw [List.length_append]; omega
  have hn1 := a7 hn
  generalize (popR 1 W).2 = W1 at hL a1 a2 a3 a4 a5 a6 hn1 ol ⊢
  generalize out ++ (popR 1 W).1 = out1 at hL ol ⊢
  cases W1 with
  | nil =>
    exfalso
    have : brW ([] : List Nat) = 0 := rfl
    omega
  | cons c W1 =>
    have hcc := a2 c (List.mem_cons_self)
    have h0 : rkC c < 1 := a3
    have hco : c = 20010 := by
      have h2 : ¬ c = 20002 := fun h9 => hn1 (by rw [h9]; rfl)
      have d : ∀ d, d < 9 → rkC (20002 + d) < 1 → 20002 + d = 20002 ∨ 20002 + d = 20010 := by decide
      have := d (c - 20002) (by omega) (by rw [show 20002 + (c - 20002) = c by omega]; exact h0)
      omega
    subst hco
    have eb : brW (20010 :: W1) = 1 + brW W1 := rfl
    have ed : dpW (20010 :: W1) = 1 + dpW W1 := rfl
    rw [eb] at a6
    rw [ed] at a5
    obtain ⟨hL', -, h4⟩ := LW_pop hL
    rw [List.length_cons] at ol a4
    have e : I (W1.length + 1) - (1 : Int32) = I W1.length := by rw [I1, I_sub (by omega), Nat.add_sub_cancel]
    rw [h4, brc_f (by rw [I0, I_le (by omega) (by omega)]; omega)]
    unfold rX_ltakeClose_22
    rw [nmE, e, nmE, nmE]
    have f1 : lrX σ (setI τ 20 4 (I W1.length)) := lrX_I f _ (by omega)
    generalize setI τ 20 4 (I W1.length) = υ at hL' f1 ⊢
    rw [hL'.2.2.1, I1, I_sub (by omega), show brW W - 1 = brW W1 by omega]
    have hL2 := LW_br hL' (brW W1)
    have f2 : lrX σ (setI υ 20 5 (I (brW W1))) := lrX_I f1 _ (by omega)
    generalize setI υ 20 5 (I (brW W1)) = ω at hL2 f2 ⊢
    rw [hL2.2.2.2.1, I_sub (by omega), show dpW W - 1 = dpW W1 by omega]
    have hL3 := LW_dp hL2 (dpW W1)
    have f3 : lrX σ (setI ω 20 6 (I (dpW W1))) := lrX_I f2 _ (by omega)
    generalize setI ω 20 6 (I (dpW W1)) = ζ at hL3 f3 ⊢
    refine wp_bnd1 (wp_mono (eX_lrelNots hL3 (fun x hx => a2 x (List.mem_cons_of_mem _ hx)) (by omega) (by omega) (by omega)) ?_)
    rintro ξ ⟨g, hξ⟩
    refine wp_some ⟨lrX_tr f3 g, ?_, rfl⟩
    show LW (popN W1).2 (out1 ++ (popN W1).1) (brW (popN W1).2) (dpW (popN W1).2) ξ
    rw [brW_n]
    exact hξ
