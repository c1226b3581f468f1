/-! laws: what the class does with its rows -/
def XW (σ : St) : List Nat → Prop
  | [] => True
  | c :: W => σ.1 22 W.length = cX c ∧ XW σ W
def XS (out : List Nat) (σ : St) : Prop := ∀ i, i < out.length → σ.1 21 i = cX (out.getD i 0)
def LW (W out : List Nat) (br dp : Nat) (σ : St) : Prop := σ.1 20 3 = I out.length ∧ σ.1 20 4 = I W.length ∧ σ.1 20 5 = I br ∧ σ.1 20 6 = I dp ∧ XW σ W ∧ XS out σ
def lrX (σ τ : St) : Prop := (∀ i, i ≠ 20 → i ≠ 21 → i ≠ 22 → τ.1 i = σ.1 i) ∧ τ.2 = σ.2
theorem lrX_refl {σ : St} : lrX σ σ := ⟨fun _ _ _ _ => rfl, rfl⟩
theorem lrX_tr {σ τ υ : St} (h1 : lrX σ τ) (h2 : lrX τ υ) : lrX σ υ := ⟨fun i a b c => (h2.1 i a b c).trans (h1.1 i a b c), h2.2.trans h1.2⟩
theorem lrX_I {σ τ : St} (h : lrX σ τ) {i j : Nat} (v : Int32) (hi : i = 20 ∨ i = 21 ∨ i = 22) : lrX σ (setI τ i j v) := lrX_tr h ⟨fun q a b c => gI_ne1 _ _ _ (by omega), rfl⟩
theorem XW_fr {σ τ : St} : ∀ W : List Nat, (∀ j, j < W.length → τ.1 22 j = σ.1 22 j) → XW σ W → XW τ W
  | [], _, _ => trivial
  | c :: W, h, hx => ⟨by rw [h _ (by simp)]; exact hx.1, XW_fr W (fun j hj => h j (by simp; omega)) hx.2⟩
theorem XS_snoc {out : List Nat} {σ τ : St} {c : Nat} (h : XS out σ) (hf : ∀ j, j < out.length → τ.1 21 j = σ.1 21 j) (hc : τ.1 21 out.length = cX c) : XS (out ++ [c]) τ := by
  intro i hi
  rw [List.length_append, List.length_singleton] at hi
  by_cases e : i < out.length
  · rw [hf i e, h i e]
    simp [List.getD_eq_getElem?_getD, List.getElem?_append_left e]
  · have : i = out.length := by omega
    subst this
    rw [hc]
    simp [List.getD_eq_getElem?_getD]
theorem eX_lwrite {W out : List Nat} {br dp : Nat} {σ : St} (h : LW W out br dp σ) (hl : out.length < 1000) (c : Nat) : wp (rX_lwrite (cX c) σ) (fun τ => lrX σ τ ∧ LW W (out ++ [c]) br dp τ) := by
  obtain ⟨h3, h4, h5, h6, hW, hS⟩ := h
  unfold rX_lwrite rX_lwrite_30
  rw [h3, brc_f (by rw [litN, I_le (by omega) (by omega)]; omega), chk_t (ib_I hl (by omega)), nmE, nmE, I_cl (by omega), gI_ne1 _ _ _ (show (20 : Nat) ≠ 21 by decide), h3, I1, I_add]
  refine wp_some ⟨lrX_I (lrX_I lrX_refl _ (by omega)) _ (by omega), ?_, ?_, ?_, ?_, ?_, ?_⟩
  · rw [gI_same, List.length_append, List.length_singleton]
  · rw [gI_ne2 _ _ _ (by decide), gI_ne1 _ _ _ (by decide)]; exact h4
  · rw [gI_ne2 _ _ _ (by decide), gI_ne1 _ _ _ (by decide)]; exact h5
  · rw [gI_ne2 _ _ _ (by decide), gI_ne1 _ _ _ (by decide)]; exact h6
  · exact XW_fr W (fun j _ => by rw [gI_ne1 _ _ _ (by decide), gI_ne1 _ _ _ (by decide)]) hW
  · exact XS_snoc hS (fun j hj => by rw [gI_ne1 _ _ _ (by decide), gI_ne2 _ _ _ (by omega)]) (by rw [gI_ne1 _ _ _ (by decide), gI_same])
theorem eX_lawait {W out : List Nat} {br dp : Nat} {σ : St} (h : LW W out br dp σ) (hl : W.length < 64) (c : Nat) : wp (rX_lawait (cX c) σ) (fun τ => lrX σ τ ∧ LW (c :: W) out br dp τ) := by
  obtain ⟨h3, h4, h5, h6, hW, hS⟩ := h
  unfold rX_lawait rX_lawait_29
  rw [h4, brc_f (by rw [litN, I_le (by omega) (by omega)]; omega), chk_t (ib_I hl (by omega)), nmE, nmE, I_cl (by omega), gI_ne1 _ _ _ (show (20 : Nat) ≠ 22 by decide), h4, I1, I_add]
  refine wp_some ⟨lrX_I (lrX_I lrX_refl _ (by omega)) _ (by omega), ?_, ?_, ?_, ?_, ⟨?_, ?_⟩, ?_⟩
  · rw [gI_ne2 _ _ _ (by decide), gI_ne1 _ _ _ (by decide)]; exact h3
  · rw [gI_same, List.length_cons]
  · rw [gI_ne2 _ _ _ (by decide), gI_ne1 _ _ _ (by decide)]; exact h5
  · rw [gI_ne2 _ _ _ (by decide), gI_ne1 _ _ _ (by decide)]; exact h6
  · rw [gI_ne1 _ _ _ (by decide), gI_same]
  · exact XW_fr W (fun j hj => by rw [gI_ne1 _ _ _ (by decide), gI_ne2 _ _ _ (by omega)]) hW
  · intro i hi
    rw [gI_ne1 _ _ _ (by decide), gI_ne1 _ _ _ (by decide)]
    exact hS i hi
def cdW (W : List Nat) : Prop := ∀ c, c ∈ W → 20002 ≤ c ∧ c ≤ 20010
theorem rkC_le (c : Nat) : rkC c ≤ 4 := by
  unfold rkC
  repeat (first | omega | split)
theorem eX_rank {c : Nat} (hc : 20002 ≤ c ∧ c ≤ 20010) (σ : St) : rX_rank (cX c) σ = some (I (rkC c), σ) := by
  have h : c = 20002 ∨ c = 20003 ∨ c = 20004 ∨ c = 20005 ∨ c = 20006 ∨ c = 20007 ∨ c = 20008 ∨ c = 20009 ∨ c = 20010 := by omega
  unfold rX_rank
  rcases h with rfl | rfl | rfl | rfl | rfl | rfl | rfl | rfl | rfl
  · rw [brc_f (by decide), brc_f (by decide), brc_f (by decide), brc_f (by decide), brc_f (by decide), brc_f (by decide), brc_f (by decide)]; rfl
  · rw [brc_f (by decide), brc_f (by decide), brc_f (by decide), brc_f (by decide), brc_f (by decide), brc_f (by decide), brc_t (by decide)]; rfl
  · rw [brc_f (by decide), brc_f (by decide), brc_f (by decide), brc_f (by decide), brc_f (by decide), brc_t (by decide)]; rfl
  · rw [brc_f (by decide), brc_f (by decide), brc_f (by decide), brc_f (by decide), brc_t (by decide)]; rfl
  · rw [brc_f (by decide), brc_f (by decide), brc_f (by decide), brc_t (by decide)]; rfl
  · rw [brc_f (by decide), brc_f (by decide), brc_t (by decide)]; rfl
  · rw [brc_f (by decide), brc_t (by decide)]; rfl
  · rw [brc_t (by decide)]; rfl
  · rw [brc_f (by decide), brc_f (by decide), brc_f (by decide), brc_f (by decide), brc_f (by decide), brc_f (by decide), brc_f (by decide)]; rfl
theorem LW_pop {c : Nat} {W out : List Nat} {br dp : Nat} {σ : St} (h : LW (c :: W) out br dp σ) : LW W out br dp (setI σ 20 4 (I W.length)) ∧ σ.1 22 W.length = cX c ∧ σ.1 20 4 = I (W.length + 1) := by
  obtain ⟨h3, h4, h5, h6, hW, hS⟩ := h
  refine ⟨⟨?_, gI_same _ _ _ _, ?_, ?_, XW_fr W (fun j _ => by rw [gI_ne1 _ _ _ (by decide)]) hW.2, fun i hi => ?_⟩, hW.1, h4⟩
  · rw [gI_ne2 _ _ _ (by decide)]; exact h3
  · rw [gI_ne2 _ _ _ (by decide)]; exact h5
  · rw [gI_ne2 _ _ _ (by decide)]; exact h6
  · rw [gI_ne1 _ _ _ (by decide)]; exact hS i hi
theorem eX_lrelease {W out : List Nat} {br dp : Nat} {σ : St} (h : LW W out br dp σ) (hc : cdW W) (hl : out.length + W.length ≤ 1000) (hW64 : W.length ≤ 64) {r : Nat} (hr : r ≤ 5) : wp (rX_lrelease (I r) σ) (fun τ => lrX σ τ ∧ LW (popR r W).2 (out ++ (popR r W).1) br dp τ) := by
  unfold rX_lrelease
  refine wp_for (fun m a => ∃ W' out' τ, a = (I r, τ) ∧ W'.length = m ∧ lrX σ τ ∧ LW W' out' br dp τ ∧ cdW W' ∧ out'.length + W'.length ≤ 1000 ∧ W'.length ≤ 64 ∧ (popR r W').2 = (popR r W).2 ∧ out' ++ (popR r W').1 = out ++ (popR r W).1) ?_ ?_ W.length fu _ ⟨W, out, σ, rfl, rfl, lrX_refl, h, hc, hl, hW64, rfl, rfl⟩ (by unfold fu; omega)
  · rintro m a kk ⟨W', out', τ, rfl, hm, f, hL, hcW, hlen, h64, q2, q1⟩ hgo
    show wp (rX_lrelease_0 (fun v1 σ => kk (v1, σ)) (I r) τ) _
    cases W' with
    | nil => simp at hm
    | cons c W' =>
      obtain ⟨hL', hcell, h4⟩ := LW_pop hL
      have hcc := hcW c (List.mem_cons_self)
      have hrk := rkC_le c
      rw [List.length_cons] at hlen h64 hm
      have e : I (W'.length + 1) - (1 : Int32) = I W'.length := by rw [I1, I_sub (by omega), Nat.add_sub_cancel]
      unfold rX_lrelease_0 rX_lrelease_51
      rw [h4, brc_f (by rw [I0, I_le (by omega) (by omega)]; omega), e, chk_t (ib_I (by omega) (by omega)), I_cl (by omega), hcell, eX_rank hcc, bnd2S]
      refine wp_brc (fun h1 => ?_) (fun h1 => ?_)
      · rw [I_lt (by omega) (by omega)] at h1
        have e1 : popR r (c :: W') = ([], c :: W') := if_neg (by omega)
        rw [e1] at q1 q2
        refine wp_some ⟨f, ?_⟩
        rw [← q2, ← q1, List.append_nil]
        exact hL
      · rw [I_lt (by omega) (by omega)] at h1
        have e1 : popR r (c :: W') = (c :: (popR r W').1, (popR r W').2) := if_pos (by omega)
        rw [e1] at q1 q2
        rw [nmE, h4, e]
        have hcell' : (setI τ 20 4 (I W'.length)).1 22 W'.length = cX c := by rw [gI_ne1 _ _ _ (by decide)]; exact hcell
        have f' : lrX σ (setI τ 20 4 (I W'.length)) := lrX_I f _ (by omega)
        generalize setI τ 20 4 (I W'.length) = υ at hL' hcell' f' ⊢
        rw [hL'.2.1, chk_t (ib_I (by omega) (by omega)), I_cl (by omega), hcell']
        refine wp_bnd1 (wp_mono (eX_lwrite hL' (by omega) c) ?_)
        rintro ω ⟨g, hω⟩
        refine hgo _ ⟨W', out' ++ [c], ω, rfl, by omega, lrX_tr f' g, hω, fun x hx => hcW x (List.mem_cons_of_mem _ hx), by rw [List.length_append, List.length_singleton]; omega, by omega, q2, ?_⟩
        rw [← q1]
        simp
  · rintro a kk ⟨W', out', τ, rfl, hm, f, hL, hcW, hlen, h64, q2, q1⟩
    have hnil : W' = [] := List.length_eq_zero_iff.mp hm
    subst hnil
    show wp (rX_lrelease_0 (fun v1 σ => kk (v1, σ)) (I r) τ) _
    unfold rX_lrelease_0 rX_lrelease_51
    have h4 : τ.1 20 4 = I 0 := hL.2.1
    rw [h4, brc_t (by rw [I0, I_le (by omega) (by omega)]; omega)]
    refine wp_some ⟨f, ?_⟩
    have e1 : popR r [] = ([], []) := rfl
    rw [e1] at q1 q2
    rw [← q2, ← q1, List.append_nil]
    exact hL
theorem LW_dp {W out : List Nat} {br dp : Nat} {σ : St} (h : LW W out br dp σ) (x : Nat) : LW W out br x (setI σ 20 6 (I x)) := by
  obtain ⟨h3, h4, h5, h6, hW, hS⟩ := h
  refine ⟨?_, ?_, ?_, gI_same _ _ _ _, XW_fr W (fun j _ => by rw [gI_ne1 _ _ _ (by decide)]) hW, fun i hi => ?_⟩
  · rw [gI_ne2 _ _ _ (by decide)]; exact h3
  · rw [gI_ne2 _ _ _ (by decide)]; exact h4
  · rw [gI_ne2 _ _ _ (by decide)]; exact h5
  · rw [gI_ne1 _ _ _ (by decide)]; exact hS i hi
theorem LW_br {W out : List Nat} {br dp : Nat} {σ : St} (h : LW W out br dp σ) (x : Nat) : LW W out x dp (setI σ 20 5 (I x)) := by
  obtain ⟨h3, h4, h5, h6, hW, hS⟩ := h
  refine ⟨?_, ?_, gI_same _ _ _ _, ?_, XW_fr W (fun j _ => by rw [gI_ne1 _ _ _ (by decide)]) hW, fun i hi => ?_⟩
  · rw [gI_ne2 _ _ _ (by decide)]; exact h3
  · rw [gI_ne2 _ _ _ (by decide)]; exact h4
  · rw [gI_ne2 _ _ _ (by decide)]; exact h6
  · rw [gI_ne1 _ _ _ (by decide)]; exact hS i hi
theorem brW_n : ∀ W : List Nat, brW (popN W).2 = brW W
  | [] => rfl
  | c :: W => by
    show brW (if c = 20002 then (c :: (popN W).1, (popN W).2) else ([], c :: W)).2 = _
    by_cases e : c = 20002
    · rw [if_pos e]
      show brW (popN W).2 = (if c = 20010 then 1 else 0) + brW W
      rw [if_neg (by omega), brW_n W, Nat.zero_add]
    · rw [if_neg e]
theorem eX_lrelNots {W out : List Nat} {br : Nat} {σ : St} (h : LW W out br (dpW W) σ) (hc : cdW W) (hl : out.length + W.length ≤ 1000) (hW64 : W.length ≤ 64) (hdp : dpW W < 100) : wp (rX_lreleaseNots σ) (fun τ => lrX σ τ ∧ LW (popN W).2 (out ++ (popN W).1) br (dpW (popN W).2) τ) := by
  unfold rX_lreleaseNots
  refine wp_for (fun m a => ∃ W' out' τ, a = τ ∧ W'.length = m ∧ lrX σ τ ∧ LW W' out' br (dpW W') τ ∧ cdW W' ∧ dpW W' < 100 ∧ out'.length + W'.length ≤ 1000 ∧ W'.length ≤ 64 ∧ (popN W').2 = (popN W).2 ∧ out' ++ (popN W').1 = out ++ (popN W).1) ?_ ?_ W.length fu _ ⟨W, out, σ, rfl, rfl, lrX_refl, h, hc, hdp, hl, hW64, rfl, rfl⟩ (by unfold fu; omega)
  · rintro m a kk ⟨W', out', τ, rfl, hm, f, hL, hcW, hd, hlen, h64, q2, q1⟩ hgo
    show wp (rX_lreleaseNots_0 (fun σ => kk σ) a) _
    cases W' with
    | nil => simp at hm
    | cons c W' =>
      obtain ⟨hL', hcell, h4⟩ := LW_pop hL
      have hcc := hcW c (List.mem_cons_self)
      rw [List.length_cons] at hlen h64 hm
      have e : I (W'.length + 1) - (1 : Int32) = I W'.length := by rw [I1, I_sub (by omega), Nat.add_sub_cancel]
      have e2 : cX c = -2 ↔ c = 20002 := by
        have h : ∀ d, d < 9 → (cX (20002 + d) = -2 ↔ 20002 + d = 20002) := by decide
        have := h (c - 20002) (by omega)
        rwa [show 20002 + (c - 20002) = c by omega] at this
      unfold rX_lreleaseNots_0 rX_lreleaseNots_52
      rw [h4, brc_f (by rw [I0, I_le (by omega) (by omega)]; omega), e, chk_t (ib_I (by omega) (by omega)), I_cl (by omega), hcell]
      refine wp_brc (fun h1 => ?_) (fun h1 => ?_)
      · have hne : ¬ c = 20002 := fun h9 => h1 (e2.mpr h9)
        have e1 : popN (c :: W') = ([], c :: W') := if_neg hne
        rw [e1] at q1 q2
        refine wp_some ⟨f, ?_⟩
        rw [← q2, ← q1, List.append_nil]
        exact hL
      · have he : c = 20002 := e2.mp (Classical.not_not.mp h1)
        have e1 : popN (c :: W') = (c :: (popN W').1, (popN W').2) := if_pos he
        rw [e1] at q1 q2
        have hdc : dpW (c :: W') = 1 + dpW W' := by
          show (if c = 20002 ∨ c = 20010 then 1 else 0) + dpW W' = _
          rw [if_pos (Or.inl he)]
        rw [hdc] at hL' hd
        have f' : lrX σ (setI a 20 4 (I W'.length)) := lrX_I f _ (by omega)
        rw [nmE, nmE]
        generalize setI a 20 4 (I W'.length) = υ at hL' f' ⊢
        rw [hL'.2.2.2.1, I1, I_sub (by omega), Nat.add_sub_cancel_left]
        have hL2 := LW_dp hL' (dpW W')
        have f2 : lrX σ (setI υ 20 6 (I (dpW W'))) := lrX_I f' _ (by omega)
        generalize setI υ 20 6 (I (dpW W')) = ω at hL2 f2 ⊢
        refine wp_bnd1 (wp_mono (eX_lwrite hL2 (by omega) 20002) ?_)
        rintro ζ ⟨g, hζ⟩
        refine hgo _ ⟨W', out' ++ [20002], ζ, rfl, by omega, lrX_tr f2 g, hζ, fun x hx => hcW x (List.mem_cons_of_mem _ hx), by omega, by rw [List.length_append, List.length_singleton]; omega, by omega, q2, ?_⟩
        rw [← q1, he]
        simp
  · rintro a kk ⟨W', out', τ, rfl, hm, f, hL, hcW, hd, hlen, h64, q2, q1⟩
    have hnil : W' = [] := List.length_eq_zero_iff.mp hm
    subst hnil
    show wp (rX_lreleaseNots_0 (fun σ => kk σ) a) _
    unfold rX_lreleaseNots_0 rX_lreleaseNots_52
    have h4 : a.1 20 4 = I 0 := hL.2.1
    rw [h4, brc_t (by rw [I0, I_le (by omega) (by omega)]; omega)]
    refine wp_some ⟨f, ?_⟩
    have e1 : popN [] = ([], []) := rfl
    rw [e1] at q1 q2
    rw [← q2, ← q1, List.append_nil]
    exact hL
