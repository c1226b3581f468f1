/-! laws: the reference, emitting -/
def lwM (c : Nat) (σ τ : St) : Prop := (∀ i, i ≠ 0 → i ≠ 8 → i ≠ 9 → τ.1 i = σ.1 i) ∧ (∀ j, j ≠ 7 → j ≠ 8 → j ≠ 14 → τ.1 0 j = σ.1 0 j) ∧ (∀ j, j < 1100 + c → τ.1 8 j = σ.1 8 j ∧ τ.1 9 j = σ.1 9 j) ∧ τ.2 = σ.2
theorem lwM_refl {c : Nat} {σ : St} : lwM c σ σ := ⟨fun _ _ _ _ => rfl, fun _ _ _ _ => rfl, fun _ _ => ⟨rfl, rfl⟩, rfl⟩
theorem lwM_tr {c c' : Nat} {σ τ υ : St} (h1 : lwM c σ τ) (h2 : lwM c' τ υ) (hc : c ≤ c') : lwM c σ υ :=
  ⟨fun i x y z => (h2.1 i x y z).trans (h1.1 i x y z), fun j x y z => (h2.2.1 j x y z).trans (h1.2.1 j x y z), fun j hj => ⟨((h2.2.2.1 j (by omega)).1).trans (h1.2.2.1 j hj).1, ((h2.2.2.1 j (by omega)).2).trans (h1.2.2.1 j hj).2⟩, h2.2.2.2.trans h1.2.2.2⟩
theorem lwM_rd {c : Nat} {σ τ : St} (h : rdM σ τ) : lwM c σ τ := ⟨fun i a _ _ => h.1 i (by simp) a, fun j a b _ => h.2.1 j (by simp; omega), fun j _ => ⟨by rw [h.1 8 (by decide) (by decide)], by rw [h.1 9 (by decide) (by decide)]⟩, h.2.2⟩
def LSt (n : Nat) (tp : Nat → Nat) (N b c k F : Nat) (σ : St) : Prop := RM n tp N k F σ ∧ σ.1 0 14 = I c ∧ σ.1 0 19 = (if b = 0 then 0 else 1) ∧ σ.1 12 = sM0.1 12 ∧ σ.1 13 = sM0.1 13
theorem LSt_rd {n : Nat} {tp : Nat → Nat} {N b c k F k' F' : Nat} {σ τ : St} (h : LSt n tp N b c k F σ) (f : rdM σ τ) (hr : RM n tp N k' F' τ) : LSt n tp N b c k' F' τ :=
  ⟨hr, by rw [f.2.1 14 (by decide)]; exact h.2.1, by rw [f.2.1 19 (by decide)]; exact h.2.2.1, by rw [f.1 12 (by decide) (by decide)]; exact h.2.2.2.1, by rw [f.1 13 (by decide) (by decide)]; exact h.2.2.2.2⟩
def EM (b : Nat) (σ : St) : Nat → List Nat → Prop
  | _, [] => True
  | pos, c :: L => σ.1 8 pos = I (mOp c) ∧ (c < 20000 → σ.1 9 pos = I (if c < 10000 then c else c - 10000 - b)) ∧ EM b σ (pos + 1) L
theorem EM_app {b : Nat} {σ : St} : ∀ (E E2 : List Nat) (pos : Nat), EM b σ pos E → EM b σ (pos + E.length) E2 → EM b σ pos (E ++ E2)
  | [], E2, pos, _, h => h
  | c :: L, E2, pos, h, h2 => ⟨h.1, h.2.1, EM_app L E2 (pos + 1) h.2.2 (by rw [show pos + 1 + L.length = pos + (c :: L).length by simp; omega]; exact h2)⟩
theorem EM_fr {b : Nat} {σ τ : St} : ∀ (E : List Nat) (pos : Nat), (∀ j, pos ≤ j → j < pos + E.length → τ.1 8 j = σ.1 8 j ∧ τ.1 9 j = σ.1 9 j) → EM b σ pos E → EM b τ pos E
  | [], _, _, _ => trivial
  | c :: L, pos, hf, h => by
    have h0 := hf pos (Nat.le_refl _) (by simp)
    exact ⟨by rw [h0.1]; exact h.1, fun hc => by rw [h0.2]; exact h.2.1 hc, EM_fr L (pos + 1) (fun j h1 h2 => hf j (by omega) (by simp at h2 ⊢; omega)) h.2.2⟩
theorem EM_lw {b c c' : Nat} {σ τ : St} {E : List Nat} (h : EM b σ (1100 + c) E) (f : lwM c' σ τ) (hc : c + E.length ≤ c') : EM b τ (1100 + c) E := EM_fr E _ (fun j _ h2 => f.2.2.1 j (by omega)) h
theorem eM_emit {n : Nat} {tp : Nat → Nat} {N b c k F : Nat} {σ : St} (h : LSt n tp N b c k F σ) (hc : c < 1100) (o a : Nat) : wp (rM_emit (I o) (I a) σ) (fun τ => lwM c σ τ ∧ LSt n tp N b (c + 1) k F τ ∧ τ.1 8 (1100 + c) = I o ∧ τ.1 9 (1100 + c) = I a) := by
  have e : (1100 : Int32) + I c = I (1100 + c) := by rw [litN, I_add]
  obtain ⟨r, h14, h19, h12, h13⟩ := h
  unfold rM_emit
  rw [h14, e, chk_t (ib_I (by omega) (by omega)), nmE, gI_ne1 _ _ _ (show (0 : Nat) ≠ 8 by decide), h14, e, chk_t (ib_I (by omega) (by omega)), nmE, nmE, I_cl (by omega), gI_ne1 _ _ _ (show (0 : Nat) ≠ 9 by decide), gI_ne1 _ _ _ (show (0 : Nat) ≠ 8 by decide), h14, I1, I_add]
  refine wp_some ⟨⟨fun i x y z => by rw [gI_ne1 _ _ _ x, gI_ne1 _ _ _ z, gI_ne1 _ _ _ y], fun j x y z => by rw [gI_ne2 _ _ _ z, gI_ne1 _ _ _ (by decide), gI_ne1 _ _ _ (by decide)], fun j hj => ⟨?_, ?_⟩, rfl⟩, ⟨?_, gI_same _ _ _ _, ?_, ?_, ?_⟩, ?_, ?_⟩
  · rw [gI_ne1 _ _ _ (by decide), gI_ne1 _ _ _ (by decide), gI_ne2 _ _ _ (by omega)]
  · rw [gI_ne1 _ _ _ (by decide), gI_ne2 _ _ _ (by omega), gI_ne1 _ _ _ (by decide)]
  · refine RM_of r ?_ ?_ rfl rfl r.2.1 ?_ ?_
    · rw [gI_ne1 _ _ _ (by decide), gI_ne1 _ _ _ (by decide), gI_ne1 _ _ _ (by decide)]
    · rw [gI_ne1 _ _ _ (by decide), gI_ne1 _ _ _ (by decide), gI_ne1 _ _ _ (by decide)]
    · rw [gI_ne2 _ _ _ (by decide), gI_ne1 _ _ _ (by decide), gI_ne1 _ _ _ (by decide)]; exact r.2.2.1
    · rw [gI_ne2 _ _ _ (by decide), gI_ne1 _ _ _ (by decide), gI_ne1 _ _ _ (by decide)]; exact r.2.2.2.1
  · rw [gI_ne2 _ _ _ (by decide), gI_ne1 _ _ _ (by decide), gI_ne1 _ _ _ (by decide)]; exact h19
  · rw [gI_ne1 _ _ _ (by decide), gI_ne1 _ _ _ (by decide), gI_ne1 _ _ _ (by decide)]; exact h12
  · rw [gI_ne1 _ _ _ (by decide), gI_ne1 _ _ _ (by decide), gI_ne1 _ _ _ (by decide)]; exact h13
  · rw [gI_ne1 _ _ _ (by decide), gI_ne1 _ _ _ (by decide), gI_same]
  · rw [gI_ne1 _ _ _ (by decide), gI_same]
/-- the pile -/
def HP (b H : Nat) (E : List Nat) : Prop := ∀ L h, h ≤ H → hOK b (hiB b) L (h + 1) → hOK b (hiB b) (E ++ L) h
theorem HP_w {b H H' : Nat} {E : List Nat} (h : HP b H E) (hh : H' ≤ H) : HP b H' E := fun L x hx hk => h L x (by omega) hk
theorem HP_j {b H x : Nat} {E E2 : List Nat} (h1 : HP b H E) (h2 : HP b (H + 1) E2) (hx : 20003 ≤ x ∧ x ≤ 20009) (hH : H ≤ 60) : HP b H (E ++ E2 ++ [x]) := by
  intro L h hh hk
  rw [List.append_assoc, List.append_assoc]
  refine h1 _ _ hh (h2 _ _ (by omega) ?_)
  exact Or.inr (Or.inr ⟨hx, by omega, by omega, hk⟩)
theorem HP_n {b H : Nat} {E : List Nat} (h1 : HP b H E) (hH : H ≤ 60) : HP b H (E ++ [20002]) := by
  intro L h hh hk
  rw [List.append_assoc]
  refine h1 _ _ hh ?_
  exact Or.inr (Or.inl ⟨rfl, by omega, by omega, hk⟩)
theorem HP_a {b H x : Nat} (hx : x < 10000 ∨ (10000 + b ≤ x ∧ x < 10000 + hiB b)) (hH : H ≤ 60) : HP b H [x] := by
  intro L h hh hk
  exact Or.inl ⟨hx, by omega, hk⟩
def tc (lv W : Nat) : Prop := (lv ≤ 4 → ¬ W = 29) ∧ (lv ≤ 3 → ¬ W = 27 ∧ ¬ W = 28) ∧ (lv ≤ 1 → ¬ W = 23 ∧ ¬ W = 24)
abbrev PGood (n : Nat) (tp : Nat → Nat) (N b d k c : Nat) (τ : St) : Prop := ∃ k' E, LSt n tp N b (c + E.length) k' 0 τ ∧ E.length + k ≤ k' ∧ k < k' ∧ EM b τ (1100 + c) E ∧ HP b (5 * d + 4) E ∧ MGp (tW n tp) (tV n tp) b d k k' E
abbrev PBad (n : Nat) (tp : Nat → Nat) (N b d k c : Nat) (τ : St) : Prop := ∃ k' c' f kf, LSt n tp N b c' k' (f + 16 * ps n tp kf) τ ∧ c' + k ≤ c + k' ∧ c ≤ c' ∧ 0 < f ∧ f + 16 * ps n tp kf < 20000 ∧ MBp (tW n tp) (tV n tp) b d k f kf
def PQ (n : Nat) (tp : Nat → Nat) (N b d k c : Nat) (σ τ : St) : Prop := lwM c σ τ ∧ (PGood n tp N b d k c τ ∨ PBad n tp N b d k c τ)
abbrev LGood (n : Nat) (tp : Nat → Nat) (N b lv d k c : Nat) (τ : St) (k' : Nat) (E : List Nat) : Prop := LSt n tp N b (c + E.length) k' 0 τ ∧ E.length + k ≤ k' ∧ k < k' ∧ EM b τ (1100 + c) E ∧ HP b (5 * d + lv - 1) E ∧ MG (tW n tp) (tV n tp) b lv d k k' E
abbrev LBad (n : Nat) (tp : Nat → Nat) (N b lv d k c : Nat) (τ : St) : Prop := ∃ k' c' f kf, LSt n tp N b c' k' (f + 16 * ps n tp kf) τ ∧ c' + k ≤ c + k' ∧ c ≤ c' ∧ 0 < f ∧ f + 16 * ps n tp kf < 20000 ∧ MB (tW n tp) (tV n tp) b lv d k f kf
def LQ (n : Nat) (tp : Nat → Nat) (N b lv d k c : Nat) (σ τ : St) : Prop := lwM c σ τ ∧ ((∃ k' E, LGood n tp N b lv d k c τ k' E ∧ tc lv (tW n tp k')) ∨ LBad n tp N b lv d k c τ)
def TPok (n : Nat) (tp : Nat → Nat) (N b d : Nat) (tq : Int32 → St → Option St) : Prop := ∀ k c σ, LSt n tp N b c k 0 σ → c ≤ k → wp (tq (I d) σ) (PQ n tp N b d k c σ)
theorem LB_w {n : Nat} {tp : Nat → Nat} {N b lv d k c : Nat} {τ : St} (h : LBad n tp N b (lv + 1) d k c τ) : LBad n tp N b lv d k c τ := by
  obtain ⟨k', c', f, kf, a1, a2, a3, a4, a5, a6⟩ := h
  exact ⟨k', c', f, kf, a1, a2, a3, a4, a5, MB_w a6⟩
/-- good, then a sign, then good one level higher: emit and go on -/
theorem LG_j {n : Nat} {tp : Nat → Nat} {N b lv d k c k' k'' : Nat} {τ τ1 τ2 : St} {E E2 : List Nat} {σ : St} (hc : c ≤ k) (hlv : 1 ≤ lv ∧ lv ≤ 4) (hd : d ≤ 5) (f0 : lwM c σ τ) (hg : LGood n tp N b lv d k c τ k' E) (f1 : lwM (c + E.length) τ τ1) (f2 : lwM (c + E.length) τ1 τ2) (hj : ¬ jnC (tW n tp k') = 0) (hr : rkC (jnC (tW n tp k')) = lv) (h2 : lv ≠ 2) (hs : LSt n tp N b (c + E.length + E2.length) k'' 0 τ2) (hl : E2.length + (k' + 1) ≤ k'') (hE : EM b τ2 (1100 + (c + E.length)) E2) (hH : HP b (5 * d + lv) E2) (hm : MG (tW n tp) (tV n tp) b (lv + 1) d (k' + 1) k'' E2) {o : Nat} (ho : o = mOp (jnC (tW n tp k'))) : wp (rM_emit (I o) (I 0) τ2) (fun τ3 => lwM c σ τ3 ∧ LGood n tp N b lv d k c τ3 k'' (E ++ E2 ++ [jnC (tW n tp k')])) := by
  obtain ⟨g1, g2, g3, g4, g5, g6⟩ := hg
  have hN := hs.1.1.1
  have hk := hs.1.2.1
  have hx : 20003 ≤ jnC (tW n tp k') ∧ jnC (tW n tp k') ≤ 20009 := by
    have h9 := jn_rk hj
    have h : ∀ W, W < 30 → 23 ≤ W → 20003 ≤ jnC W ∧ jnC W ≤ 20009 := by decide
    exact h _ (by omega) h9.1
  refine wp_mono (eM_emit hs (by omega) o 0) ?_
  rintro τ3 ⟨f3, s3, c8, c9⟩
  have hlen : (E ++ E2 ++ [jnC (tW n tp k')]).length = E.length + E2.length + 1 := by simp; omega
  refine ⟨lwM_tr f0 (lwM_tr f1 (lwM_tr f2 f3 (by omega)) (Nat.le_refl _)) (by omega), ?_, by rw [hlen]; omega, by omega, ?_, ?_, MG_j (by omega) g6 hj hr h2 hm⟩
  · rw [hlen, show c + (E.length + E2.length + 1) = c + E.length + E2.length + 1 by omega]
    exact s3
  · refine EM_app _ _ _ (EM_app _ _ _ (EM_lw (EM_lw (EM_lw g4 f1 (Nat.le_refl _)) f2 (Nat.le_refl _)) f3 (by omega)) ?_) ?_
    · rw [show 1100 + c + E.length = 1100 + (c + E.length) by omega]
      exact EM_lw hE f3 (by omega)
    · rw [List.length_append, show 1100 + c + (E.length + E2.length) = 1100 + (c + E.length + E2.length) by omega]
      exact ⟨by rw [c8, ho], fun h9 => absurd h9 (by omega), trivial⟩
  · exact HP_j g5 (HP_w hH (by omega)) hx (by omega)
theorem LB_j {n : Nat} {tp : Nat → Nat} {N b lv d k c k' : Nat} {τ τ1 τ2 : St} {E : List Nat} {σ : St} (hc : c ≤ k) (hlv : 1 ≤ lv) (f0 : lwM c σ τ) (hg : LGood n tp N b lv d k c τ k' E) (f1 : lwM (c + E.length) τ τ1) (f2 : lwM (c + E.length) τ1 τ2) (hj : ¬ jnC (tW n tp k') = 0) (hr : rkC (jnC (tW n tp k')) = lv) (h2 : lv ≠ 2) (hb : LBad n tp N b (lv + 1) d (k' + 1) (c + E.length) τ2) (o : Nat) : wp (rM_emit (I o) (I 0) τ2) (fun τ3 => lwM c σ τ3 ∧ LBad n tp N b lv d k c τ3) := by
  obtain ⟨g1, g2, g3, g4, g5, g6⟩ := hg
  obtain ⟨kk, cc, f, kf, a1, a2, a3, a4, a5, a6⟩ := hb
  have hN := a1.1.1.1
  have hk := a1.1.2.1
  refine wp_mono (eM_emit a1 (by omega) o 0) ?_
  rintro τ3 ⟨f3, s3, -, -⟩
  exact ⟨lwM_tr f0 (lwM_tr f1 (lwM_tr f2 f3 (by omega)) (Nat.le_refl _)) (by omega), kk, cc + 1, f, kf, s3, by omega, by omega, a4, a5, MB_j (by omega) g6 hj hr h2 a6⟩
