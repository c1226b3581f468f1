/-! a station is told: the class -/
def dsh (σ : St) : St := (fun i j => σ.1 (i - 13) j, σ.2)
def XDr (T : Vw) (σ : St) : Prop := XMt T (dsh σ)
def drX (σ τ : St) : Prop := (∀ i, i ≠ 5 → (i < 7 ∨ 19 < i) → τ.1 i = σ.1 i) ∧ (∀ j, j ≠ 1 → j ≠ 4 → j ≠ 5 → τ.1 5 j = σ.1 5 j) ∧ (∀ j, j ≠ 4 → j ≠ 6 → τ.1 7 j = σ.1 7 j) ∧ (∀ i, i ≠ 5 → i ≠ 8 → i ≠ 9 → τ.2.1 i = σ.2.1 i) ∧ (∀ i, i ≠ 5 → τ.2.2.1 i = σ.2.2.1 i) ∧ τ.2.2.2 = σ.2.2.2
theorem drX_refl {σ : St} : drX σ σ := ⟨fun _ _ _ => rfl, fun _ _ _ _ => rfl, fun _ _ _ => rfl, fun _ _ _ _ => rfl, fun _ _ => rfl, rfl⟩
theorem drX_tr {σ τ υ : St} (h1 : drX σ τ) (h2 : drX τ υ) : drX σ υ :=
  ⟨fun i a b => (h2.1 i a b).trans (h1.1 i a b), fun j a b c => (h2.2.1 j a b c).trans (h1.2.1 j a b c), fun j a b => (h2.2.2.1 j a b).trans (h1.2.2.1 j a b), fun i a b c => (h2.2.2.2.1 i a b c).trans (h1.2.2.2.1 i a b c), fun i h => (h2.2.2.2.2.1 i h).trans (h1.2.2.2.2.1 i h), h2.2.2.2.2.2.trans h1.2.2.2.2.2⟩
theorem drX_rd {σ τ : St} (h : rdX σ τ) : drX σ τ := ⟨fun i a b => h.1 i a (by omega), h.2.1, h.2.2.1, fun i a _ _ => h.2.2.2.1 i a, h.2.2.2.2.1, h.2.2.2.2.2⟩
theorem drX_I {σ τ : St} (h : drX σ τ) {i j : Nat} (v : Int32) (h1 : 8 ≤ i) (h2 : i ≤ 19) : drX σ (setI τ i j v) :=
  drX_tr h ⟨fun q a b => gI_ne1 _ _ _ (by omega), fun q a b c => by rw [gI_ne1 _ _ _ (by omega)], fun q a b => by rw [gI_ne1 _ _ _ (by omega)], fun _ _ _ _ => rfl, fun _ _ => rfl, rfl⟩
theorem drX_J {σ τ : St} (h : drX σ τ) {i j : Nat} (v : Int64) (h1 : i = 8 ∨ i = 9) : drX σ (setJ τ i j v) :=
  drX_tr h ⟨fun _ _ _ => rfl, fun _ _ _ _ => rfl, fun _ _ _ => rfl, fun q a b c => gJ_ne1 _ _ _ (by omega), fun _ _ => rfl, rfl⟩
theorem KX_J {n : Nat} {tp : Nat → Nat} {k : Nat} {σ : St} (h : KX n tp k σ) {i j : Nat} (v : Int64) (h5 : i ≠ 5) : KX n tp k (setJ σ i j v) := by
  refine ⟨h.1, ?_⟩
  obtain ⟨a1, a2, a3, a4, a5, a6⟩ := h.2
  exact ⟨a1, a2, a3, a4, fun x y => by rw [gJ_ne1 _ _ _ (Ne.symm h5)]; exact a5 x y, a6⟩
theorem rdX_XNm {n : Nat} {tp : Nat → Nat} {m : Nat} {np idn : Nat → Nat} {σ τ : St} (h : rdX σ τ) (hX : XNm n tp m np idn σ) : XNm n tp m np idn τ := by
  intro q hq
  rw [h.2.2.2.1 8 (by decide), h.2.2.2.1 9 (by decide)]
  exact hX q hq
/-- a new name is noted -/
theorem XNm_S {n : Nat} {tp : Nat → Nat} {S C m i : Nat} {np idn : Nat → Nat} {σ : St} (hN : Nm n tp S C m np idn) (hS : S < 7) (hX : XNm n tp m np idn σ) : XNm n tp (m + 1) (updN np m i) (updN idn m S) (setJ σ 8 S (c8 n tp i)) := by
  intro q hq
  by_cases e : q = m
  · subst e
    rw [updN_s, updN_s]
    exact ⟨fun _ => gJ_same _ _ _ _, fun h => absurd h (by omega)⟩
  · rw [updN_n _ _ e, updN_n _ _ e]
    have h1 := hX q (by omega)
    refine ⟨fun h7 => ?_, fun h7 => ?_⟩
    · have hb := (hN.2.2.2.1 q (by omega)).2
      rw [gJ_ne2 _ _ _ (by omega)]
      exact h1.1 h7
    · rw [gJ_ne1 _ _ _ (by decide)]
      exact h1.2 h7
theorem Nm_S {n : Nat} {tp : Nat → Nat} {S C m i : Nat} {np idn : Nat → Nat} (hN : Nm n tp S C m np idn) (hS : S < 7) (ht : nmT n tp i) (hno : hasN n tp m np i = false) : Nm n tp (S + 1) C (m + 1) (updN np m i) (updN idn m S) := by
  obtain ⟨a1, a2, a3, a4, a5, a6, a7⟩ := hN
  have hne : ∀ q, q < m → ¬ c8 n tp (np q) = c8 n tp i := fun q hq h => by rw [hasN_t hq h] at hno; exact absurd hno (by decide)
  refine ⟨by omega, a2, by omega, fun q hq => ?_, fun s hs => ?_, fun c hc => ?_, fun q hq q' hq' h => ?_⟩
  · by_cases e : q = m
    · subst e
      rw [updN_s, updN_s]
      exact ⟨ht, by omega⟩
    · rw [updN_n _ _ e, updN_n _ _ e]
      have := a4 q (by omega)
      exact ⟨this.1, by omega⟩
  · by_cases e : s = S
    · exact ⟨m, by omega, by rw [updN_s, e]⟩
    · obtain ⟨q, hq, he⟩ := a5 s (by omega)
      exact ⟨q, by omega, by rw [updN_n _ _ (by omega)]; exact he⟩
  · obtain ⟨q, hq, he⟩ := a6 c hc
    exact ⟨q, by omega, by rw [updN_n _ _ (by omega)]; exact he⟩
  · by_cases e : q = m
    · by_cases e' : q' = m
      · omega
      · rw [e, updN_s, updN_n _ _ e'] at h
        exact absurd h.symm (hne q' (by omega))
    · by_cases e' : q' = m
      · rw [e', updN_s, updN_n _ _ e] at h
        exact absurd h (hne q (by omega))
      · rw [updN_n _ _ e, updN_n _ _ e'] at h
        exact a7 q (by omega) q' (by omega) h
def stF (n : Nat) (tp : Nat → Nat) (m : Nat) (np : Nat → Nat) (S k : Nat) : Nat := if S < 7 then (if nnF n tp m np (k + 1) = 0 then (if afF n tp (k + 2) 1 0 99 = 0 then afF n tp (k + 4) 2 0 9 else afF n tp (k + 2) 1 0 99) else nnF n tp m np (k + 1) + 16 * ps n tp (k + 1)) else 5 + 16 * ps n tp k
def stT (T : Vw) (h f : Nat) : Vw := fun a b => if a = 0 ∧ b = 0 then T 0 0 + 1 else if a = 1 ∧ b = T 0 0 then h else if a = 2 ∧ b = T 0 0 then f else T a b
theorem XDr_st {T : Vw} {σ τ : St} {h f : Nat} (hx : XDr T σ) (e0 : τ.1 10 0 = I (T 0 0 + 1)) (e10 : ∀ j, j ≠ 0 → τ.1 10 j = σ.1 10 j) (eh : τ.1 11 (T 0 0) = I h) (eh' : ∀ s, s ≠ T 0 0 → τ.1 11 s = σ.1 11 s) (ef : τ.1 12 (T 0 0) = I f) (ef' : ∀ s, s ≠ T 0 0 → τ.1 12 s = σ.1 12 s) (er : ∀ i, 13 ≤ i → i ≤ 18 → τ.1 i = σ.1 i) : XDr (stT T h f) τ := by
  obtain ⟨a0, a1, a2, a3, a4, a5, a6, a7, a8⟩ := hx
  have z0 : stT T h f 0 0 = T 0 0 + 1 := if_pos ⟨rfl, rfl⟩
  have zn : ∀ a b, ¬ (a = 0 ∧ b = 0) → ¬ a = 1 → ¬ a = 2 → stT T h f a b = T a b := fun a b h1 h2 h3 => by
    show (if a = 0 ∧ b = 0 then T 0 0 + 1 else if a = 1 ∧ b = T 0 0 then h else if a = 2 ∧ b = T 0 0 then f else T a b) = T a b
    rw [if_neg h1, if_neg (fun h9 => h2 h9.1), if_neg (fun h9 => h3 h9.1)]
  have z1 : ∀ s, stT T h f 1 s = if s = T 0 0 then h else T 1 s := fun s => by
    show (if 1 = 0 ∧ s = 0 then T 0 0 + 1 else if 1 = 1 ∧ s = T 0 0 then h else if 1 = 2 ∧ s = T 0 0 then f else T 1 s) = _
    by_cases e : s = T 0 0
    · rw [if_neg (by omega), if_pos ⟨rfl, e⟩, if_pos e]
    · rw [if_neg (by omega), if_neg (by omega), if_neg (by omega), if_neg e]
  have z2 : ∀ s, stT T h f 2 s = if s = T 0 0 then f else T 2 s := fun s => by
    show (if 2 = 0 ∧ s = 0 then T 0 0 + 1 else if 2 = 1 ∧ s = T 0 0 then h else if 2 = 2 ∧ s = T 0 0 then f else T 2 s) = _
    by_cases e : s = T 0 0
    · rw [if_neg (by omega), if_neg (by omega), if_pos ⟨rfl, e⟩, if_pos e]
    · rw [if_neg (by omega), if_neg (by omega), if_neg (by omega), if_neg e]
  refine ⟨?_, ?_, ?_, ?_, ?_, ?_, fun s hs => ?_, fun q hq => ?_, fun c hc => ?_⟩
  · rw [z0]; exact e0
  · rw [zn 0 1 (by omega) (by omega) (by omega)]; exact (e10 1 (by decide)).trans a1
  · rw [zn 0 2 (by omega) (by omega) (by omega)]; exact (e10 2 (by decide)).trans a2
  · rw [zn 0 3 (by omega) (by omega) (by omega)]; exact (e10 14 (by decide)).trans a3
  · rw [zn 0 4 (by omega) (by omega) (by omega)]; exact (e10 15 (by decide)).trans a4
  · rw [zn 0 5 (by omega) (by omega) (by omega)]; exact (e10 16 (by decide)).trans a5
  · rw [z0] at hs
    rw [z1, z2]
    show τ.1 11 s = _ ∧ τ.1 12 s = _
    by_cases e : s = T 0 0
    · rw [if_pos e, if_pos e, e]; exact ⟨eh, ef⟩
    · rw [if_neg e, if_neg e, eh' s e, ef' s e]; exact a6 s (by omega)
  · rw [zn 3 q (by omega) (by omega) (by omega), zn 4 q (by omega) (by omega) (by omega)]
    show τ.1 13 q = _ ∧ (_ → τ.1 14 q = _)
    rw [er 13 (by omega) (by omega), er 14 (by omega) (by omega)]
    exact a7 q hq
  · rw [zn 0 2 (by omega) (by omega) (by omega)] at hc
    rw [zn 5 c (by omega) (by omega) (by omega), zn 6 c (by omega) (by omega) (by omega), zn 7 c (by omega) (by omega) (by omega), zn 8 c (by omega) (by omega) (by omega)]
    show τ.1 15 c = _ ∧ τ.1 16 c = _ ∧ τ.1 17 c = _ ∧ τ.1 18 c = _
    rw [er 15 (by omega) (by omega), er 16 (by omega) (by omega), er 17 (by omega) (by omega), er 18 (by omega) (by omega)]
    exact a8 c hc
