/-! a station is told: the draft of the reference -/
def dsm (σ : St) : St := (fun i j => σ.1 i (160 + j), σ.2)
def MDr (T : Vw) (σ : St) : Prop := MT T (dsm σ)
def drM (σ τ : St) : Prop := (∀ i, i ≠ 0 → i ≠ 6 → i ≠ 11 → τ.1 i = σ.1 i) ∧ (∀ j, (j < 160 ∨ j = 166 ∨ j = 167) → τ.1 6 j = σ.1 6 j) ∧ (∀ j, j ≠ 7 → j ≠ 8 → j ≠ 17 → τ.1 0 j = σ.1 0 j) ∧ (∀ i, i ≠ 10 → τ.2.1 i = σ.2.1 i) ∧ τ.2.2 = σ.2.2
theorem drM_tr {σ τ υ : St} (h1 : drM σ τ) (h2 : drM τ υ) : drM σ υ :=
  ⟨fun i a b c => (h2.1 i a b c).trans (h1.1 i a b c), fun j a => (h2.2.1 j a).trans (h1.2.1 j a), fun j a b c => (h2.2.2.1 j a b c).trans (h1.2.2.1 j a b c), fun i h => (h2.2.2.2.1 i h).trans (h1.2.2.2.1 i h), h2.2.2.2.2.trans h1.2.2.2.2⟩
theorem drM_nm {σ τ : St} (h : nmM σ τ) : drM σ τ := ⟨fun i a _ c => h.1 i a c, fun j _ => by rw [h.1 6 (by decide) (by decide)], h.2.1, h.2.2.1, h.2.2.2⟩
theorem drM_rd {σ τ : St} (h : rdM σ τ) : drM σ τ := ⟨fun i a _ _ => h.1 i (by simp) a, fun j _ => by rw [h.1 6 (by decide) (by decide)], fun j a b _ => h.2.1 j (by simp; omega), fun i _ => by rw [h.2.2], by rw [h.2.2]⟩
theorem drM_6 {σ τ : St} (h : drM σ τ) {j : Nat} (v : Int32) (hj : 160 ≤ j ∧ j ≠ 166 ∧ j ≠ 167) : drM σ (setI τ 6 j v) :=
  drM_tr h ⟨fun i a b c => gI_ne1 _ _ _ b, fun q hq => gI_ne2 _ _ _ (by omega), fun q a b c => by rw [gI_ne1 _ _ _ (by decide)], fun _ _ => rfl, rfl⟩
theorem MDr_st {T : Vw} {σ τ : St} {h f : Nat} (h7 : T 0 0 < 7) (hx : MDr T σ) (e0 : τ.1 6 160 = I (T 0 0 + 1)) (eh : τ.1 6 (168 + 2 * T 0 0) = I h) (ef : τ.1 6 (168 + 2 * T 0 0 + 1) = I f) (er : ∀ j, 160 < j → j ≠ 168 + 2 * T 0 0 → j ≠ 168 + 2 * T 0 0 + 1 → τ.1 6 j = σ.1 6 j) : MDr (stT T h f) τ := by
  obtain ⟨a0, a1, a2, a3, a4, a5, a6, a7, a8⟩ := hx
  have z0 : stT T h f 0 0 = T 0 0 + 1 := if_pos ⟨rfl, rfl⟩
  have zn : ∀ a b, ¬ (a = 0 ∧ b = 0) → ¬ a = 1 → ¬ a = 2 → stT T h f a b = T a b := fun a b h1 h2 h3 => by
    show (if a = 0 ∧ b = 0 then T 0 0 + 1 else if a = 1 ∧ b = T 0 0 then h else if a = 2 ∧ b = T 0 0 then f else T a b) = T a b
    rw [if_neg h1, if_neg (fun h9 => h2 h9.1), if_neg (fun h9 => h3 h9.1)]
  have z1 : ∀ s, stT T h f 1 s = if s = T 0 0 then h else T 1 s := fun s => by
    show (if 1 = 0 ∧ s = 0 then T 0 0 + 1 else if 1 = 1 ∧ s = T 0 0 then h else if 1 = 2 ∧ s = T 0 0 then f else T 1 s) = _
    by_cases e : s = T 0 0
    · rw [if_neg (by omega), if_pos ⟨rfl, e⟩, if_pos e]
    · rw [if_neg (by omega), if_neg (by omega), if_neg (by omega), if_neg e]
  have z2 : ∀ s, stT T h f 2 s = if s = T 0 0 then f else T 2 s := fun s => by
    show (if 2 = 0 ∧ s = 0 then T 0 0 + 1 else if 2 = 1 ∧ s = T 0 0 then h else if 2 = 2 ∧ s = T 0 0 then f else T 2 s) = _
    by_cases e : s = T 0 0
    · rw [if_neg (by omega), if_neg (by omega), if_pos ⟨rfl, e⟩, if_pos e]
    · rw [if_neg (by omega), if_neg (by omega), if_neg (by omega), if_neg e]
  refine ⟨?_, ?_, ?_, ?_, ?_, ?_, fun s hs => ?_, fun q hq => ?_, fun c hc => ?_⟩
  · rw [z0]; exact e0
  · rw [zn 0 1 (by omega) (by omega) (by omega)]; exact (er 161 (by omega) (by omega) (by omega)).trans a1
  · rw [zn 0 2 (by omega) (by omega) (by omega)]; exact (er 162 (by omega) (by omega) (by omega)).trans a2
  · rw [zn 0 3 (by omega) (by omega) (by omega)]; exact (er 163 (by omega) (by omega) (by omega)).trans a3
  · rw [zn 0 4 (by omega) (by omega) (by omega)]; exact (er 164 (by omega) (by omega) (by omega)).trans a4
  · rw [zn 0 5 (by omega) (by omega) (by omega)]; exact (er 165 (by omega) (by omega) (by omega)).trans a5
  · rw [z0] at hs
    rw [z1, z2]
    show τ.1 6 (160 + (8 + 2 * s)) = _ ∧ τ.1 6 (160 + (8 + 2 * s + 1)) = _
    by_cases e : s = T 0 0
    · rw [if_pos e, if_pos e, e, show 160 + (8 + 2 * T 0 0) = 168 + 2 * T 0 0 by omega, show 160 + (8 + 2 * T 0 0 + 1) = 168 + 2 * T 0 0 + 1 by omega]; exact ⟨eh, ef⟩
    · rw [if_neg e, if_neg e, er _ (by omega) (by omega) (by omega), er _ (by omega) (by omega) (by omega)]; exact a6 s (by omega)
  · rw [zn 3 q (by omega) (by omega) (by omega), zn 4 q (by omega) (by omega) (by omega)]
    show τ.1 6 (160 + (22 + 2 * q)) = _ ∧ (_ → τ.1 6 (160 + (22 + 2 * q + 1)) = _)
    rw [er _ (by omega) (by omega) (by omega), er _ (by omega) (by omega) (by omega)]
    exact a7 q hq
  · rw [zn 0 2 (by omega) (by omega) (by omega)] at hc
    rw [zn 5 c (by omega) (by omega) (by omega), zn 6 c (by omega) (by omega) (by omega), zn 7 c (by omega) (by omega) (by omega), zn 8 c (by omega) (by omega) (by omega)]
    show τ.1 6 (160 + (120 + 4 * c)) = _ ∧ τ.1 6 (160 + (120 + 4 * c + 1)) = _ ∧ τ.1 6 (160 + (120 + 4 * c + 2)) = _ ∧ τ.1 6 (160 + (120 + 4 * c + 3)) = _
    rw [er _ (by omega) (by omega) (by omega), er _ (by omega) (by omega) (by omega), er _ (by omega) (by omega) (by omega), er _ (by omega) (by omega) (by omega)]
    exact a8 c hc
