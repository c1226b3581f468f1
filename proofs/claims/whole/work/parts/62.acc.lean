/-! readers -/
theorem bnd2_e {α γ β : Type} (a : α) (c : γ) (f : α → γ → Option β) : bnd2 (some (a, c)) f = f a c := rfl
theorem bnd1_e {α β : Type} (a : α) (f : α → Option β) : bnd1 (some a) f = f a := rfl
theorem nmE {α β : Type} (x : α) (f : α → Option β) : nm x f = f x := rfl
theorem chk_e {β : Type} (k : Option β) : chk true k = k := rfl
theorem brc_e {β : Type} (p : Prop) [Decidable p] (a b : Option β) : brc p a b = if p then a else b := rfl
/-- 1 or 0 -/
def b01 (p : Prop) [Decidable p] : Int32 := if p then 1 else 0
theorem b01_ne {p : Prop} [Decidable p] : (b01 p = 0) ↔ ¬ p := by
  unfold b01
  by_cases h : p <;> simp [h]
abbrev inR (v n : Int32) : Prop := 0 ≤ v ∧ v < n
theorem not_lt32 {a b : Int32} : ¬ a < b ↔ b ≤ a := by
  rw [Int32.lt_iff_toInt_lt, Int32.le_iff_toInt_le]; omega
theorem not_le32 {a b : Int32} : ¬ a ≤ b ↔ b < a := by
  rw [Int32.lt_iff_toInt_lt, Int32.le_iff_toInt_le]; omega
theorem two_if {β : Type} {v n : Int32} {x y : β} : (if v < 0 then x else if n ≤ v then x else y) = if inR v n then y else x := by
  by_cases h1 : v < 0
  · rw [if_pos h1, if_neg (fun h => by have := h.1; rw [← not_lt32] at this; exact this h1)]
  · rw [if_neg h1]
    by_cases h2 : n ≤ v
    · rw [if_pos h2, if_neg (fun h => by have := h.2; rw [← not_le32] at this; exact this h2)]
    · rw [if_neg h2, if_pos ⟨not_lt32.mp h1, not_le32.mp h2⟩]
theorem eM_stations (σ : St) : rM_stations σ = some (σ.1 6 0, σ) := rfl
theorem eM_carriers (σ : St) : rM_carriers σ = some (σ.1 6 2, σ) := rfl
theorem eM_isStation (v : Int32) (σ : St) : rM_isStation v σ = some (b01 (inR v (σ.1 6 0)), σ) := by
  unfold rM_isStation
  rw [eM_stations, bnd2_e, brc_e, brc_e, two_if]
  unfold b01
  by_cases h : inR v (σ.1 6 0)
  · rw [if_pos h, if_pos h]; rfl
  · rw [if_neg h, if_neg h]; rfl
theorem eM_isCarrier (v : Int32) (σ : St) : rM_isCarrier v σ = some (b01 (inR v (σ.1 6 2)), σ) := by
  unfold rM_isCarrier
  rw [eM_carriers, bnd2_e, brc_e, brc_e, two_if]
  unfold b01
  by_cases h : inR v (σ.1 6 2)
  · rw [if_pos h, if_pos h]; rfl
  · rw [if_neg h, if_neg h]; rfl
theorem eX_hasStation (v : Int32) (σ : St) : rX_hasStation v σ = some (b01 (inR v (σ.1 23 0)), σ) := by
  unfold rX_hasStation
  rw [brc_e, brc_e, two_if]
  unfold b01
  by_cases h : inR v (σ.1 23 0)
  · rw [if_pos h, if_pos h]; rfl
  · rw [if_neg h, if_neg h]; rfl
theorem eX_hasCarrier (v : Int32) (σ : St) : rX_hasCarrier v σ = some (b01 (inR v (σ.1 23 2)), σ) := by
  unfold rX_hasCarrier
  rw [brc_e, brc_e, two_if]
  unfold b01
  by_cases h : inR v (σ.1 23 2)
  · rw [if_pos h, if_pos h]; rfl
  · rw [if_neg h, if_neg h]; rfl
theorem eM_within (v a b : Int32) (σ : St) : rM_within v a b σ = some (b01 (a ≤ v ∧ v ≤ b), σ) := by
  unfold rM_within
  rw [brc_e, brc_e]
  unfold b01
  by_cases h1 : v < a
  · rw [if_pos h1, if_neg (fun h => by have := h.1; rw [← not_lt32] at this; exact this h1)]; rfl
  · rw [if_neg h1]
    by_cases h2 : b < v
    · rw [if_pos h2, if_neg (fun h => by have := h.2; rw [← not_lt32] at this; exact this h2)]; rfl
    · rw [if_neg h2, if_pos ⟨not_lt32.mp h1, not_lt32.mp h2⟩]; rfl
