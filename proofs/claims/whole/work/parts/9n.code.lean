/-! the codes of words tell them apart -/
theorem cdF_inj {B : Nat} (hB : 0 < B) {g g' : Nat → Nat} {i j : Nat} : ∀ (m m' : Nat), (∀ q, q < m → 1 ≤ g (i + q) ∧ g (i + q) < B) → (∀ q, q < m' → 1 ≤ g' (j + q) ∧ g' (j + q) < B) → cdF B g i m = cdF B g' j m' → m = m' ∧ ∀ q, q < m → g (i + q) = g' (j + q)
  | 0, 0, _, _, _ => ⟨rfl, fun q hq => absurd hq (by omega)⟩
  | 0, m' + 1, _, h2, h => by
    have h' : 0 = cdF B g' j m' * B + g' (j + m') := h
    have := (h2 m' (by omega)).1
    omega
  | m + 1, 0, h1, _, h => by
    have h' : cdF B g i m * B + g (i + m) = 0 := h
    have := (h1 m (by omega)).1
    omega
  | m + 1, m' + 1, h1, h2, h => by
    have h' : cdF B g i m * B + g (i + m) = cdF B g' j m' * B + g' (j + m') := h
    have a1 := h1 m (by omega)
    have a2 := h2 m' (by omega)
    have e1 : (cdF B g i m * B + g (i + m)) % B = g (i + m) := by
      rw [Nat.add_comm, Nat.add_mul_mod_self_right, Nat.mod_eq_of_lt a1.2]
    have e2 : (cdF B g' j m' * B + g' (j + m')) % B = g' (j + m') := by
      rw [Nat.add_comm, Nat.add_mul_mod_self_right, Nat.mod_eq_of_lt a2.2]
    have e3 : g (i + m) = g' (j + m') := by rw [← e1, ← e2, h']
    have e4 : cdF B g i m * B = cdF B g' j m' * B := by omega
    have e5 : cdF B g i m = cdF B g' j m' := Nat.eq_of_mul_eq_mul_right hB e4
    have ih := cdF_inj hB m m' (fun q hq => h1 q (by omega)) (fun q hq => h2 q (by omega)) e5
    refine ⟨by omega, fun q hq => ?_⟩
    by_cases e : q = m
    · rw [e, e3, ih.1]
    · exact ih.2 q (by omega)
theorem cdF_congr {B : Nat} {g g' : Nat → Nat} {i j : Nat} : ∀ (m : Nat), (∀ q, q < m → g (i + q) = g' (j + q)) → cdF B g i m = cdF B g' j m
  | 0, _ => rfl
  | m + 1, h => by
    show cdF B g i m * B + g (i + m) = cdF B g' j m * B + g' (j + m)
    rw [cdF_congr m (fun q hq => h q (by omega)), h m (by omega)]
theorem cdF_lt {B : Nat} {g : Nat → Nat} {i : Nat} : ∀ (m : Nat), (∀ q, q < m → g (i + q) < B) → cdF B g i m < B ^ m
  | 0, _ => by show 0 < 1; omega
  | m + 1, h => by
    show cdF B g i m * B + g (i + m) < B ^ (m + 1)
    have h1 := cdF_lt m (fun q hq => h q (by omega))
    have h2 := h m (by omega)
    have h3 : (cdF B g i m + 1) * B ≤ B ^ m * B := Nat.mul_le_mul_right B h1
    rw [Nat.pow_succ]
    rw [Nat.add_mul, Nat.one_mul] at h3
    omega
theorem J_inj {a b : Nat} (ha : a < 9223372036854775808) (hb : b < 9223372036854775808) : Int64.ofNat a = Int64.ofNat b ↔ a = b := by
  constructor
  · intro h
    have h1 := congrArg Int64.toInt h
    rw [Int64.toInt_ofNat_of_lt ha, Int64.toInt_ofNat_of_lt hb] at h1
    omega
  · rintro rfl; rfl
/-- the first that fits -/
theorem wfF_sp {L : List Int32} : ∀ (f v : Nat), v + f = 42 → (∃ u, v ≤ u ∧ u < 42 ∧ wdT.getD u [] = L ∧ wfF L f v = u) ∨ ((∀ u, v ≤ u → u < 42 → ¬ wdT.getD u [] = L) ∧ wfF L f v = 38)
  | 0, v, h => Or.inr ⟨fun u h1 h2 => absurd h2 (by omega), rfl⟩
  | f + 1, v, h => by
    have e : wfF L (f + 1) v = if wdT.getD v [] = L then v else wfF L f (v + 1) := rfl
    rw [e]
    by_cases h1 : wdT.getD v [] = L
    · rw [if_pos h1]
      exact Or.inl ⟨v, Nat.le_refl _, by omega, h1, rfl⟩
    · rw [if_neg h1]
      rcases wfF_sp (L := L) f (v + 1) (by omega) with ⟨u, a, b, c, d⟩ | ⟨a, b⟩
      · exact Or.inl ⟨u, by omega, b, c, d⟩
      · refine Or.inr ⟨fun u g1 g2 => ?_, b⟩
        by_cases e : u = v
        · rw [e]; exact h1
        · exact a u (by omega) g2
theorem wd_dist {u v : Nat} (hu : u < 42) (hv : v < 38) (h : wdT.getD u [] = wdT.getD v []) : u = v := by
  have hd : ∀ u, u < 42 → ∀ v, v < 38 → wdT.getD u [] = wdT.getD v [] → u = v := by decide +kernel
  exact hd u hu v hv h
theorem wfd_iff {L : List Int32} {v : Nat} (hv : v < 38) : wfd L = v ↔ wdT.getD v [] = L := by
  unfold wfd
  rcases wfF_sp (L := L) 42 0 rfl with ⟨u, -, b, c, d⟩ | ⟨a, b⟩
  · rw [d]
    constructor
    · rintro rfl; exact c
    · intro h
      exact wd_dist b hv (c.trans h.symm)
  · rw [b]
    constructor
    · intro h; omega
    · intro h; exact absurd h (a v (by omega) (by omega))
theorem wd_nil {u : Nat} (h1 : 38 ≤ u) (h2 : u < 42) : wdT.getD u [] = [] := by
  have hd : ∀ u, u < 42 → 38 ≤ u → wdT.getD u [] = [] := by decide +kernel
  exact hd u h2 h1
theorem wfd_le {L : List Int32} (hL : L ≠ []) : wfd L ≤ 38 := by
  unfold wfd
  rcases wfF_sp (L := L) 42 0 rfl with ⟨u, -, b, c, d⟩ | ⟨a, b⟩
  · rw [d]
    by_cases e : u < 38
    · omega
    · exact absurd ((wd_nil (by omega) b).symm.trans c).symm hL
  · omega
/-- the word of the reference with number w -/
def wcl (w : Nat) : Nat := if w < 25 then w else w + 8
theorem wcl_lt {w : Nat} (h : w < 30) : wcl w < 38 := by unfold wcl; split <;> omega
def gw (w q : Nat) : Nat := ((wdT.getD (wcl w) []).getD q 0).toNatClampNeg
theorem J5_eq {w : Nat} (hw : w < 30) : sM0.2.1 5 w = Int64.ofNat (cdF 37 (fun q => gw w q - 96) 0 (wdT.getD (wcl w) []).length) := by
  have h : ∀ w, w < 30 → sM0.2.1 5 w = Int64.ofNat (cdF 37 (fun q => gw w q - 96) 0 (wdT.getD (wcl w) []).length) := by decide +kernel
  exact h w hw
theorem gw_let {w q : Nat} (hw : w < 30) (hq : q < (wdT.getD (wcl w) []).length) : 97 ≤ gw w q ∧ gw w q ≤ 122 ∧ (wdT.getD (wcl w) []).getD q 0 = I (gw w q) := by
  have h : ∀ w, w < 30 → ∀ q, q < 8 → q < (wdT.getD (wcl w) []).length → 97 ≤ gw w q ∧ gw w q ≤ 122 ∧ (wdT.getD (wcl w) []).getD q 0 = I (gw w q) := by decide +kernel
  have := wd_len (v := wcl w) (by have := wcl_lt hw; omega)
  exact h w hw q (by omega) hq
