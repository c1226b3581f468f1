/-! at most 37 paths -/
def dotX (x : Nat → Nat) : Nat → List Nat → Nat
  | _, [] => 0
  | i, r :: rs => x i * r + dotX x (i + 1) rs
def cntX (x : Nat → Nat) : Nat → List Nat → Nat
  | _, [] => 0
  | i, _ :: rs => x i + cntX x (i + 1) rs
theorem dot_sum {x : Nat → Nat} (hx : ∀ i, x i ≤ 1) : ∀ (rs : List Nat) (i : Nat), dotX x i rs ≤ rs.sum
  | [], _ => Nat.le_refl _
  | r :: rs, i => by
    have h := dot_sum hx rs (i + 1)
    have h1 : x i * r ≤ 1 * r := Nat.mul_le_mul_right r (hx i)
    rw [List.sum_cons]
    show x i * r + dotX x (i + 1) rs ≤ _
    omega
theorem gm_ok {x : Nat → Nat} (hx : ∀ i, x i ≤ 1) : ∀ (rs : List Nat) (i k lim : Nat), gm rs k lim = true → cntX x i rs ≤ k → dotX x i rs ≤ lim
  | [], _, _, _, _, _ => Nat.zero_le _
  | r :: rs, i, k, lim, h, hc => by
    have hc' : x i + cntX x (i + 1) rs ≤ k := hc
    show x i * r + dotX x (i + 1) rs ≤ lim
    have hx1 := hx i
    have h' : (Nat.ble (r + rs.sum) lim || (gm rs k lim && (Nat.beq k 0 || (Nat.ble r lim && gm rs (k - 1) (lim - r))))) = true := h
    rw [Bool.or_eq_true] at h'
    rcases h' with h1 | h1
    · have h2 := Nat.le_of_ble_eq_true h1
      have h3 := dot_sum hx (r :: rs) i
      rw [List.sum_cons] at h3
      have h4 : x i * r + dotX x (i + 1) rs ≤ r + rs.sum := h3
      omega
    · rw [Bool.and_eq_true] at h1
      by_cases e : x i = 0
      · rw [e, Nat.zero_mul, Nat.zero_add]
        exact gm_ok hx rs (i + 1) k lim h1.1 (by omega)
      · have e1 : x i = 1 := by omega
        have h2 := h1.2
        rw [Bool.or_eq_true] at h2
        rcases h2 with h2 | h2
        · have := Nat.eq_of_beq_eq_true h2
          omega
        · rw [Bool.and_eq_true] at h2
          have h3 := Nat.le_of_ble_eq_true h2.1
          have h4 := gm_ok hx rs (i + 1) (k - 1) (lim - r) h2.2 (by omega)
          rw [e1, Nat.one_mul]
          omega
/-- from the first station to those in the middle -/
def wz (T : Vw) (c : Nat) : Nat := if c < T 0 0 - 1 then wb T 0 c else 0
theorem wz_le (T : Vw) (c : Nat) : wz T c ≤ 1 := by unfold wz; split; exact wb_le T 0 c; omega
/-- from those in the middle to the last -/
def xB (T : Vw) (b : Nat) : Nat := if b < T 0 0 - 1 then wb T b (T 0 0 - 1) else 0
theorem xB_le (T : Vw) (b : Nat) : xB T b ≤ 1 := by unfold xB; split; exact wb_le T b _; omega
def aT (T : Vw) : Nat := wz T 1 + 2 * wz T 2 + 4 * wz T 3 + 8 * wz T 4 + 16 * wz T 5
theorem bits5 {x0 x1 x2 x3 x4 h : Nat} (a0 : x0 ≤ 1) (a1 : x1 ≤ 1) (a2 : x2 ≤ 1) (a3 : x3 ≤ 1) (a4 : x4 ≤ 1) (e : h = x0 + 2 * x1 + 4 * x2 + 8 * x3 + 16 * x4) : h < 32 ∧ 2 * h / 2 % 2 = x0 ∧ 2 * h / 4 % 2 = x1 ∧ 2 * h / 8 % 2 = x2 ∧ 2 * h / 16 % 2 = x3 ∧ 2 * h / 32 % 2 = x4 := by
  refine ⟨by omega, by omega, by omega, by omega, by omega, by omega⟩
theorem aT_bits (T : Vw) : aT T < 32 ∧ 2 * aT T / 2 % 2 = wz T 1 ∧ 2 * aT T / 4 % 2 = wz T 2 ∧ 2 * aT T / 8 % 2 = wz T 3 ∧ 2 * aT T / 16 % 2 = wz T 4 ∧ 2 * aT T / 32 % 2 = wz T 5 :=
  bits5 (wz_le _ _) (wz_le _ _) (wz_le _ _) (wz_le _ _) (wz_le _ _) rfl
theorem aT_bit (T : Vw) {c : Nat} (hc : 1 ≤ c ∧ c ≤ 5) : 2 * aT T / 2 ^ c % 2 = wz T c := by
  obtain ⟨-, b1, b2, b3, b4, b5⟩ := aT_bits T
  have ec : c = 1 ∨ c = 2 ∨ c = 3 ∨ c = 4 ∨ c = 5 := by omega
  rcases ec with rfl | rfl | rfl | rfl | rfl
  · exact b1
  · exact b2
  · exact b3
  · exact b4
  · exact b5
theorem S5_ifP (p : Prop) [Decidable p] (g : Nat → Nat) : (if p then S5 g else 0) = S5 (fun b => if p then g b else 0) := by
  by_cases h : p
  · simp only [if_pos h]
  · simp only [if_neg h]
    rfl
theorem gc_total {T : Vw} (hs : symT T) (h2 : 2 ≤ T 0 0) (h7 : T 0 0 ≤ 7) : gc T 6 0 1 = wb T 0 (T 0 0 - 1) + dotX (xB T) 1 (rows (hT T) (2 * aT T)) := by
  show (if 0 = T 0 0 - 1 then 1 else sumC (fun c => if ¬ 1 / 2 ^ c % 2 = 0 ∨ T 3 (7 * 0 + c) = 0 then 0 else gc T 5 c (1 ||| 2 ^ c)) (T 0 0)) = _
  rw [if_neg (by omega), sumC_S5 _ h2 h7]
  have one : ∀ c, 1 ≤ c → c < 7 → 1 / 2 ^ c % 2 = 0 := fun c h1 h9 => by
    have h : ∀ c, c < 7 → 1 ≤ c → 1 / 2 ^ c % 2 = 0 := by decide
    exact h c h9 h1
  have e0 : (if ¬ 1 / 2 ^ 0 % 2 = 0 ∨ T 3 (7 * 0 + 0) = 0 then 0 else gc T 5 0 (1 ||| 2 ^ 0)) = 0 := if_pos (Or.inl (by decide))
  have et : (if ¬ 1 / 2 ^ (T 0 0 - 1) % 2 = 0 ∨ T 3 (7 * 0 + (T 0 0 - 1)) = 0 then 0 else gc T 5 (T 0 0 - 1) (1 ||| 2 ^ (T 0 0 - 1))) = wb T 0 (T 0 0 - 1) := by
    unfold wb
    by_cases h : T 3 (7 * 0 + (T 0 0 - 1)) = 0
    · rw [if_pos (Or.inr h), if_pos h]
    · rw [if_neg (fun h9 => by rcases h9 with h9 | h9; exact h9 (one _ (by omega) (by omega)); exact h h9), if_neg h, gc_t]
  rw [e0, et, Nat.zero_add, Nat.add_comm]
  congr 1
  have e1 : S5 (fun c => if c < T 0 0 - 1 then (if ¬ 1 / 2 ^ c % 2 = 0 ∨ T 3 (7 * 0 + c) = 0 then 0 else gc T 5 c (1 ||| 2 ^ c)) else 0) = S5 (fun c => S5 (fun b => if 2 * aT T / 2 ^ c % 2 = 1 then (if b < T 0 0 - 1 ∧ wb T b (T 0 0 - 1) = 1 then qH (hT T) b 4 c (1 ||| 2 ^ c) else 0) else 0)) := S5_congr (fun c hc1 hc5 => by
    rw [← S5_ifP, aT_bit T ⟨hc1, hc5⟩]
    unfold wz
    by_cases g : c < T 0 0 - 1
    · rw [if_pos g, if_pos g]
      by_cases h : T 3 (7 * 0 + c) = 0
      · rw [if_pos (Or.inr h)]
        have : wb T 0 c = 0 := if_pos h
        rw [this, if_neg (by omega)]
      · rw [if_neg (fun h9 => by rcases h9 with h9 | h9; exact h9 (one _ (by omega) (by omega)); exact h h9)]
        have : wb T 0 c = 1 := if_neg h
        rw [if_pos this]
        refine gc_lin hs h2 h7 4 c (1 ||| 2 ^ c) ⟨hc1, g⟩ (bit7 (by omega) (by omega)).2.2 ?_ ?_ ?_
        · rw [or7 (by omega) (by omega) (by omega), if_neg (by omega)]; decide
        · rw [or7 (by omega) (by omega) (by omega), if_pos rfl]; omega
        · rw [or7 (by omega) (by omega) (by omega), if_neg (by omega)]; exact one _ (by omega) (by omega)
    · rw [if_neg g, if_neg g, if_neg (by omega)])
  rw [e1, S5_comm]
  have e2 : S5 (fun b => S5 (fun c => if 2 * aT T / 2 ^ c % 2 = 1 then (if b < T 0 0 - 1 ∧ wb T b (T 0 0 - 1) = 1 then qH (hT T) b 4 c (1 ||| 2 ^ c) else 0) else 0)) = S5 (fun b => xB T b * rowH (hT T) (2 * aT T) b) := S5_congr (fun b hb1 hb5 => by
    have hw := wb_le T b (T 0 0 - 1)
    by_cases hB : b < T 0 0 - 1 ∧ wb T b (T 0 0 - 1) = 1
    · have hx : xB T b = 1 := by unfold xB; rw [if_pos hB.1]; exact hB.2
      simp only [if_pos hB]
      rw [hx, Nat.one_mul]
      rfl
    · have hx : xB T b = 0 := by
        unfold xB
        by_cases g : b < T 0 0 - 1
        · rw [if_pos g]
          have : ¬ wb T b (T 0 0 - 1) = 1 := fun h => hB ⟨g, h⟩
          omega
        · rw [if_neg g]
      simp only [if_neg hB]
      rw [hx, Nat.zero_mul]
      have : S5 (fun c => if 2 * aT T / 2 ^ c % 2 = 1 then 0 else 0) = S5 (fun _ => 0) := S5_congr (fun c _ _ => by split <;> rfl)
      rw [this]
      rfl)
  rw [e2]
  unfold S5 rows
  simp only [dotX, Nat.reduceAdd]
  omega
/-- the ways that stand in the table -/
def E21 (T : Vw) : Nat := sumC (fun b => sumC (fun a => wb T a b) b) 7
theorem E21_eq (T : Vw) : E21 T = wb T 0 1 + (wb T 0 2 + wb T 1 2) + (wb T 0 3 + wb T 1 3 + wb T 2 3) + (wb T 0 4 + wb T 1 4 + wb T 2 4 + wb T 3 4) + (wb T 0 5 + wb T 1 5 + wb T 2 5 + wb T 3 5 + wb T 4 5) + (wb T 0 6 + wb T 1 6 + wb T 2 6 + wb T 3 6 + wb T 4 6 + wb T 5 6) := by
  unfold E21
  simp only [sumC]
  omega
theorem pop_h (T : Vw) : pop (hT T) = wm T 1 2 + wm T 1 3 + wm T 1 4 + wm T 1 5 + wm T 2 3 + wm T 2 4 + wm T 2 5 + wm T 3 4 + wm T 3 5 + wm T 4 5 := by
  obtain ⟨-, b0, b1, b2, b3, b4, b5, b6, b7, b8, b9⟩ := hT_bits T
  unfold pop
  rw [b0, b1, b2, b3, b4, b5, b6, b7, b8, b9]
theorem pop_a (T : Vw) : pop (2 * aT T) = wz T 1 + wz T 2 + wz T 3 + wz T 4 + wz T 5 := by
  obtain ⟨h, b1, b2, b3, b4, b5⟩ := aT_bits T
  unfold pop
  rw [b1, b2, b3, b4, b5]
  omega
theorem E21_le {T : Vw} (h2 : 2 ≤ T 0 0) (h7 : T 0 0 ≤ 7) : pop (hT T) + pop (2 * aT T) + (xB T 1 + xB T 2 + xB T 3 + xB T 4 + xB T 5) + wb T 0 (T 0 0 - 1) ≤ E21 T := by
  rw [pop_h, pop_a, E21_eq]
  have e : T 0 0 = 2 ∨ T 0 0 = 3 ∨ T 0 0 = 4 ∨ T 0 0 = 5 ∨ T 0 0 = 6 ∨ T 0 0 = 7 := by omega
  rcases e with e | e | e | e | e | e
  · simp [wm, wz, xB, e]; omega
  · simp [wm, wz, xB, e]; omega
  · simp [wm, wz, xB, e]; omega
  · simp [wm, wz, xB, e]; omega
  · simp [wm, wz, xB, e]; omega
  · simp [wm, wz, xB, e]; omega
theorem most37 {T : Vw} (hs : symT T) (h7 : T 0 0 ≤ 7) (h12 : E21 T ≤ 12) : R00 T 0 0 ≤ 37 := by
  rw [R00_cnt]
  by_cases z : T 0 0 = 0
  · rw [if_pos z]; omega
  · rw [if_neg z]
    by_cases z1 : T 0 0 = 1
    · have : gc T 6 0 1 = 1 := if_pos (by omega)
      omega
    · have h2 : 2 ≤ T 0 0 := by omega
      rw [gc_total hs h2 h7]
      have hle := E21_le h2 h7
      have hk := chkH_all (hT_bits T).1
      unfold chkH at hk
      have hA := List.all_eq_true.mp hk (aT T) (List.mem_range.mpr (aT_bits T).1)
      unfold chkA at hA
      rw [Bool.and_eq_true, Bool.or_eq_true] at hA
      have hcnt : cntX (xB T) 1 (rows (hT T) (2 * aT T)) = xB T 1 + xB T 2 + xB T 3 + xB T 4 + xB T 5 := by
        unfold rows
        simp only [cntX, Nat.reduceAdd]
        omega
      have hw := wb_le T 0 (T 0 0 - 1)
      by_cases hst : wb T 0 (T 0 0 - 1) = 0
      · rw [hst, Nat.zero_add]
        exact gm_ok (xB_le T) _ _ _ _ hA.1 (by omega)
      · rcases hA.2 with h | h
        · have := Nat.eq_of_beq_eq_true h
          omega
        · have := gm_ok (xB_le T) _ 1 _ _ h (by omega)
          omega
