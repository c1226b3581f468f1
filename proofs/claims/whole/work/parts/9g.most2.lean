/-! the number of paths -/
def sumC (f : Nat → Nat) : Nat → Nat
  | 0 => 0
  | k + 1 => sumC f k + f k
def gc (T : Vw) : Nat → Nat → Nat → Nat
  | 0, a, _ => if a = T 0 0 - 1 then 1 else 0
  | n + 1, a, ps => if a = T 0 0 - 1 then 1 else sumC (fun c => if ¬ ps / 2 ^ c % 2 = 0 ∨ T 3 (7 * a + c) = 0 then 0 else gc T n c (ps ||| 2 ^ c)) (T 0 0)
theorem fc_cnt {F : Nat → Vw → Vw} {g : Nat → Nat} (h : ∀ c R, F c R 0 0 = R 0 0 + g c) : ∀ k R, fc F k R 0 0 = R 0 0 + sumC g k
  | 0, R => rfl
  | k + 1, R => by
    show F k (fc F k R) 0 0 = R 0 0 + (sumC g k + g k)
    rw [h, fc_cnt h k R]
    omega
theorem gn_cnt {T : Vw} : ∀ (n i ps : Nat) (w : Nat → Nat) (R : Vw), gn T n i ps w R 0 0 = R 0 0 + gc T n (w i) ps
  | 0, i, ps, w, R => by
    unfold gn gc
    split
    · rw [adR_0]
    · rw [Nat.add_zero]
  | n + 1, i, ps, w, R => by
    unfold gn gc
    split
    · rw [adR_0]
    · refine fc_cnt (fun c R' => ?_) _ _
      split
      · rw [Nat.add_zero]
      · rw [gn_cnt n, updN_s]
theorem R00_cnt (T : Vw) : R00 T 0 0 = if T 0 0 = 0 then 0 else gc T 6 0 1 := by
  unfold R00
  split
  · rfl
  · rw [gn_cnt]
    exact Nat.zero_add _
theorem S5_congr {f g : Nat → Nat} (h : ∀ c, 1 ≤ c → c ≤ 5 → f c = g c) : S5 f = S5 g := by
  unfold S5
  rw [h 1 (by omega) (by omega), h 2 (by omega) (by omega), h 3 (by omega) (by omega), h 4 (by omega) (by omega), h 5 (by omega) (by omega)]
theorem S5_comm (f : Nat → Nat → Nat) : S5 (fun c => S5 (fun b => f c b)) = S5 (fun b => S5 (fun c => f c b)) := by
  simp only [S5]
  omega
theorem S5_add (f g : Nat → Nat) : S5 (fun b => f b + g b) = S5 f + S5 g := by
  simp only [S5]
  omega
theorem S5_ifB (t : Bool) (g : Nat → Nat) : (if t = true then S5 g else 0) = S5 (fun b => if t = true then g b else 0) := by
  cases t
  · rfl
  · rfl
theorem sumC_S5 (f : Nat → Nat) {m : Nat} (h2 : 2 ≤ m) (h7 : m ≤ 7) : sumC f m = f 0 + S5 (fun c => if c < m - 1 then f c else 0) + f (m - 1) := by
  have : m = 2 ∨ m = 3 ∨ m = 4 ∨ m = 5 ∨ m = 6 ∨ m = 7 := by omega
  rcases this with rfl | rfl | rfl | rfl | rfl | rfl
  · show 0 + f 0 + f 1 = f 0 + (0 + 0 + 0 + 0 + 0) + f 1; omega
  · show 0 + f 0 + f 1 + f 2 = f 0 + (f 1 + 0 + 0 + 0 + 0) + f 2; omega
  · show 0 + f 0 + f 1 + f 2 + f 3 = f 0 + (f 1 + f 2 + 0 + 0 + 0) + f 3; omega
  · show 0 + f 0 + f 1 + f 2 + f 3 + f 4 = f 0 + (f 1 + f 2 + f 3 + 0 + 0) + f 4; omega
  · show 0 + f 0 + f 1 + f 2 + f 3 + f 4 + f 5 = f 0 + (f 1 + f 2 + f 3 + f 4 + 0) + f 5; omega
  · show 0 + f 0 + f 1 + f 2 + f 3 + f 4 + f 5 + f 6 = f 0 + (f 1 + f 2 + f 3 + f 4 + f 5) + f 6; omega
/-- 1 where there is a way -/
def wb (T : Vw) (a b : Nat) : Nat := if T 3 (7 * a + b) = 0 then 0 else 1
theorem wb_le (T : Vw) (a b : Nat) : wb T a b ≤ 1 := by unfold wb; split <;> omega
/-- between the stations in the middle -/
def wm (T : Vw) (a b : Nat) : Nat := if a < T 0 0 - 1 ∧ b < T 0 0 - 1 then wb T a b else 0
theorem wm_le (T : Vw) (a b : Nat) : wm T a b ≤ 1 := by unfold wm; split; exact wb_le T a b; omega
def hT (T : Vw) : Nat := wm T 1 2 + 2 * wm T 1 3 + 4 * wm T 1 4 + 8 * wm T 1 5 + 16 * wm T 2 3 + 32 * wm T 2 4 + 64 * wm T 2 5 + 128 * wm T 3 4 + 256 * wm T 3 5 + 512 * wm T 4 5
theorem bits10 {x0 x1 x2 x3 x4 x5 x6 x7 x8 x9 h : Nat} (a0 : x0 ≤ 1) (a1 : x1 ≤ 1) (a2 : x2 ≤ 1) (a3 : x3 ≤ 1) (a4 : x4 ≤ 1) (a5 : x5 ≤ 1) (a6 : x6 ≤ 1) (a7 : x7 ≤ 1) (a8 : x8 ≤ 1) (a9 : x9 ≤ 1) (e : h = x0 + 2 * x1 + 4 * x2 + 8 * x3 + 16 * x4 + 32 * x5 + 64 * x6 + 128 * x7 + 256 * x8 + 512 * x9) : h < 1024 ∧ h % 2 = x0 ∧ h / 2 % 2 = x1 ∧ h / 4 % 2 = x2 ∧ h / 8 % 2 = x3 ∧ h / 16 % 2 = x4 ∧ h / 32 % 2 = x5 ∧ h / 64 % 2 = x6 ∧ h / 128 % 2 = x7 ∧ h / 256 % 2 = x8 ∧ h / 512 % 2 = x9 := by
  refine ⟨by omega, by omega, by omega, by omega, by omega, by omega, by omega, by omega, by omega, by omega, by omega⟩
theorem hT_bits (T : Vw) : hT T < 1024 ∧ hT T % 2 = wm T 1 2 ∧ hT T / 2 % 2 = wm T 1 3 ∧ hT T / 4 % 2 = wm T 1 4 ∧ hT T / 8 % 2 = wm T 1 5 ∧ hT T / 16 % 2 = wm T 2 3 ∧ hT T / 32 % 2 = wm T 2 4 ∧ hT T / 64 % 2 = wm T 2 5 ∧ hT T / 128 % 2 = wm T 3 4 ∧ hT T / 256 % 2 = wm T 3 5 ∧ hT T / 512 % 2 = wm T 4 5 :=
  bits10 (wm_le _ _ _) (wm_le _ _ _) (wm_le _ _ _) (wm_le _ _ _) (wm_le _ _ _) (wm_le _ _ _) (wm_le _ _ _) (wm_le _ _ _) (wm_le _ _ _) (wm_le _ _ _) rfl
def symT (T : Vw) : Prop := ∀ a, a < 7 → ∀ b, b < 7 → T 3 (7 * a + b) = T 3 (7 * b + a)
theorem wm_sym {T : Vw} (hs : symT T) {a b : Nat} (ha : a < 7) (hb : b < 7) : wm T a b = wm T b a := by
  unfold wm wb
  rw [hs a ha b hb]
  by_cases h : a < T 0 0 - 1 ∧ b < T 0 0 - 1
  · rw [if_pos h, if_pos (⟨h.2, h.1⟩ : b < T 0 0 - 1 ∧ a < T 0 0 - 1)]
  · rw [if_neg h, if_neg (fun (h9 : b < T 0 0 - 1 ∧ a < T 0 0 - 1) => h ⟨h9.2, h9.1⟩)]
theorem hT_ix {T : Vw} (hs : symT T) {a c : Nat} (ha : 1 ≤ a ∧ a ≤ 5) (hc : 1 ≤ c ∧ c ≤ 5) (hne : ¬ a = c) : hT T / 2 ^ ix a c % 2 = wm T a c := by
  obtain ⟨-, b0, b1, b2, b3, b4, b5, b6, b7, b8, b9⟩ := hT_bits T
  have ea : a = 1 ∨ a = 2 ∨ a = 3 ∨ a = 4 ∨ a = 5 := by omega
  have ec : c = 1 ∨ c = 2 ∨ c = 3 ∨ c = 4 ∨ c = 5 := by omega
  have d0 : hT T / 2 ^ 0 % 2 = wm T 1 2 := by rw [Nat.pow_zero, Nat.div_one]; exact b0
  rcases ea with rfl | rfl | rfl | rfl | rfl <;> rcases ec with rfl | rfl | rfl | rfl | rfl
  · exact absurd rfl hne
  · exact d0
  · exact b1
  · exact b2
  · exact b3
  · rw [wm_sym hs (by omega) (by omega)]; exact d0
  · exact absurd rfl hne
  · exact b4
  · exact b5
  · exact b6
  · rw [wm_sym hs (by omega) (by omega)]; exact b1
  · rw [wm_sym hs (by omega) (by omega)]; exact b4
  · exact absurd rfl hne
  · exact b7
  · exact b8
  · rw [wm_sym hs (by omega) (by omega)]; exact b2
  · rw [wm_sym hs (by omega) (by omega)]; exact b5
  · rw [wm_sym hs (by omega) (by omega)]; exact b7
  · exact absurd rfl hne
  · exact b9
  · rw [wm_sym hs (by omega) (by omega)]; exact b3
  · rw [wm_sym hs (by omega) (by omega)]; exact b6
  · rw [wm_sym hs (by omega) (by omega)]; exact b8
  · rw [wm_sym hs (by omega) (by omega)]; exact b9
  · exact absurd rfl hne
theorem tH_iff {T : Vw} (hs : symT T) {a c ps : Nat} (ha : 1 ≤ a ∧ a ≤ 5) (hc : 1 ≤ c ∧ c ≤ 5) (haps : ¬ ps / 2 ^ a % 2 = 0) (ham : a < T 0 0 - 1) : (tH (hT T) a c ps = true) ↔ (c < T 0 0 - 1 ∧ ¬ (¬ ps / 2 ^ c % 2 = 0 ∨ T 3 (7 * a + c) = 0)) := by
  unfold tH
  simp only [Bool.and_eq_true, Bool.not_eq_true', Nat.beq_eq]
  by_cases e : a = c
  · subst e
    constructor
    · intro h
      exact absurd h.1 haps
    · intro h
      exact absurd (Or.inl haps) h.2
  · rw [hT_ix hs ha hc e]
    have eb : Nat.beq a c = false := by
      cases hb : Nat.beq a c
      · rfl
      · exact absurd (Nat.eq_of_beq_eq_true hb) e
    constructor
    · intro h
      have h2 := h.2.2
      unfold wm at h2
      by_cases hm : a < T 0 0 - 1 ∧ c < T 0 0 - 1
      · rw [if_pos hm] at h2
        unfold wb at h2
        by_cases ht : T 3 (7 * a + c) = 0
        · rw [if_pos ht] at h2; omega
        · exact ⟨hm.2, fun h9 => by rcases h9 with h9 | h9; exact h9 h.1; exact ht h9⟩
      · rw [if_neg hm] at h2; omega
    · intro h
      refine ⟨Classical.not_not.mp (fun h9 => h.2 (Or.inl h9)), eb, ?_⟩
      unfold wm wb
      rw [if_pos ⟨ham, h.1⟩, if_neg (fun h9 => h.2 (Or.inr h9))]
theorem or7 {m c e : Nat} (hm : m < 128) (hc : c < 7) (he : e < 7) : (m ||| 2 ^ c) / 2 ^ e % 2 = if e = c then 1 else m / 2 ^ e % 2 := by
  have h : ∀ m, m < 128 → ∀ c, c < 7 → ∀ e, e < 7 → (m ||| 2 ^ c) / 2 ^ e % 2 = if e = c then 1 else m / 2 ^ e % 2 := by decide +kernel
  exact h m hm c hc e he
theorem gc_t {T : Vw} (n ps : Nat) : gc T n (T 0 0 - 1) ps = 1 := by
  cases n with
  | zero => exact if_pos rfl
  | succ n => exact if_pos rfl
/-- one step of the search -/
theorem gc_step {T : Vw} (hs : symT T) (h2 : 2 ≤ T 0 0) (h7 : T 0 0 ≤ 7) (n : Nat) {a ps : Nat} (ha : 1 ≤ a ∧ a < T 0 0 - 1) (hps : ps < 128) (p0 : ¬ ps / 2 ^ 0 % 2 = 0) (pa : ¬ ps / 2 ^ a % 2 = 0) (pt : ps / 2 ^ (T 0 0 - 1) % 2 = 0) : gc T (n + 1) a ps = wb T a (T 0 0 - 1) + S5 (fun c => if tH (hT T) a c ps = true then gc T n c (ps ||| 2 ^ c) else 0) := by
  show (if a = T 0 0 - 1 then 1 else sumC (fun c => if ¬ ps / 2 ^ c % 2 = 0 ∨ T 3 (7 * a + c) = 0 then 0 else gc T n c (ps ||| 2 ^ c)) (T 0 0)) = _
  rw [if_neg (by omega), sumC_S5 _ h2 h7]
  have e0 : (if ¬ ps / 2 ^ 0 % 2 = 0 ∨ T 3 (7 * a + 0) = 0 then 0 else gc T n 0 (ps ||| 2 ^ 0)) = 0 := if_pos (Or.inl p0)
  have et : (if ¬ ps / 2 ^ (T 0 0 - 1) % 2 = 0 ∨ T 3 (7 * a + (T 0 0 - 1)) = 0 then 0 else gc T n (T 0 0 - 1) (ps ||| 2 ^ (T 0 0 - 1))) = wb T a (T 0 0 - 1) := by
    unfold wb
    by_cases h : T 3 (7 * a + (T 0 0 - 1)) = 0
    · rw [if_pos (Or.inr h), if_pos h]
    · rw [if_neg (fun h9 => by rcases h9 with h9 | h9; exact h9 pt; exact h h9), if_neg h, gc_t]
  rw [e0, et, Nat.zero_add, Nat.add_comm]
  congr 1
  refine S5_congr (fun c hc1 hc5 => ?_)
  have hi := tH_iff hs (c := c) ⟨ha.1, by omega⟩ ⟨hc1, hc5⟩ pa ha.2
  by_cases ht : tH (hT T) a c ps = true
  · obtain ⟨g1, g2⟩ := hi.mp ht
    rw [if_pos ht, if_pos g1, if_neg g2]
  · rw [if_neg ht]
    by_cases g1 : c < T 0 0 - 1
    · rw [if_pos g1]
      by_cases g2 : ¬ ps / 2 ^ c % 2 = 0 ∨ T 3 (7 * a + c) = 0
      · rw [if_pos g2]
      · exact absurd (hi.mpr ⟨g1, g2⟩) ht
    · rw [if_neg g1]
theorem S5_one {a : Nat} (ha : 1 ≤ a ∧ a ≤ 5) (g : Nat → Nat) : S5 (fun b => if a = b then g b else 0) = g a := by
  have ea : a = 1 ∨ a = 2 ∨ a = 3 ∨ a = 4 ∨ a = 5 := by omega
  unfold S5
  rcases ea with rfl | rfl | rfl | rfl | rfl <;> simp
theorem gc_lin {T : Vw} (hs : symT T) (h2 : 2 ≤ T 0 0) (h7 : T 0 0 ≤ 7) : ∀ (n a ps : Nat), 1 ≤ a ∧ a < T 0 0 - 1 → ps < 128 → ¬ ps / 2 ^ 0 % 2 = 0 → ¬ ps / 2 ^ a % 2 = 0 → ps / 2 ^ (T 0 0 - 1) % 2 = 0 → gc T (n + 1) a ps = S5 (fun b => if b < T 0 0 - 1 ∧ wb T b (T 0 0 - 1) = 1 then qH (hT T) b n a ps else 0) := by
  intro n
  induction n with
  | zero =>
    intro a ps ha hps p0 pa pt
    rw [gc_step hs h2 h7 0 ha hps p0 pa pt]
    have ez : S5 (fun c => if tH (hT T) a c ps = true then gc T 0 c (ps ||| 2 ^ c) else 0) = S5 (fun _ => 0) := S5_congr (fun c hc1 hc5 => by
      by_cases ht : tH (hT T) a c ps = true
      · have g1 := ((tH_iff hs (c := c) ⟨ha.1, by omega⟩ ⟨hc1, hc5⟩ pa ha.2).mp ht).1
        rw [if_pos ht]
        exact if_neg (by omega)
      · rw [if_neg ht])
    rw [ez]
    have e1 : S5 (fun b => if b < T 0 0 - 1 ∧ wb T b (T 0 0 - 1) = 1 then qH (hT T) b 0 a ps else 0) = S5 (fun b => if a = b then wb T b (T 0 0 - 1) else 0) := S5_congr (fun b hb1 hb5 => by
      show (if _ then (if a = b then 1 else 0) else 0) = _
      have hw := wb_le T b (T 0 0 - 1)
      by_cases e : a = b
      · rw [if_pos e, if_pos e]
        by_cases h1 : wb T b (T 0 0 - 1) = 1
        · rw [if_pos ⟨by omega, h1⟩, h1]
        · rw [if_neg (fun h => h1 h.2)]; omega
      · rw [if_neg e, if_neg e]
        split <;> rfl)
    rw [e1, S5_one ⟨ha.1, by omega⟩]
    show wb T a (T 0 0 - 1) + (0 + 0 + 0 + 0 + 0) = _
    omega
  | succ n ih =>
    intro a ps ha hps p0 pa pt
    rw [gc_step hs h2 h7 (n + 1) ha hps p0 pa pt]
    have e1 : S5 (fun c => if tH (hT T) a c ps = true then gc T (n + 1) c (ps ||| 2 ^ c) else 0) = S5 (fun c => S5 (fun b => if tH (hT T) a c ps = true then (if b < T 0 0 - 1 ∧ wb T b (T 0 0 - 1) = 1 then qH (hT T) b n c (ps ||| 2 ^ c) else 0) else 0)) := S5_congr (fun c hc1 hc5 => by
      rw [← S5_ifB]
      by_cases ht : tH (hT T) a c ps = true
      · have g1 := ((tH_iff hs (c := c) ⟨ha.1, by omega⟩ ⟨hc1, hc5⟩ pa ha.2).mp ht).1
        rw [if_pos ht, if_pos ht]
        refine ih c (ps ||| 2 ^ c) ⟨hc1, g1⟩ (bit7 hps (by omega)).2.2 ?_ ?_ ?_
        · rw [or7 hps (by omega) (by omega), if_neg (by omega)]; exact p0
        · rw [or7 hps (by omega) (by omega), if_pos rfl]; omega
        · rw [or7 hps (by omega) (by omega), if_neg (by omega)]; exact pt
      · rw [if_neg ht, if_neg ht])
    rw [e1, S5_comm]
    have e2 : S5 (fun b => if b < T 0 0 - 1 ∧ wb T b (T 0 0 - 1) = 1 then qH (hT T) b (n + 1) a ps else 0) = S5 (fun b => (if a = b then wb T b (T 0 0 - 1) else 0) + S5 (fun c => if tH (hT T) a c ps = true then (if b < T 0 0 - 1 ∧ wb T b (T 0 0 - 1) = 1 then qH (hT T) b n c (ps ||| 2 ^ c) else 0) else 0)) := S5_congr (fun b hb1 hb5 => by
      show (if _ then ((if a = b then 1 else 0) + S5 (fun c => if tH (hT T) a c ps = true then qH (hT T) b n c (ps ||| 2 ^ c) else 0)) else 0) = _
      have hw := wb_le T b (T 0 0 - 1)
      by_cases hB : b < T 0 0 - 1 ∧ wb T b (T 0 0 - 1) = 1
      · simp only [if_pos hB]
        rw [hB.2]
      · simp only [if_neg hB]
        have z : S5 (fun c => if tH (hT T) a c ps = true then 0 else 0) = 0 := by
          have : S5 (fun c => if tH (hT T) a c ps = true then 0 else 0) = S5 (fun _ => 0) := S5_congr (fun c _ _ => by split <;> rfl)
          rw [this]; rfl
        rw [z]
        by_cases e : a = b
        · rw [if_pos e]
          have : ¬ wb T b (T 0 0 - 1) = 1 := fun h => hB ⟨by omega, h⟩
          omega
        · rw [if_neg e])
    rw [e2, S5_add, S5_one ⟨ha.1, by omega⟩]
