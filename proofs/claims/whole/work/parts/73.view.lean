/-! the picture that both sides show -/
abbrev Vw : Type := Nat → Nat → Nat
def wfT (T : Vw) : Prop := T 0 0 ≤ 7 ∧ T 0 2 ≤ 6 ∧ T 0 3 ≤ 99 ∧ T 0 4 ≤ 200 ∧ T 0 5 ≤ 999 ∧ (∀ s, s < T 0 0 → T 1 s ≤ 99 ∧ T 2 s ≤ 9) ∧ (∀ q, q < 49 → T 3 q ≤ 99 ∧ T 4 q ≤ 9) ∧ (∀ c, c < T 0 2 → T 5 c ≤ 5 ∧ T 6 c ≤ 60 ∧ T 7 c ≤ 20 ∧ T 8 c ≤ 9)
/-- the mountain in the class -/
def XMt (T : Vw) (σ : St) : Prop := σ.1 23 0 = I (T 0 0) ∧ σ.1 23 1 = I (T 0 1) ∧ σ.1 23 2 = I (T 0 2) ∧ σ.1 23 14 = I (T 0 3) ∧ σ.1 23 15 = I (T 0 4) ∧ σ.1 23 16 = I (T 0 5) ∧ (∀ s, s < T 0 0 → σ.1 24 s = I (T 1 s) ∧ σ.1 25 s = I (T 2 s)) ∧ (∀ q, q < 49 → σ.1 26 q = I (T 3 q) ∧ (0 < T 3 q → σ.1 27 q = I (T 4 q))) ∧ (∀ c, c < T 0 2 → σ.1 28 c = I (T 5 c) ∧ σ.1 29 c = I (T 6 c) ∧ σ.1 30 c = I (T 7 c) ∧ σ.1 31 c = I (T 8 c))
/-- the mountain in the reference -/
def MT (T : Vw) (σ : St) : Prop := σ.1 6 0 = I (T 0 0) ∧ σ.1 6 1 = I (T 0 1) ∧ σ.1 6 2 = I (T 0 2) ∧ σ.1 6 3 = I (T 0 3) ∧ σ.1 6 4 = I (T 0 4) ∧ σ.1 6 5 = I (T 0 5) ∧ (∀ s, s < T 0 0 → σ.1 6 (8 + 2 * s) = I (T 1 s) ∧ σ.1 6 (8 + 2 * s + 1) = I (T 2 s)) ∧ (∀ q, q < 49 → σ.1 6 (22 + 2 * q) = I (T 3 q) ∧ (0 < T 3 q → σ.1 6 (22 + 2 * q + 1) = I (T 4 q))) ∧ (∀ c, c < T 0 2 → σ.1 6 (120 + 4 * c) = I (T 5 c) ∧ σ.1 6 (120 + 4 * c + 1) = I (T 6 c) ∧ σ.1 6 (120 + 4 * c + 2) = I (T 7 c) ∧ σ.1 6 (120 + 4 * c + 3) = I (T 8 c))
def wfD (n : Nat) (D : Vw) : Prop := D 4 5 < 64 ∧ D 4 6 < 64 ∧ D 4 1 < 2147483648 ∧ D 4 2 ≤ 60 ∧ D 4 0 ≤ 200 ∧ (∀ s, s < n → D 3 s ≤ 9)
/-- a day in the class, cells from d on -/
def XD (d n : Nat) (D : Vw) (σ : St) : Prop := (∀ q, q < 36 → σ.1 (d + 5) q = I (D 0 q)) ∧ (∀ c, c < 6 → σ.1 (d + 4) c = I (D 4 5 / 2 ^ c % 2)) ∧ (∀ c, c < 6 → σ.1 (d + 2) c = I (D 4 6 / 2 ^ c % 2)) ∧ σ.2.1 d 3 = Int64.ofNat (D 4 1) ∧ σ.1 d 0 = I (D 4 3) ∧ σ.1 d 1 = I (D 4 4) ∧ σ.1 d 2 = I (D 4 0) ∧ σ.1 d 4 = I (D 4 2) ∧ (∀ i, i < D 4 2 → σ.1 (d + 6) i = I (D 6 i) ∧ σ.1 (d + 7) i = I (D 7 i) ∧ σ.1 (d + 8) i = I (D 8 i)) ∧ (∀ s, s < n → σ.1 (d + 1) s = I (D 3 s)) ∧ (∀ c, c < 6 → σ.1 (d + 3) c = I (D 5 c))
/-- a day in the reference, places from o on -/
def MD (o n : Nat) (D : Vw) (σ : St) : Prop := (∀ q, q < 36 → σ.1 16 (o + q) = I (D 0 q)) ∧ σ.1 16 (o + 36) = I (D 4 5) ∧ σ.1 16 (o + 41) = I (D 4 6) ∧ σ.1 16 (o + 37) = I (D 4 1) ∧ σ.1 16 (o + 38) = I (D 4 3) ∧ σ.1 16 (o + 40) = I (D 4 4) ∧ σ.1 16 (o + 39) = I (D 4 0) ∧ σ.1 16 (o + 42) = I (D 4 2) ∧ (∀ i, i < D 4 2 → σ.1 16 (o + (56 + 3 * i)) = I (D 6 i) ∧ σ.1 16 (o + (56 + 3 * i + 1)) = I (D 7 i) ∧ σ.1 16 (o + (56 + 3 * i + 2)) = I (D 8 i)) ∧ (∀ s, s < n → σ.1 16 (o + (43 + s)) = I (D 3 s)) ∧ (∀ c, c < 6 → σ.1 16 (o + (50 + c)) = I (D 5 c))
/-- the ways up: R 0 0 of them; R 1 p: the city's place on p; R (2 + p) i: the stations -/
def wfR (T R : Vw) : Prop := R 0 0 ≤ 37 ∧ (∀ p, p < R 0 0 → R 1 p ≤ 6 ∧ (2 ≤ T 0 0 → 1 ≤ R 1 p) ∧ (∀ i, i ≤ R 1 p → R (2 + p) i < T 0 0) ∧ (∀ i, i < R 1 p → 0 < T 3 (7 * R (2 + p) i + R (2 + p) (i + 1))))
def XR (R : Vw) (σ : St) : Prop := σ.1 42 3 = I (R 0 0) ∧ (∀ p, p < R 0 0 → σ.1 44 p = I (R 1 p) ∧ (∀ i, i ≤ R 1 p → σ.1 43 (7 * p + i) = I (R (2 + p) i)))
def MR (R : Vw) (σ : St) : Prop := σ.1 0 27 = I (R 0 0) ∧ (∀ p, p < R 0 0 → σ.1 18 (8 * p) = I (R 1 p + 1) ∧ (∀ i, i ≤ R 1 p → σ.1 18 (8 * p + 1 + i) = I (R (2 + p) i)))
/-- the marks: Mk 0 j: laid -/
def dayOf (Mk : Vw) (j : Nat) : Vw := fun a b => Mk (10 + 10 * j + a) b
def wfK (n : Nat) (Mk : Vw) : Prop := ∀ j, j < 4 → Mk 0 j ≤ 1 ∧ (Mk 0 j = 1 → wfD n (dayOf Mk j))
def XK (n : Nat) (Mk : Vw) (σ : St) : Prop := ∀ j, j < 4 → σ.1 4 j = I (Mk 0 j) ∧ (Mk 0 j = 1 → XD (61 + 9 * j) n (dayOf Mk j) σ)
def MK (n : Nat) (Mk : Vw) (σ : St) : Prop := ∀ j, j < 4 → σ.1 17 j = I (Mk 0 j) ∧ (Mk 0 j = 1 → MD (240 * (1 + j)) n (dayOf Mk j) σ)
/-- what can be undone: U 0 0 of them; U 1 k: the place; U 2 k: what was there; U (3 + k): debts and patches then -/
def wfU (D U : Vw) : Prop := U 0 0 ≤ 20 ∧ (∀ q, q < 36 → U (3 + U 0 0) q = D 0 q) ∧ U (3 + U 0 0) 36 = D 4 5 ∧ (∀ k, k < U 0 0 → U 1 k < 42 ∧ U (3 + k) 36 < 64 ∧ (∀ q, q < 36 → U (3 + k) q = if q = U 1 k then U 2 k else U (3 + (k + 1)) q) ∧ (∀ c, c < 6 → U (3 + k) 36 / 2 ^ c % 2 = if 36 + c = U 1 k then U 2 k else U (3 + (k + 1)) 36 / 2 ^ c % 2))
def XU (U : Vw) (σ : St) : Prop := σ.1 0 11 = I (U 0 0) ∧ (∀ k, k < U 0 0 → σ.1 1 k = I (U 1 k) ∧ σ.1 2 k = I (U 2 k))
def MU (U : Vw) (σ : St) : Prop := σ.1 0 25 = I (U 0 0) ∧ (∀ k, k < U 0 0 → ∀ q, q ≤ 36 → σ.1 16 (240 * (5 + k) + q) = I (U (3 + k) q))
/-- the tape -/
def wfP (n : Nat) (tp : Nat → Nat) : Prop := n ≤ 1000 ∧ (∀ i, i < n → tp i = 10 ∨ (32 ≤ tp i ∧ tp i ≤ 126))
def XP (n : Nat) (tp : Nat → Nat) (σ : St) : Prop := σ.1 5 2 = I n ∧ (∀ i, i < n → σ.1 6 i = I (tp i))
def MP (n : Nat) (tp : Nat → Nat) (σ : St) : Prop := σ.1 0 2 = I n ∧ (∀ i, i < n → σ.1 1 i = I (tp i))
/-- the constants of the reference -/
def MC (σ : St) : Prop := σ.1 12 = sM0.1 12 ∧ σ.1 13 = sM0.1 13 ∧ σ.2.1 5 = sM0.2.1 5
/-! frames -/
theorem XMt_fr {T : Vw} {σ τ : St} (h : ∀ i, 23 ≤ i → i ≤ 31 → τ.1 i = σ.1 i) (hx : XMt T σ) : XMt T τ := by
  unfold XMt at *
  rw [h 23 (by omega) (by omega), h 24 (by omega) (by omega), h 25 (by omega) (by omega), h 26 (by omega) (by omega), h 27 (by omega) (by omega), h 28 (by omega) (by omega), h 29 (by omega) (by omega), h 30 (by omega) (by omega), h 31 (by omega) (by omega)]
  exact hx
theorem MT_fr {T : Vw} {σ τ : St} (h : τ.1 6 = σ.1 6) (hx : MT T σ) : MT T τ := by
  unfold MT at *
  rw [h]
  exact hx
theorem XD_fr {d n : Nat} {D : Vw} {σ τ : St} (h : ∀ i, d ≤ i → i ≤ d + 8 → τ.1 i = σ.1 i) (hj : τ.2.1 d = σ.2.1 d) (hx : XD d n D σ) : XD d n D τ := by
  unfold XD at *
  rw [h d (by omega) (by omega), h (d + 1) (by omega) (by omega), h (d + 2) (by omega) (by omega), h (d + 3) (by omega) (by omega), h (d + 4) (by omega) (by omega), h (d + 5) (by omega) (by omega), h (d + 6) (by omega) (by omega), h (d + 7) (by omega) (by omega), h (d + 8) (by omega) (by omega), hj]
  exact hx
theorem MD_fr {o n : Nat} {D : Vw} {σ τ : St} (hn : n ≤ 7) (hb : D 4 2 ≤ 60) (h : ∀ q, q < 240 → τ.1 16 (o + q) = σ.1 16 (o + q)) (hx : MD o n D σ) : MD o n D τ := by
  obtain ⟨a1, a2, a3, a4, a5, a6, a7, a8, a9, a10, a11⟩ := hx
  refine ⟨fun q hq => by rw [h q (by omega)]; exact a1 q hq, by rw [h 36 (by omega)]; exact a2, by rw [h 41 (by omega)]; exact a3, by rw [h 37 (by omega)]; exact a4, by rw [h 38 (by omega)]; exact a5, by rw [h 40 (by omega)]; exact a6, by rw [h 39 (by omega)]; exact a7, by rw [h 42 (by omega)]; exact a8, fun i hi => ?_, fun s hs => by rw [h _ (by omega)]; exact a10 s hs, fun c hc => by rw [h _ (by omega)]; exact a11 c hc⟩
  rw [h _ (by omega), h _ (by omega), h _ (by omega)]
  exact a9 i hi
theorem XR_fr {R : Vw} {σ τ : St} (h2 : τ.1 42 3 = σ.1 42 3) (h3 : τ.1 43 = σ.1 43) (h4 : τ.1 44 = σ.1 44) (hx : XR R σ) : XR R τ := by
  unfold XR at *
  rw [h2, h3, h4]
  exact hx
theorem MR_fr {R : Vw} {σ τ : St} (h2 : τ.1 0 27 = σ.1 0 27) (h3 : τ.1 18 = σ.1 18) (hx : MR R σ) : MR R τ := by
  unfold MR at *
  rw [h2, h3]
  exact hx
theorem XK_fr {n : Nat} {Mk : Vw} {σ τ : St} (h : ∀ i, (i = 4 ∨ (61 ≤ i ∧ i ≤ 96)) → τ.1 i = σ.1 i) (hj : ∀ i, 61 ≤ i → i ≤ 96 → τ.2.1 i = σ.2.1 i) (hx : XK n Mk σ) : XK n Mk τ := by
  intro j hj4
  obtain ⟨a, b⟩ := hx j hj4
  exact ⟨by rw [h 4 (Or.inl rfl)]; exact a, fun hl => XD_fr (fun i h1 h2 => h i (Or.inr ⟨by omega, by omega⟩)) (hj _ (by omega) (by omega)) (b hl)⟩
theorem MK_fr {n : Nat} {Mk : Vw} {σ τ : St} (hn : n ≤ 7) (hw : wfK n Mk) (h1 : τ.1 17 = σ.1 17) (h : ∀ q, 240 ≤ q → q < 1200 → τ.1 16 q = σ.1 16 q) (hx : MK n Mk σ) : MK n Mk τ := by
  intro j hj4
  obtain ⟨a, b⟩ := hx j hj4
  exact ⟨by rw [h1]; exact a, fun hl => MD_fr hn ((hw j hj4).2 hl).2.2.2.1 (fun q hq => h _ (by omega) (by omega)) (b hl)⟩
theorem XU_fr {U : Vw} {σ τ : St} (h1 : τ.1 0 11 = σ.1 0 11) (h2 : τ.1 1 = σ.1 1) (h3 : τ.1 2 = σ.1 2) (hx : XU U σ) : XU U τ := by
  unfold XU at *
  rw [h1, h2, h3]
  exact hx
theorem MU_fr {U : Vw} {σ τ : St} (h1 : τ.1 0 25 = σ.1 0 25) (hn : U 0 0 ≤ 20) (h : ∀ q, 1200 ≤ q → q < 6000 → τ.1 16 q = σ.1 16 q) (hx : MU U σ) : MU U τ :=
  ⟨by rw [h1]; exact hx.1, fun k hk q hq => by rw [h _ (by omega) (by omega)]; exact hx.2 k hk q hq⟩
theorem XP_fr {n : Nat} {tp : Nat → Nat} {σ τ : St} (h1 : τ.1 5 2 = σ.1 5 2) (h2 : τ.1 6 = σ.1 6) (hx : XP n tp σ) : XP n tp τ := by
  unfold XP at *
  rw [h1, h2]
  exact hx
theorem MP_fr {n : Nat} {tp : Nat → Nat} {σ τ : St} (h1 : τ.1 0 2 = σ.1 0 2) (h2 : τ.1 1 = σ.1 1) (hx : MP n tp σ) : MP n tp τ := by
  unfold MP at *
  rw [h1, h2]
  exact hx
theorem MC_fr {σ τ : St} (h1 : τ.1 12 = σ.1 12) (h2 : τ.1 13 = σ.1 13) (h3 : τ.2.1 5 = σ.2.1 5) (hx : MC σ) : MC τ := by
  unfold MC at *
  rw [h1, h2, h3]
  exact hx
