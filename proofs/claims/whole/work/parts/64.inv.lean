/-! the two abstract states side by side -/
/-- a small number of either side, below a bound -/
def smI (v : Int32) (n : Nat) : Prop := ∃ k : Nat, v = I k ∧ k ≤ n
/-- the mountain that was told -/
def RT (σx σm : St) : Prop := ∃ nS nC : Nat, nS ≤ 7 ∧ nC ≤ 6 ∧ σx.1 23 0 = I nS ∧ σm.1 6 0 = I nS ∧ σx.1 23 2 = I nC ∧ σm.1 6 2 = I nC ∧ σx.1 23 1 = σm.1 6 1 ∧
  (σx.1 23 14 = σm.1 6 3 ∧ smI (σm.1 6 3) 99) ∧ (σx.1 23 15 = σm.1 6 4 ∧ smI (σm.1 6 4) 200) ∧ (σx.1 23 16 = σm.1 6 5 ∧ smI (σm.1 6 5) 999) ∧
  (∀ s, s < nS → (σx.1 24 s = σm.1 6 (8 + 2 * s) ∧ smI (σx.1 24 s) 99) ∧ (σx.1 25 s = σm.1 6 (8 + 2 * s + 1) ∧ smI (σx.1 25 s) 9)) ∧
  (∀ q, q < 49 → σx.1 26 q = σm.1 6 (22 + 2 * q) ∧ smI (σx.1 26 q) 99 ∧ (0 < σx.1 26 q → σx.1 27 q = σm.1 6 (22 + 2 * q + 1) ∧ smI (σx.1 27 q) 9)) ∧
  (∀ c, c < nC → (σx.1 28 c = σm.1 6 (120 + 4 * c) ∧ smI (σx.1 28 c) 5) ∧ (σx.1 29 c = σm.1 6 (120 + 4 * c + 1) ∧ smI (σx.1 29 c) 60) ∧ (σx.1 30 c = σm.1 6 (120 + 4 * c + 2) ∧ smI (σx.1 30 c) 20) ∧ (σx.1 31 c = σm.1 6 (120 + 4 * c + 3) ∧ smI (σx.1 31 c) 9))
/-- a day (cells from d on) against a state (places from o on) -/
def RD (nS : Nat) (d o : Nat) (σx σm : St) : Prop :=
  (∀ q, q < 36 → σx.1 (d + 5) q = σm.1 16 (o + q) ∧ smI (σx.1 (d + 5) q) 99) ∧
  (∀ c, c < 6 → (σx.1 (d + 4) c = 0 ∨ σx.1 (d + 4) c = 1) ∧ ((σm.1 16 (o + 36) >>> (I c &&& 31)) &&& 1 = σx.1 (d + 4) c)) ∧
  (∀ c, c < 6 → (σx.1 (d + 2) c = 0 ∨ σx.1 (d + 2) c = 1) ∧ ((σm.1 16 (o + 41) >>> (I c &&& 31)) &&& 1 = σx.1 (d + 2) c)) ∧
  σx.2.1 d 3 = (σm.1 16 (o + 37)).toInt64 ∧ 0 ≤ σm.1 16 (o + 37) ∧ σx.1 d 0 = σm.1 16 (o + 38) ∧ σx.1 d 2 = σm.1 16 (o + 39) ∧ σx.1 d 1 = σm.1 16 (o + 40) ∧
  (∃ nB : Nat, nB ≤ 60 ∧ σx.1 d 4 = I nB ∧ σm.1 16 (o + 42) = I nB ∧ ∀ i, i < nB → σx.1 (d + 6) i = σm.1 16 (o + 56 + 3 * i) ∧ σx.1 (d + 7) i = σm.1 16 (o + 56 + 3 * i + 1) ∧ σx.1 (d + 8) i = σm.1 16 (o + 56 + 3 * i + 2)) ∧
  (∀ s, s < nS → σx.1 (d + 1) s = σm.1 16 (o + 43 + s) ∧ smI (σx.1 (d + 1) s) 9) ∧ (∀ c, c < 6 → σx.1 (d + 3) c = σm.1 16 (o + 50 + c))
