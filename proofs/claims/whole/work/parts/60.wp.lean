/-! the pure part: rules for raw functions, and numbers -/
def wp {β : Type} (o : Option β) (Q : β → Prop) : Prop := ∃ r, o = some r ∧ Q r
theorem wp_some {β : Type} {r : β} {Q : β → Prop} (h : Q r) : wp (some r) Q := ⟨r, rfl, h⟩
theorem wp_mono {β : Type} {o : Option β} {Q Q' : β → Prop} (h : wp o Q) (hq : ∀ r, Q r → Q' r) : wp o Q' := by
  obtain ⟨r, h1, h2⟩ := h
  exact ⟨r, h1, hq r h2⟩
theorem wp_eq {β : Type} {o : Option β} {r : β} {Q : β → Prop} (h : o = some r) (hq : Q r) : wp o Q := ⟨r, h, hq⟩
theorem wp_nm {α β : Type} {x : α} {f : α → Option β} {Q : β → Prop} (h : wp (f x) Q) : wp (nm x f) Q := h
theorem wp_chk {β : Type} {b : Bool} {k : Option β} {Q : β → Prop} (hb : b = true) (h : wp k Q) : wp (chk b k) Q := by
  subst hb; exact h
theorem wp_brc {β : Type} {p : Prop} [Decidable p] {a b : Option β} {Q : β → Prop} (h1 : p → wp a Q) (h2 : ¬ p → wp b Q) : wp (brc p a b) Q := by
  unfold brc
  by_cases hp : p
  · rw [if_pos hp]; exact h1 hp
  · rw [if_neg hp]; exact h2 hp
theorem wp_brT {β : Type} {p : Prop} [Decidable p] {a b : Option β} {Q : β → Prop} (hp : p) (h : wp a Q) : wp (brc p a b) Q := by
  unfold brc; rw [if_pos hp]; exact h
theorem wp_brF {β : Type} {p : Prop} [Decidable p] {a b : Option β} {Q : β → Prop} (hp : ¬ p) (h : wp b Q) : wp (brc p a b) Q := by
  unfold brc; rw [if_neg hp]; exact h
theorem wp_bnd1 {α β : Type} {x : Option α} {f : α → Option β} {Q : β → Prop} (h : wp x (fun a => wp (f a) Q)) : wp (bnd1 x f) Q := by
  obtain ⟨a, rfl, h2⟩ := h
  exact h2
theorem wp_bnd2 {α γ β : Type} {x : Option (α × γ)} {f : α → γ → Option β} {Q : β → Prop} (h : wp x (fun a => wp (f a.1 a.2) Q)) : wp (bnd2 x f) Q := by
  obtain ⟨a, rfl, h2⟩ := h
  exact h2
/-- a loop: P n a: at most n more rounds from a -/
theorem wp_lp {α β : Type} {F : (α → Option β) → α → Option β} {Q : β → Prop} (P : Nat → α → Prop) (hF : ∀ (n : Nat) (a : α) (k : α → Option β), P n a → (∀ m b, m < n → P m b → wp (k b) Q) → wp (F k a) Q) : ∀ (f n : Nat) (a : α), n < f → P n a → wp (lp F f a) Q := by
  intro f
  induction f with
  | zero => intro n a h; exact absurd h (Nat.not_lt_zero _)
  | succ f ih =>
    intro n a hn hP
    exact hF n a (lp F f) hP (fun m b hm hb => ih m b (by omega) hb)
/-- small numbers -/
abbrev I (n : Nat) : Int32 := Int32.ofNat n
theorem I_toInt {n : Nat} (h : n < 2147483648) : (I n).toInt = n := i32_toInt h
theorem I_cl {n : Nat} (h : n < 2147483648) : (I n).toNatClampNeg = n := i32_clamp h
theorem I_add (a b : Nat) : I a + I b = I (a + b) := (Int32.ofNat_add _ _).symm
theorem I_mul (a b : Nat) : I a * I b = I (a * b) := (Int32.ofNat_mul _ _).symm
theorem I_le {a b : Nat} (ha : a < 2147483648) (hb : b < 2147483648) : I a ≤ I b ↔ a ≤ b := by
  rw [Int32.le_iff_toInt_le, I_toInt ha, I_toInt hb]; omega
theorem I_lt {a b : Nat} (ha : a < 2147483648) (hb : b < 2147483648) : I a < I b ↔ a < b := by
  rw [Int32.lt_iff_toInt_lt, I_toInt ha, I_toInt hb]; omega
theorem I_inj {a b : Nat} (ha : a < 2147483648) (hb : b < 2147483648) : I a = I b ↔ a = b := by
  constructor
  · intro h
    have := congrArg Int32.toInt h
    rw [I_toInt ha, I_toInt hb] at this
    omega
  · intro h; rw [h]
theorem ib_I {n N : Nat} (h : n < N) (hN : N < 2147483648) : ib (I n) N = true := by
  unfold ib
  rw [I_toInt (by omega)]
  exact decide_eq_true ⟨by omega, by omega⟩
/-- any int in a range is a small number -/
theorem I_of {v : Int32} (h : 0 ≤ v) : ∃ n : Nat, v = I n ∧ n < 2147483648 := by
  have h1 : 0 ≤ v.toInt := Int32.le_iff_toInt_le.mp h
  have h2 : v.toInt < 2147483648 := by have := v.toInt_lt; simpa using this
  refine ⟨v.toInt.toNat, ?_, by omega⟩
  apply Int32.toInt_inj.mp
  rw [I_toInt (by omega)]
  omega
theorem chk_t {β : Type} {b : Bool} {k : Option β} (h : b = true) : chk b k = k := by subst h; rfl
theorem brc_t {β : Type} {p : Prop} [Decidable p] {a b : Option β} (h : p) : brc p a b = a := if_pos h
theorem brc_f {β : Type} {p : Prop} [Decidable p] {a b : Option β} (h : ¬ p) : brc p a b = b := if_neg h
/-- a loop of N rounds whose states are known -/
theorem lp_for {α β : Type} {F : (α → Option β) → α → Option β} (g : Nat → α) : ∀ (N : Nat), (∀ j, j < N → ∀ k : α → Option β, F k (g j) = k (g (j + 1))) → ∀ f, lp F (f + N) (g 0) = lp F f (g N) := by
  intro N
  induction N with
  | zero => intro _ f; rfl
  | succ N ih =>
    intro h f
    have e : f + (N + 1) = (f + 1) + N := by omega
    rw [e, ih (fun j hj k => h j (by omega) k) (f + 1)]
    exact h N (by omega) _
