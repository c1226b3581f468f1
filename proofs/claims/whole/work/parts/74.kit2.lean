/-! more rules -/
theorem wpE_nm {α β : Type} {x : α} {f : α → Option β} {Q : β → Prop} : wp (nm x f) Q ↔ wp (f x) Q := Iff.rfl
theorem wpE_chk {β : Type} {b : Bool} {k : Option β} {Q : β → Prop} : wp (chk b k) Q ↔ (b = true ∧ wp k Q) := by
  constructor
  · rintro ⟨r, h, hq⟩
    exact ⟨(chk_some h).1, r, (chk_some h).2, hq⟩
  · rintro ⟨h, hk⟩
    exact wp_chk h hk
theorem wpE_some {β : Type} {r : β} {Q : β → Prop} : wp (some r) Q ↔ Q r := by
  constructor
  · rintro ⟨r', h, hq⟩
    cases h
    exact hq
  · exact wp_some
theorem gI_same (σ : St) (i j : Nat) (v : Int32) : (setI σ i j v).1 i j = v := by rw [setI_same]; simp [upd]
theorem gI_ne1 (σ : St) {i i' : Nat} (j : Nat) (v : Int32) (h : i' ≠ i) : (setI σ i j v).1 i' = σ.1 i' := setR_ne σ _ h
theorem gI_ne2 (σ : St) (i : Nat) {j j' : Nat} (v : Int32) (h : j' ≠ j) : (setI σ i j v).1 i j' = σ.1 i j' := by rw [setI_same]; simp [upd, h]
theorem gI_2 (σ : St) (i j : Nat) (v : Int32) : (setI σ i j v).2 = σ.2 := rfl
theorem gJ_1 (σ : St) (i j : Nat) (v : Int64) : (setJ σ i j v).1 = σ.1 := rfl
theorem gJ_same (σ : St) (i j : Nat) (v : Int64) : (setJ σ i j v).2.1 i j = v := by rw [setJ_same]; simp [vp_updL]
theorem gJ_ne1 (σ : St) {i i' : Nat} (j : Nat) (v : Int64) (h : i' ≠ i) : (setJ σ i j v).2.1 i' = σ.2.1 i' := setL_ne σ _ h
theorem gJ_ne2 (σ : St) (i : Nat) {j j' : Nat} (v : Int64) (h : j' ≠ j) : (setJ σ i j v).2.1 i j' = σ.2.1 i j' := by rw [setJ_same]; simp [vp_updL, h]
theorem gJ_22 (σ : St) (i j : Nat) (v : Int64) : (setJ σ i j v).2.2 = σ.2.2 := rfl
/-- all as it was but in the cells L, and in the fields F of the cell o -/
def frO (L : List Nat) (o : Nat) (F : List Nat) (σ τ : St) : Prop := (∀ i, i ∉ L → i ≠ o → τ.1 i = σ.1 i) ∧ (∀ j, j ∉ F → τ.1 o j = σ.1 o j) ∧ τ.2 = σ.2
theorem frO_refl {L : List Nat} {o : Nat} {F : List Nat} {σ : St} : frO L o F σ σ := ⟨fun _ _ _ => rfl, fun _ _ => rfl, rfl⟩
theorem frO_tr {L : List Nat} {o : Nat} {F : List Nat} {σ τ υ : St} (h1 : frO L o F σ τ) (h2 : frO L o F τ υ) : frO L o F σ υ :=
  ⟨fun i h h' => (h2.1 i h h').trans (h1.1 i h h'), fun j h => (h2.2.1 j h).trans (h1.2.1 j h), h2.2.2.trans h1.2.2⟩
theorem frO_c {L : List Nat} {o : Nat} {F : List Nat} {σ τ : St} (h1 : frO L o F σ τ) {i j : Nat} (v : Int32) (hi : i ∈ L) (ho : o ≠ i) : frO L o F σ (setI τ i j v) :=
  frO_tr h1 ⟨fun k hk _ => gI_ne1 τ j v (fun e => hk (e ▸ hi)), fun k _ => by rw [gI_ne1 τ j v ho], rfl⟩
theorem frO_f {L : List Nat} {o : Nat} {F : List Nat} {σ τ : St} (h1 : frO L o F σ τ) {j : Nat} (v : Int32) (hj : j ∈ F) : frO L o F σ (setI τ o j v) :=
  frO_tr h1 ⟨fun k _ ho => gI_ne1 τ j v ho, fun k hk => gI_ne2 τ o v (fun e => hk (e ▸ hj)), rfl⟩
theorem frO_mono {L L' : List Nat} {o : Nat} {F F' : List Nat} {σ τ : St} (hL : ∀ i, i ∈ L → i ∈ L') (hF : ∀ i, i ∈ F → i ∈ F') (h : frO L o F σ τ) : frO L' o F' σ τ :=
  ⟨fun i h1 h2 => h.1 i (fun h3 => h1 (hL i h3)) h2, fun j h1 => h.2.1 j (fun h3 => h1 (hF j h3)), h.2.2⟩
theorem frO_R {L : List Nat} {o : Nat} {F : List Nat} {σ τ : St} (h1 : frO L o F σ τ) {i : Nat} (f : Nat → Int32) (hi : i ∈ L) (ho : o ≠ i) : frO L o F σ (setR τ i f) :=
  frO_tr h1 ⟨fun k hk _ => setR_ne τ f (fun e => hk (e ▸ hi)), fun k _ => by rw [setR_ne τ f ho], rfl⟩
/-- for simp: not by unfolding -/
theorem nmS {α β : Type} (x : α) (f : α → Option β) : nm x f = f x := of_eq_true (eq_self (f x))
theorem chkS {β : Type} (k : Option β) : chk true k = k := of_eq_true (eq_self k)
theorem bnd2S {α γ β : Type} (a : α) (c : γ) (f : α → γ → Option β) : bnd2 (some (a, c)) f = f a c := of_eq_true (eq_self (f a c))
theorem bnd1S {α β : Type} (a : α) (f : α → Option β) : bnd1 (some a) f = f a := of_eq_true (eq_self (f a))
/-! small numbers -/
theorem litN (n : Nat) : (@OfNat.ofNat Int32 n Int32.instOfNat) = I (@OfNat.ofNat Nat n (instOfNatNat n)) := by
  apply Int32.toBitVec_inj.mp
  rfl
theorem oi1 : Int32.ofInt 1 = I 1 := by decide
theorem I_sub {a b : Nat} (h : b ≤ a) : I a - I b = I (a - b) := by
  have e : I a = I (a - b) + I b := by rw [I_add]; congr 1; omega
  rw [e]
  exact Int32.add_sub_cancel _ _
theorem I_pred {a : Nat} (h : 1 ≤ a) : I a + Int32.ofInt (-1) = I (a - 1) := by
  rw [← I_sub h, Int32.sub_eq_add_neg]
  exact congrArg (I a + ·) (by decide)
theorem I_div {a b : Nat} (ha : a < 2147483648) (hb : b < 2147483648) : I a / I b = I (a / b) := by
  apply Int32.toInt_inj.mp
  have h1 : a / b ≤ a := Nat.div_le_self a b
  have e : ((a / b : Nat) : Int) = (a : Int).tdiv (b : Int) := Int.ofNat_tdiv a b
  rw [Int32.toInt_div, I_toInt ha, I_toInt hb, I_toInt (by omega), ← e]
  clear e
  generalize a / b = q at *
  apply Int.bmod_eq_of_le
  · omega
  · omega
theorem I_min {a b : Nat} (ha : a < 2147483648) (hb : b < 2147483648) : (if I a < I b then I a else I b) = I (min a b) := by
  by_cases h : a < b
  · rw [if_pos ((I_lt ha hb).mpr h), Nat.min_eq_left (by omega)]
  · rw [if_neg (fun h9 => h ((I_lt ha hb).mp h9)), Nat.min_eq_right (by omega)]
theorem I0 : (0 : Int32) = I 0 := by decide
theorem I1 : (1 : Int32) = I 1 := by decide
theorem I_surj (v : Int32) : ∃ n : Nat, v = I n ∧ n < 4294967296 := by
  refine ⟨v.toBitVec.toNat, ?_, v.toBitVec.isLt⟩
  apply Int32.toBitVec_inj.mp
  simp [I]
