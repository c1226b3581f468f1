/-! raw functions: what the bytecode does to an abstract state; none where it would leave its bounds -/
def chk {α : Type} (b : Bool) (k : Option α) : Option α := match b with
  | true => k
  | false => none
def brc {α : Type} (p : Prop) [Decidable p] (a b : Option α) : Option α := if p then a else b
def nm {α β : Type} (x : α) (f : α → Option β) : Option β := f x
def bnd1 {α β : Type} (x : Option α) (f : α → Option β) : Option β := match x with
  | none => none
  | some a => f a
def bnd2 {α γ β : Type} (x : Option (α × γ)) (f : α → γ → Option β) : Option β := match x with
  | none => none
  | some a => f a.1 a.2
def lp {α β : Type} (F : (α → Option β) → α → Option β) : Nat → α → Option β
  | 0, _ => none
  | n + 1, a => F (lp F n) a
def fu : Nat := 4096
def ib (i : Int32) (n : Nat) : Bool := decide (0 ≤ i.toInt ∧ i.toInt < (n : Int))
theorem chk_some {α : Type} {b : Bool} {k : Option α} {r : α} (h : chk b k = some r) : b = true ∧ k = some r := by
  cases b with
  | true => exact ⟨rfl, h⟩
  | false => cases h
theorem brc_some {α : Type} {p : Prop} [Decidable p] {a b : Option α} {r : α} (h : brc p a b = some r) : (p ∧ a = some r) ∨ (¬ p ∧ b = some r) := by
  by_cases hp : p
  · exact Or.inl ⟨hp, by rw [brc, if_pos hp] at h; exact h⟩
  · exact Or.inr ⟨hp, by rw [brc, if_neg hp] at h; exact h⟩
theorem bnd1_some {α β : Type} {x : Option α} {f : α → Option β} {r : β} (h : bnd1 x f = some r) : ∃ a, x = some a ∧ f a = some r := by
  cases x with
  | none => cases h
  | some a => exact ⟨a, rfl, h⟩
theorem bnd2_some {α γ β : Type} {x : Option (α × γ)} {f : α → γ → Option β} {r : β} (h : bnd2 x f = some r) : ∃ a c, x = some (a, c) ∧ f a c = some r := by
  cases x with
  | none => cases h
  | some a => exact ⟨a.1, a.2, rfl, h⟩
theorem lp_ind {α β : Type} {F : (α → Option β) → α → Option β} {res : β} {P : α → Prop} (hF : ∀ (k : α → Option β) (a : α), (∀ a', k a' = some res → P a') → F k a = some res → P a) : ∀ (n : Nat) (a : α), lp F n a = some res → P a
  | 0, _, h => by cases h
  | n + 1, a, h => hF (lp F n) a (fun a' h' => lp_ind hF n a' h') h
theorem lp_ind2 {α β : Type} {F : (α → Option β) → α → Option β} {P : Nat → α → β → Prop} (hF : ∀ (n : Nat) (a : α) (r : β), (∀ a' r', lp F n a' = some r' → P n a' r') → F (lp F n) a = some r → P (n + 1) a r) : ∀ (n : Nat) (a : α) (r : β), lp F n a = some r → P n a r
  | 0, _, _, h => by cases h
  | n + 1, a, r, h => hF n a r (fun a' r' h' => lp_ind2 hF n a' r' h') h
theorem ib_in {i : Int32} {n : Nat} (h : ib i n = true) : vp_in i n := by
  simp only [ib, decide_eq_true_eq] at h
  exact vp_in_iff.mpr h
section KR
variable {X : CX} {cc : ByteArray} {nL : Nat} {own : String} {ret : Option FieldType} {pc : Nat} {lv : List (Nat × Value)} {rest st0 : List Value} {σ : St} {α : Type} {res : α}
theorem K_if_eq {x : Int32} {off : Int} {tgt : Nat} {a b : Option α} (hX : gd X cc nL own ret) (hd : decode cc pc = .ok (.ifCond .eq off, 3)) (ht : (pc : Int) + off = (tgt : Int)) (h : brc (x = 0) a b = some res) (kt : a = some res → Jd X nL tgt lv rest σ) (kf : b = some res → Jd X nL (pc + 3) lv rest σ) : Jd X nL pc lv (.int x :: rest) σ := by
  rcases brc_some h with ⟨hc, h⟩ | ⟨hc, h⟩
  · exact J_if_eq hX hd ht (fun _ => kt h) (fun h9 => absurd hc h9)
  · exact J_if_eq hX hd ht (fun h9 => absurd h9 hc) (fun _ => kf h)
theorem K_icmp_eq {x y : Int32} {off : Int} {tgt : Nat} {a b : Option α} (hX : gd X cc nL own ret) (hd : decode cc pc = .ok (.if_icmp .eq off, 3)) (ht : (pc : Int) + off = (tgt : Int)) (h : brc (x = y) a b = some res) (kt : a = some res → Jd X nL tgt lv rest σ) (kf : b = some res → Jd X nL (pc + 3) lv rest σ) : Jd X nL pc lv (.int y :: .int x :: rest) σ := by
  rcases brc_some h with ⟨hc, h⟩ | ⟨hc, h⟩
  · exact J_icmp_eq hX hd ht (fun _ => kt h) (fun h9 => absurd hc h9)
  · exact J_icmp_eq hX hd ht (fun h9 => absurd h9 hc) (fun _ => kf h)
theorem K_if_ne {x : Int32} {off : Int} {tgt : Nat} {a b : Option α} (hX : gd X cc nL own ret) (hd : decode cc pc = .ok (.ifCond .ne off, 3)) (ht : (pc : Int) + off = (tgt : Int)) (h : brc (¬ x = 0) a b = some res) (kt : a = some res → Jd X nL tgt lv rest σ) (kf : b = some res → Jd X nL (pc + 3) lv rest σ) : Jd X nL pc lv (.int x :: rest) σ := by
  rcases brc_some h with ⟨hc, h⟩ | ⟨hc, h⟩
  · exact J_if_ne hX hd ht (fun _ => kt h) (fun h9 => absurd h9 hc)
  · exact J_if_ne hX hd ht (fun h9 => absurd h9 hc) (fun _ => kf h)
theorem K_icmp_ne {x y : Int32} {off : Int} {tgt : Nat} {a b : Option α} (hX : gd X cc nL own ret) (hd : decode cc pc = .ok (.if_icmp .ne off, 3)) (ht : (pc : Int) + off = (tgt : Int)) (h : brc (¬ x = y) a b = some res) (kt : a = some res → Jd X nL tgt lv rest σ) (kf : b = some res → Jd X nL (pc + 3) lv rest σ) : Jd X nL pc lv (.int y :: .int x :: rest) σ := by
  rcases brc_some h with ⟨hc, h⟩ | ⟨hc, h⟩
  · exact J_icmp_ne hX hd ht (fun _ => kt h) (fun h9 => absurd h9 hc)
  · exact J_icmp_ne hX hd ht (fun h9 => absurd h9 hc) (fun _ => kf h)
theorem K_if_lt {x : Int32} {off : Int} {tgt : Nat} {a b : Option α} (hX : gd X cc nL own ret) (hd : decode cc pc = .ok (.ifCond .lt off, 3)) (ht : (pc : Int) + off = (tgt : Int)) (h : brc (x < 0) a b = some res) (kt : a = some res → Jd X nL tgt lv rest σ) (kf : b = some res → Jd X nL (pc + 3) lv rest σ) : Jd X nL pc lv (.int x :: rest) σ := by
  rcases brc_some h with ⟨hc, h⟩ | ⟨hc, h⟩
  · exact J_if_lt hX hd ht (fun _ => kt h) (fun h9 => absurd hc h9)
  · exact J_if_lt hX hd ht (fun h9 => absurd h9 hc) (fun _ => kf h)
theorem K_icmp_lt {x y : Int32} {off : Int} {tgt : Nat} {a b : Option α} (hX : gd X cc nL own ret) (hd : decode cc pc = .ok (.if_icmp .lt off, 3)) (ht : (pc : Int) + off = (tgt : Int)) (h : brc (x < y) a b = some res) (kt : a = some res → Jd X nL tgt lv rest σ) (kf : b = some res → Jd X nL (pc + 3) lv rest σ) : Jd X nL pc lv (.int y :: .int x :: rest) σ := by
  rcases brc_some h with ⟨hc, h⟩ | ⟨hc, h⟩
  · exact J_icmp_lt hX hd ht (fun _ => kt h) (fun h9 => absurd hc h9)
  · exact J_icmp_lt hX hd ht (fun h9 => absurd h9 hc) (fun _ => kf h)
theorem K_if_ge {x : Int32} {off : Int} {tgt : Nat} {a b : Option α} (hX : gd X cc nL own ret) (hd : decode cc pc = .ok (.ifCond .ge off, 3)) (ht : (pc : Int) + off = (tgt : Int)) (h : brc (0 ≤ x) a b = some res) (kt : a = some res → Jd X nL tgt lv rest σ) (kf : b = some res → Jd X nL (pc + 3) lv rest σ) : Jd X nL pc lv (.int x :: rest) σ := by
  rcases brc_some h with ⟨hc, h⟩ | ⟨hc, h⟩
  · exact J_if_ge hX hd ht (fun _ => kt h) (fun h9 => absurd hc h9)
  · exact J_if_ge hX hd ht (fun h9 => absurd h9 hc) (fun _ => kf h)
theorem K_icmp_ge {x y : Int32} {off : Int} {tgt : Nat} {a b : Option α} (hX : gd X cc nL own ret) (hd : decode cc pc = .ok (.if_icmp .ge off, 3)) (ht : (pc : Int) + off = (tgt : Int)) (h : brc (y ≤ x) a b = some res) (kt : a = some res → Jd X nL tgt lv rest σ) (kf : b = some res → Jd X nL (pc + 3) lv rest σ) : Jd X nL pc lv (.int y :: .int x :: rest) σ := by
  rcases brc_some h with ⟨hc, h⟩ | ⟨hc, h⟩
  · exact J_icmp_ge hX hd ht (fun _ => kt h) (fun h9 => absurd hc h9)
  · exact J_icmp_ge hX hd ht (fun h9 => absurd h9 hc) (fun _ => kf h)
theorem K_if_gt {x : Int32} {off : Int} {tgt : Nat} {a b : Option α} (hX : gd X cc nL own ret) (hd : decode cc pc = .ok (.ifCond .gt off, 3)) (ht : (pc : Int) + off = (tgt : Int)) (h : brc (0 < x) a b = some res) (kt : a = some res → Jd X nL tgt lv rest σ) (kf : b = some res → Jd X nL (pc + 3) lv rest σ) : Jd X nL pc lv (.int x :: rest) σ := by
  rcases brc_some h with ⟨hc, h⟩ | ⟨hc, h⟩
  · exact J_if_gt hX hd ht (fun _ => kt h) (fun h9 => absurd hc h9)
  · exact J_if_gt hX hd ht (fun h9 => absurd h9 hc) (fun _ => kf h)
theorem K_icmp_gt {x y : Int32} {off : Int} {tgt : Nat} {a b : Option α} (hX : gd X cc nL own ret) (hd : decode cc pc = .ok (.if_icmp .gt off, 3)) (ht : (pc : Int) + off = (tgt : Int)) (h : brc (y < x) a b = some res) (kt : a = some res → Jd X nL tgt lv rest σ) (kf : b = some res → Jd X nL (pc + 3) lv rest σ) : Jd X nL pc lv (.int y :: .int x :: rest) σ := by
  rcases brc_some h with ⟨hc, h⟩ | ⟨hc, h⟩
  · exact J_icmp_gt hX hd ht (fun _ => kt h) (fun h9 => absurd hc h9)
  · exact J_icmp_gt hX hd ht (fun h9 => absurd h9 hc) (fun _ => kf h)
theorem K_if_le {x : Int32} {off : Int} {tgt : Nat} {a b : Option α} (hX : gd X cc nL own ret) (hd : decode cc pc = .ok (.ifCond .le off, 3)) (ht : (pc : Int) + off = (tgt : Int)) (h : brc (x ≤ 0) a b = some res) (kt : a = some res → Jd X nL tgt lv rest σ) (kf : b = some res → Jd X nL (pc + 3) lv rest σ) : Jd X nL pc lv (.int x :: rest) σ := by
  rcases brc_some h with ⟨hc, h⟩ | ⟨hc, h⟩
  · exact J_if_le hX hd ht (fun _ => kt h) (fun h9 => absurd hc h9)
  · exact J_if_le hX hd ht (fun h9 => absurd h9 hc) (fun _ => kf h)
theorem K_icmp_le {x y : Int32} {off : Int} {tgt : Nat} {a b : Option α} (hX : gd X cc nL own ret) (hd : decode cc pc = .ok (.if_icmp .le off, 3)) (ht : (pc : Int) + off = (tgt : Int)) (h : brc (x ≤ y) a b = some res) (kt : a = some res → Jd X nL tgt lv rest σ) (kf : b = some res → Jd X nL (pc + 3) lv rest σ) : Jd X nL pc lv (.int y :: .int x :: rest) σ := by
  rcases brc_some h with ⟨hc, h⟩ | ⟨hc, h⟩
  · exact J_icmp_le hX hd ht (fun _ => kt h) (fun h9 => absurd hc h9)
  · exact J_icmp_le hX hd ht (fun h9 => absurd h9 hc) (fun _ => kf h)
theorem K_iald {i n : Nat} {j : Int32} {a : Option α} (hX : gd X cc nL own ret) (hq : isC (xw X) i (.inl (0, n))) (hd : decode cc pc = .ok (.iaload, 1)) (h : chk (ib j n) a = some res) (kk : a = some res → Jd X nL (pc + 1) lv (.int (σ.1 i j.toNatClampNeg) :: rest) σ) : Jd X nL pc lv (.int j :: .ref (wad (xw X) i) :: rest) σ :=
  J_iald hX hq (ib_in (chk_some h).1) hd (kk (chk_some h).2)
theorem K_bald {i n : Nat} {j : Int32} {a : Option α} (hX : gd X cc nL own ret) (hq : isC (xw X) i (.inl (2, n))) (hd : decode cc pc = .ok (.baload, 1)) (h : chk (ib j n) a = some res) (kk : a = some res → Jd X nL (pc + 1) lv (.int (σ.1 i j.toNatClampNeg) :: rest) σ) : Jd X nL pc lv (.int j :: .ref (wad (xw X) i) :: rest) σ :=
  J_bald hX hq (ib_in (chk_some h).1) hd (kk (chk_some h).2)
theorem K_zald {i n : Nat} {j : Int32} {a : Option α} (hX : gd X cc nL own ret) (hq : isC (xw X) i (.inl (3, n))) (hd : decode cc pc = .ok (.baload, 1)) (h : chk (ib j n) a = some res) (kk : a = some res → Jd X nL (pc + 1) lv (.int (σ.1 i j.toNatClampNeg) :: rest) σ) : Jd X nL pc lv (.int j :: .ref (wad (xw X) i) :: rest) σ :=
  J_zald hX hq (ib_in (chk_some h).1) hd (kk (chk_some h).2)
theorem K_lald {i n : Nat} {j : Int32} {a : Option α} (hX : gd X cc nL own ret) (hq : isC (xw X) i (.inl (1, n))) (hd : decode cc pc = .ok (.laload, 1)) (h : chk (ib j n) a = some res) (kk : a = some res → Jd X nL (pc + 1) lv (.long (σ.2.1 i j.toNatClampNeg) :: rest) σ) : Jd X nL pc lv (.int j :: .ref (wad (xw X) i) :: rest) σ :=
  J_lald hX hq (ib_in (chk_some h).1) hd (kk (chk_some h).2)
theorem K_aald {i n : Nat} {j : Int32} {a : Option α} (hX : gd X cc nL own ret) (hq : isC (xw X) i (.inl (4, n))) (hd : decode cc pc = .ok (.aaload, 1)) (h : chk (ib j n) a = some res) (kk : a = some res → Jd X nL (pc + 1) lv (.ref (wad (xw X) ((xw X).1.2.2 j.toNatClampNeg)) :: rest) σ) : Jd X nL pc lv (.int j :: .ref (wad (xw X) i) :: rest) σ :=
  J_aald hX hq (ib_in (chk_some h).1) hd (kk (chk_some h).2)
theorem K_iast {i n : Nat} {j : Int32} {x : Int32} {f : St → Option α} (hX : gd X cc nL own ret) (hq : isC (xw X) i (.inl (0, n))) (hd : decode cc pc = .ok (.iastore, 1)) (h : chk (ib j n) (nm (setI σ i j.toNatClampNeg x) f) = some res) (kk : ∀ τ : St, f τ = some res → Jd X nL (pc + 1) lv rest τ) : Jd X nL pc lv (.int x :: .int j :: .ref (wad (xw X) i) :: rest) σ :=
  J_iast hX hq (ib_in (chk_some h).1) hd (kk _ (chk_some h).2)
theorem K_bast {i n : Nat} {j : Int32} {x : Int32} {f : St → Option α} (hX : gd X cc nL own ret) (hq : isC (xw X) i (.inl (2, n))) (hd : decode cc pc = .ok (.bastore, 1)) (h : chk (ib j n) (nm (setI σ i j.toNatClampNeg (vp_nar .byte x)) f) = some res) (kk : ∀ τ : St, f τ = some res → Jd X nL (pc + 1) lv rest τ) : Jd X nL pc lv (.int x :: .int j :: .ref (wad (xw X) i) :: rest) σ :=
  J_bast hX hq (ib_in (chk_some h).1) hd (kk _ (chk_some h).2)
theorem K_zast {i n : Nat} {j : Int32} {x : Int32} {f : St → Option α} (hX : gd X cc nL own ret) (hq : isC (xw X) i (.inl (3, n))) (hd : decode cc pc = .ok (.bastore, 1)) (h : chk (ib j n) (nm (setI σ i j.toNatClampNeg (vp_nar .boolean x)) f) = some res) (kk : ∀ τ : St, f τ = some res → Jd X nL (pc + 1) lv rest τ) : Jd X nL pc lv (.int x :: .int j :: .ref (wad (xw X) i) :: rest) σ :=
  J_zast hX hq (ib_in (chk_some h).1) hd (kk _ (chk_some h).2)
theorem K_last {i n : Nat} {j : Int32} {x : Int64} {f : St → Option α} (hX : gd X cc nL own ret) (hq : isC (xw X) i (.inl (1, n))) (hd : decode cc pc = .ok (.lastore, 1)) (h : chk (ib j n) (nm (setJ σ i j.toNatClampNeg x) f) = some res) (kk : ∀ τ : St, f τ = some res → Jd X nL (pc + 1) lv rest τ) : Jd X nL pc lv (.long x :: .int j :: .ref (wad (xw X) i) :: rest) σ :=
  J_last hX hq (ib_in (chk_some h).1) hd (kk _ (chk_some h).2)
theorem K_puti {i ci N k idx t : Nat} {fk : Nat → Nat × Nat} {C : String} {T : u_T} {ty : Nat → FieldType} {v : Int32} {f : St → Option α} (hX : gd X cc nL own ret) (hq : isC (xw X) i (.inr (ci, N, fk))) (hc : clsOK ci C T N ty) (hk : k < N) (hlink : Cond.fieldLink own idx (T k).1 (T k).2.1 (T k).2.2.1 ∈ U0) (hf : fk k = (0, t)) (hfin : (T k).2.2.2 = false) (hty : ty k = .int) (hd : decode cc pc = .ok (.putfield idx, 3)) (h : nm (setI σ i k v) f = some res) (kk : ∀ τ : St, f τ = some res → Jd X nL (pc + 3) lv rest τ) : Jd X nL pc lv (.int v :: .ref (wad (xw X) i) :: rest) σ :=
  J_puti hX hq hc hk hlink hf hfin (by rw [hty]; exact ⟨rfl, rfl⟩) hd (kk _ h)
theorem K_putl {i ci N k idx t : Nat} {fk : Nat → Nat × Nat} {C : String} {T : u_T} {ty : Nat → FieldType} {v : Int64} {f : St → Option α} (hX : gd X cc nL own ret) (hq : isC (xw X) i (.inr (ci, N, fk))) (hc : clsOK ci C T N ty) (hk : k < N) (hlink : Cond.fieldLink own idx (T k).1 (T k).2.1 (T k).2.2.1 ∈ U0) (hf : fk k = (1, t)) (hfin : (T k).2.2.2 = false) (hty : ty k = .long) (hd : decode cc pc = .ok (.putfield idx, 3)) (h : nm (setJ σ i k v) f = some res) (kk : ∀ τ : St, f τ = some res → Jd X nL (pc + 3) lv rest τ) : Jd X nL pc lv (.long v :: .ref (wad (xw X) i) :: rest) σ :=
  J_putl hX hq hc hk hlink hf hfin (by rw [hty]; exact ⟨rfl, rfl⟩) hd (kk _ h)
theorem K_putz {i ci N k idx t : Nat} {fk : Nat → Nat × Nat} {C : String} {T : u_T} {ty : Nat → FieldType} {v : Int32} {f : St → Option α} (hX : gd X cc nL own ret) (hq : isC (xw X) i (.inr (ci, N, fk))) (hc : clsOK ci C T N ty) (hk : k < N) (hlink : Cond.fieldLink own idx (T k).1 (T k).2.1 (T k).2.2.1 ∈ U0) (hf : fk k = (0, t)) (hfin : (T k).2.2.2 = false) (hty : ty k = .boolean) (hd : decode cc pc = .ok (.putfield idx, 3)) (h : chk (decide (v = 0 ∨ v = 1)) (nm (setI σ i k v) f) = some res) (kk : ∀ τ : St, f τ = some res → Jd X nL (pc + 3) lv rest τ) : Jd X nL pc lv (.int v :: .ref (wad (xw X) i) :: rest) σ :=
  J_puti hX hq hc hk hlink hf hfin (by rw [hty]; rcases of_decide_eq_true (chk_some h).1 with rfl | rfl <;> exact ⟨rfl, rfl⟩) hd (kk _ (chk_some h).2)
theorem K_idiv {x y : Int32} {a : Option α} (hX : gd X cc nL own ret) (hd : decode cc pc = .ok (.idiv, 1)) (h : chk (decide (¬ y = 0)) a = some res) (kk : a = some res → Jd X nL (pc + 1) lv (.int (x / y) :: rest) σ) : Jd X nL pc lv (.int y :: .int x :: rest) σ := J_idiv hX hd (of_decide_eq_true (chk_some h).1) (kk (chk_some h).2)
theorem K_irem {x y : Int32} {a : Option α} (hX : gd X cc nL own ret) (hd : decode cc pc = .ok (.irem, 1)) (h : chk (decide (¬ y = 0)) a = some res) (kk : a = some res → Jd X nL (pc + 1) lv (.int (x - x / y * y) :: rest) σ) : Jd X nL pc lv (.int y :: .int x :: rest) σ := J_irem hX hd (of_decide_eq_true (chk_some h).1) (kk (chk_some h).2)
theorem K_ldiv {x y : Int64} {a : Option α} (hX : gd X cc nL own ret) (hd : decode cc pc = .ok (.ldiv, 1)) (h : chk (decide (¬ y = 0)) a = some res) (kk : a = some res → Jd X nL (pc + 1) lv (.long (x / y) :: rest) σ) : Jd X nL pc lv (.long y :: .long x :: rest) σ := J_ldiv hX hd (of_decide_eq_true (chk_some h).1) (kk (chk_some h).2)
theorem K_lrem {x y : Int64} {a : Option α} (hX : gd X cc nL own ret) (hd : decode cc pc = .ok (.lrem, 1)) (h : chk (decide (¬ y = 0)) a = some res) (kk : a = some res → Jd X nL (pc + 1) lv (.long (x - x / y * y) :: rest) σ) : Jd X nL pc lv (.long y :: .long x :: rest) σ := J_lrem hX hd (of_decide_eq_true (chk_some h).1) (kk (chk_some h).2)
theorem K_iret {v r : Int32} {τ : St} (hX : gd X cc nL own (some .int)) (hr : xr X = (some (.int r), τ)) (hd : decode cc pc = .ok (.ireturn, 1)) (h : some (v, σ) = some (r, τ)) : Jd X nL pc lv [.int v] σ := J_iret hX (by cases h; exact hr) hd
theorem K_zret {v r : Int32} {τ : St} (hX : gd X cc nL own (some .boolean)) (hr : xr X = (some (.int r), τ)) (hd : decode cc pc = .ok (.ireturn, 1)) (h : chk (decide (v = 0 ∨ v = 1)) (some (v, σ)) = some (r, τ)) : Jd X nL pc lv [.int v] σ := J_zret hX (of_decide_eq_true (chk_some h).1) (by cases (chk_some h).2; exact hr) hd
theorem K_vret {τ : St} (hX : gd X cc nL own none) (hr : xr X = (none, τ)) (hd : decode cc pc = .ok (.return_, 1)) (h : some σ = some τ) : Jd X nL pc lv [] σ := J_vret hX (by cases h; exact hr) hd
theorem K_istore_n {k : Fin 4} {i : Nat} {x : Int32} {f : Int32 → Option α} (lv' : Int32 → List (Nat × Value)) (hX : gd X cc nL own ret) (hd : decode cc pc = .ok (.istore_n k, 1)) (hi : (k : Nat) = i) (hn : i < nL) (hl : ∀ v : Int32, (i, Value.int v) :: lv.filter (fun q => !(q.1 == i) && !(q.1 + 1 == i && q.2.category == 2)) = lv' v) (h : nm x f = some res) (kk : ∀ v : Int32, f v = some res → Jd X nL (pc + 1) (lv' v) rest σ) : Jd X nL pc lv (.int x :: rest) σ := J_istore_n hX hd hi hn rfl (hl x) (kk x h)
theorem K_istore {i : Nat} {x : Int32} {f : Int32 → Option α} (lv' : Int32 → List (Nat × Value)) (hX : gd X cc nL own ret) (hd : decode cc pc = .ok (.istore i, 2)) (hn : i < nL) (hl : ∀ v : Int32, (i, Value.int v) :: lv.filter (fun q => !(q.1 == i) && !(q.1 + 1 == i && q.2.category == 2)) = lv' v) (h : nm x f = some res) (kk : ∀ v : Int32, f v = some res → Jd X nL (pc + 2) (lv' v) rest σ) : Jd X nL pc lv (.int x :: rest) σ := J_istore hX hd hn rfl (hl x) (kk x h)
theorem K_lstore_n {k : Fin 4} {i : Nat} {x : Int64} {f : Int64 → Option α} (lv' : Int64 → List (Nat × Value)) (hX : gd X cc nL own ret) (hd : decode cc pc = .ok (.lstore_n k, 1)) (hi : (k : Nat) = i) (hn : i + 1 < nL) (hl : ∀ v : Int64, (i, Value.long v) :: lv.filter (fun q => !(q.1 == i) && (!(q.1 == i + 1) && !(q.1 + 1 == i && q.2.category == 2))) = lv' v) (h : nm x f = some res) (kk : ∀ v : Int64, f v = some res → Jd X nL (pc + 1) (lv' v) rest σ) : Jd X nL pc lv (.long x :: rest) σ := J_lstore_n hX hd hi hn rfl (hl x) (kk x h)
theorem K_lstore {i : Nat} {x : Int64} {f : Int64 → Option α} (lv' : Int64 → List (Nat × Value)) (hX : gd X cc nL own ret) (hd : decode cc pc = .ok (.lstore i, 2)) (hn : i + 1 < nL) (hl : ∀ v : Int64, (i, Value.long v) :: lv.filter (fun q => !(q.1 == i) && (!(q.1 == i + 1) && !(q.1 + 1 == i && q.2.category == 2))) = lv' v) (h : nm x f = some res) (kk : ∀ v : Int64, f v = some res → Jd X nL (pc + 2) (lv' v) rest σ) : Jd X nL pc lv (.long x :: rest) σ := J_lstore hX hd hn rfl (hl x) (kk x h)
theorem K_iinc {i q : Nat} {n : Int} {x : Int32} {f : Int32 → Option α} (lv' : Int32 → List (Nat × Value)) (hX : gd X cc nL own ret) (hd : decode cc pc = .ok (.iinc i n, 3)) (hg : lv[q]? = some (i, .int x)) (hn : i < nL) (hl : ∀ v : Int32, (i, Value.int v) :: lv.filter (fun q => !(q.1 == i) && !(q.1 + 1 == i && q.2.category == 2)) = lv' v) (h : nm (x + Int32.ofInt n) f = some res) (kk : ∀ v : Int32, f v = some res → Jd X nL (pc + 3) (lv' v) rest σ) : Jd X nL pc lv rest σ := J_iinc hX hd hg rfl hn (hl _) (kk _ h)
/-- a method that makes no cell -/
abbrev nA (X : CX) : Prop := xg X = fun _ => (0, 0)
theorem K_callV {y : MethodName} {bytes : ByteArray} {maxL f lo idx n i ci N F Lo : Nat} {rt : Option FieldType} {fk : Nat → Nat × Nat} {T : u_T} {ty : Nat → FieldType} (As : List Value) {r : Option Value} {τ : St} (hX : gd X cc nL own ret) (hg : nA X) (hR : xR X = rmOf F Lo 0 0) (hC : Ct y bytes maxL rt f lo (xw X) (.ref (wad (xw X) i) :: As) σ r τ 0 0) (hlk : lkV own idx y bytes maxL rt) (hy : mdOK y n) (hq : isC (xw X) i (.inr (ci, N, fk))) (hc : clsOK ci y.cls T N ty)
    (hr : f + 1 ≤ F ∧ 8 + (maxL + 11) + lo ≤ Lo) (hn : As.length = n) (hst : st0 = As.reverse ++ .ref (wad (xw X) i) :: rest) (hW : (rest.map fun v => v.category).sum ≤ 8) (hd : decode cc pc = .ok (.invokevirtual idx, 3))
    (kk : Jd X nL (pc + 3) lv (r.toList ++ rest) τ) : Jd X nL pc lv st0 σ :=
  J_callV hX hC hlk hy hq hc (by rw [hR]; exact hr) (by rw [hg]; exact ⟨rfl, Nat.le_refl _⟩) (by rw [hg]; exact ⟨Nat.zero_le _, Nat.zero_le _⟩) hn hst hW hd kk
theorem K_callS {y : MethodName} {bytes : ByteArray} {maxL f lo idx n F Lo : Nat} {rt : Option FieldType} (As : List Value) {r : Option Value} {τ : St} (hX : gd X cc nL own ret) (hg : nA X) (hR : xR X = rmOf F Lo 0 0) (hC : Ct y bytes maxL rt f lo (xw X) As σ r τ 0 0) (hlk : lkS own idx y bytes maxL rt) (hy : mdOK y n)
    (hr : f + 1 ≤ F ∧ 8 + (maxL + 11) + lo ≤ Lo) (hn : As.length = n) (hst : st0 = As.reverse ++ rest) (hW : (rest.map fun v => v.category).sum ≤ 8) (hd : decode cc pc = .ok (.invokestatic idx, 3))
    (kk : Jd X nL (pc + 3) lv (r.toList ++ rest) τ) : Jd X nL pc lv st0 σ :=
  J_callS hX hC hlk hy (by rw [hR]; exact hr) (by rw [hg]; exact ⟨rfl, Nat.le_refl _⟩) (by rw [hg]; exact ⟨Nat.zero_le _, Nat.zero_le _⟩) hn hst hW hd kk
theorem K_min {x y : Int32} {idx F Lo : Nat} (hX : gd X cc nL own ret) (hR : xR X = rmOf F Lo 0 0) (hg : nA X) (hl : Cond.methodLink own idx Lib.Math.min.name ∈ U0 ∧ Cond.static Lib.Math.min.name ∈ U0 ∧ Cond.initialized "java/lang/Math" ∈ U0 ∧ Cond.code Lib.Math.min.name Lib.Math.min.code 2 (some .int) ∈ U0) (hr : 1 ≤ F ∧ 21 ≤ Lo) (hW : (rest.map fun v => v.category).sum ≤ 8) (hd : decode cc pc = .ok (.invokestatic idx, 3)) (kk : Jd X nL (pc + 3) lv (.int (if y < x then y else x) :: rest) σ) : Jd X nL pc lv (.int y :: .int x :: rest) σ := by
  intro H locs ls hH hS hz hlv
  have hu := hX.2.2.2.2.1
  exact va_mmin hX.1 hX.2.1 (hX.2.2.1.trans hlv.1.symm) hX.2.2.2.1 (hu _ hl.1) (hu _ hl.2.1) (hu _ hl.2.2.1) (hu _ hl.2.2.2) (by rw [hR]; exact hr.1) (by rw [hR]; show _ ≤ Lo; omega) (by rw [hg, hR]; exact Nat.le_refl 0) (by rw [hg, hR]; exact Nat.le_refl 0) hd (kk H locs ls hH hS hz hlv)
theorem K_max {x y : Int32} {idx F Lo : Nat} (hX : gd X cc nL own ret) (hR : xR X = rmOf F Lo 0 0) (hg : nA X) (hl : Cond.methodLink own idx Lib.Math.max.name ∈ U0 ∧ Cond.static Lib.Math.max.name ∈ U0 ∧ Cond.initialized "java/lang/Math" ∈ U0 ∧ Cond.code Lib.Math.max.name Lib.Math.max.code 2 (some .int) ∈ U0) (hr : 1 ≤ F ∧ 21 ≤ Lo) (hW : (rest.map fun v => v.category).sum ≤ 8) (hd : decode cc pc = .ok (.invokestatic idx, 3)) (kk : Jd X nL (pc + 3) lv (.int (if x < y then y else x) :: rest) σ) : Jd X nL pc lv (.int y :: .int x :: rest) σ := by
  intro H locs ls hH hS hz hlv
  have hu := hX.2.2.2.2.1
  exact va_mmax hX.1 hX.2.1 (hX.2.2.1.trans hlv.1.symm) hX.2.2.2.1 (hu _ hl.1) (hu _ hl.2.1) (hu _ hl.2.2.1) (hu _ hl.2.2.2) (by rw [hR]; exact hr.1) (by rw [hR]; show _ ≤ Lo; omega) (by rw [hg, hR]; exact Nat.le_refl 0) (by rw [hg, hR]; exact Nat.le_refl 0) hd (kk H locs ls hH hS hz hlv)
theorem K_ldc2 {v : Int64} {idx : Nat} (hX : gd X cc nL own ret) (hl : Cond.constantLong own idx v ∈ U0) (hd : decode cc pc = .ok (.ldc2_w idx, 3)) (kk : Jd X nL (pc + 3) lv (.long v :: rest) σ) : Jd X nL pc lv rest σ := fun H locs ls hH hS hz hlv => lv_ldc2 hX.1 hX.2.1 hX.2.2.2.1 (hX.2.2.2.2.1 _ hl) hd (kk H locs ls hH hS hz hlv)
theorem K_lret {v r : Int64} {τ : St} (hX : gd X cc nL own (some .long)) (hr : xr X = (some (.long r), τ)) (hd : decode cc pc = .ok (.lreturn, 1)) (h : some (v, σ) = some (r, τ)) : Jd X nL pc lv [.long v] σ := J_lret hX (by cases h; exact hr) hd
theorem K_geti {i ci N k idx t : Nat} {fk : Nat → Nat × Nat} {C : String} {T : u_T} {ty : Nat → FieldType} (hX : gd X cc nL own ret) (hq : isC (xw X) i (.inr (ci, N, fk))) (hc : clsOK ci C T N ty) (hk : k < N) (hlink : Cond.fieldLink own idx (T k).1 (T k).2.1 (T k).2.2.1 ∈ U0) (hf : fk k = (0, t)) (hd : decode cc pc = .ok (.getfield idx, 3)) (kk : Jd X nL (pc + 3) lv (.int (σ.1 i k) :: rest) σ) : Jd X nL pc lv (.ref (wad (xw X) i) :: rest) σ := J_get hX hq hc hk hlink (by rw [hf]; rfl) hd kk
theorem K_getl {i ci N k idx t : Nat} {fk : Nat → Nat × Nat} {C : String} {T : u_T} {ty : Nat → FieldType} (hX : gd X cc nL own ret) (hq : isC (xw X) i (.inr (ci, N, fk))) (hc : clsOK ci C T N ty) (hk : k < N) (hlink : Cond.fieldLink own idx (T k).1 (T k).2.1 (T k).2.2.1 ∈ U0) (hf : fk k = (1, t)) (hd : decode cc pc = .ok (.getfield idx, 3)) (kk : Jd X nL (pc + 3) lv (.long (σ.2.1 i k) :: rest) σ) : Jd X nL pc lv (.ref (wad (xw X) i) :: rest) σ := J_get hX hq hc hk hlink (by rw [hf]; rfl) hd kk
theorem K_getc {i ci N k idx : Nat} (t : Nat) {fk : Nat → Nat × Nat} {C : String} {T : u_T} {ty : Nat → FieldType} (hX : gd X cc nL own ret) (hq : isC (xw X) i (.inr (ci, N, fk))) (hc : clsOK ci C T N ty) (hk : k < N) (hlink : Cond.fieldLink own idx (T k).1 (T k).2.1 (T k).2.2.1 ∈ U0) (hf : fk k = (2, t)) (hd : decode cc pc = .ok (.getfield idx, 3)) (kk : Jd X nL (pc + 3) lv (.ref (wad (xw X) t) :: rest) σ) : Jd X nL pc lv (.ref (wad (xw X) i) :: rest) σ := J_get hX hq hc hk hlink (by rw [hf]; rfl) hd kk
theorem K_getw {i ci N k idx t : Nat} {fk : Nat → Nat × Nat} {C : String} {T : u_T} {ty : Nat → FieldType} (hX : gd X cc nL own ret) (hq : isC (xw X) i (.inr (ci, N, fk))) (hc : clsOK ci C T N ty) (hk : k < N) (hlink : Cond.fieldLink own idx (T k).1 (T k).2.1 (T k).2.2.1 ∈ U0) (hf : fk k = (3, t)) (hd : decode cc pc = .ok (.getfield idx, 3)) (kk : Jd X nL (pc + 3) lv (.ref (wadW (xw X) (σ.2.2.1 i k)) :: rest) σ) : Jd X nL pc lv (.ref (wad (xw X) i) :: rest) σ := J_get hX hq hc hk hlink (by rw [hf]; rfl) hd kk
theorem K_getp {i ci N k idx t : Nat} {fk : Nat → Nat × Nat} {C : String} {T : u_T} {ty : Nat → FieldType} (hX : gd X cc nL own ret) (hq : isC (xw X) i (.inr (ci, N, fk))) (hc : clsOK ci C T N ty) (hk : k < N) (hlink : Cond.fieldLink own idx (T k).1 (T k).2.1 (T k).2.2.1 ∈ U0) (hf : fk k = (4, t)) (hd : decode cc pc = .ok (.getfield idx, 3)) (kk : Jd X nL (pc + 3) lv (.ref (lawad (xw X) σ (σ.2.2.1 i k)) :: rest) σ) : Jd X nL pc lv (.ref (wad (xw X) i) :: rest) σ := J_get hX hq hc hk hlink (by rw [hf]; rfl) hd kk
theorem K_alen {i n ty : Nat} {ft : FieldType} (hX : gd X cc nL own ret) (hq : isC (xw X) i (.inl (ty, n))) (ht : (wtys (xw X))[ty]? = some (wcT (xw X) ty, ft)) (hd : decode cc pc = .ok (.arraylength, 1)) (kk : Jd X nL (pc + 1) lv (.int (nI n) :: rest) σ) : Jd X nL pc lv (.ref (wad (xw X) i) :: rest) σ := J_alen hX hq ht rfl hd kk
theorem K_tabIn {x : Int32} {dflt lo hi v off : Int} {offs : Array Int} {len tgt : Nat} (hX : gd X cc nL own ret) (hd : decode cc pc = .ok (.tableswitch dflt lo hi offs, len)) (hv : x.toInt = v) (h1 : ¬ v < lo) (h2 : ¬ hi < v) (ho : offs[(v - lo).toNat]? = some off) (ht : (pc : Int) + off = (tgt : Int)) (kk : Jd X nL tgt lv rest σ) : Jd X nL pc lv (.int x :: rest) σ := fun H locs ls hH hS hz hl => lv_tableIn hX.1 hX.2.1 hd (by rw [hv]; exact h1) (by rw [hv]; exact h2) (by rw [hv]; exact ho) ht (kk H locs ls hH hS hz hl)
theorem K_tabOut {x : Int32} {dflt lo hi : Int} {offs : Array Int} {len tgt : Nat} (hX : gd X cc nL own ret) (hd : decode cc pc = .ok (.tableswitch dflt lo hi offs, len)) (h1 : x.toInt < lo ∨ hi < x.toInt) (ht : (pc : Int) + dflt = (tgt : Int)) (kk : Jd X nL tgt lv rest σ) : Jd X nL pc lv (.int x :: rest) σ := fun H locs ls hH hS hz hl => lv_tableOut hX.1 hX.2.1 hd h1 ht (kk H locs ls hH hS hz hl)
theorem K_look {x : Int32} {dflt off : Int} {ps : Array (Int × Int)} {len tgt : Nat} (hX : gd X cc nL own ret) (hd : decode cc pc = .ok (.lookupswitch dflt ps, len)) (hp : (ps.toList.zip (ps.toList.drop 1)).all (fun (a, next) => a.1 < next.1) = true) (ho : Op.lookupswitch.offset ps.toList dflt x.toInt = off) (ht : (pc : Int) + off = (tgt : Int)) (kk : Jd X nL tgt lv rest σ) : Jd X nL pc lv (.int x :: rest) σ := fun H locs ls hH hS hz hl => lv_lookup hX.1 hX.2.1 hd hp ho ht (kk H locs ls hH hS hz hl)
def cpb (sp dp n : Int32) (n0 n1 : Nat) : Bool := decide (0 ≤ sp.toInt ∧ 0 ≤ dp.toInt ∧ 0 ≤ n.toInt ∧ sp.toInt + n.toInt ≤ (n0 : Int) ∧ dp.toInt + n.toInt ≤ (n1 : Int))
end KR
