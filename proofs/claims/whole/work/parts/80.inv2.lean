/-! the plan and the relay as functions of the picture; the invariant -/
def hol (T : Vw) (c : Nat) : Nat := if T 5 c = 2 then 2 * T 6 c else T 6 c
def mo (T D R : Vw) (LD : List Nat) (c ld : Nat) : Nat := if ld = 0 then 1 else (bs T D R LD c ld (R 0 0)).2
def pu (m : Nat → Nat) (g : Nat → Nat) (s : Nat) : Nat → Nat
  | 0 => 0
  | j + 1 => max (pu m g s j) (if m j = 0 then 0 else m j - 1 + g (s - j))
/-- the most that the last k carriers bring of s -/
def pf (m : Nat → Nat → Nat) (h : Nat → Nat) (nC : Nat) : Nat → Nat → Nat
  | 0, _ => 0
  | k + 1, s => pu (m (nC - (k + 1))) (pf m h nC k) s (min (h (nC - (k + 1))) s + 1)
/-- the first place from i on, of at most n, where it holds -/
def ls (P : Nat → Bool) : Nat → Nat → Nat
  | 0, i => i
  | n + 1, i => if P i then i else ls P n (i + 1)
def plP (m : Nat → Nat → Nat) (h : Nat → Nat) (nC c s ld : Nat) : Bool := decide (¬ m c ld = 0 ∧ m c ld - 1 + pf m h nC (nC - (c + 1)) (s - ld) = pf m h nC (nC - c) s)
def plL (m : Nat → Nat → Nat) (h : Nat → Nat) (nC c s : Nat) : Nat := ls (plP m h nC c s) (min (h c) s) 0
def plS (m : Nat → Nat → Nat) (h : Nat → Nat) (nC s : Nat) : Nat → Nat
  | 0 => s
  | c + 1 => plS m h nC s c - plL m h nC c (plS m h nC s c)
def plLoad (T D R : Vw) (LD : List Nat) (c : Nat) : Nat := plL (mo T D R LD) (hol T) (T 0 2) c (plS (mo T D R LD) (hol T) (T 0 2) (T 0 4) c)
def plWay (T D R : Vw) (LD : List Nat) (c : Nat) : Nat := if plLoad T D R LD c = 0 then 0 else (bs T D R LD c (plLoad T D R LD c) (R 0 0)).1
def plTog (T D R : Vw) (LD : List Nat) : Nat := pf (mo T D R LD) (hol T) (T 0 2) (T 0 2) (T 0 4)
/-- what is found in a relay: left + 1, the way's number + 1, who carries -/
abbrev RB : Type := Nat × Nat × (Nat → Nat)
def fc {β : Type} (f : Nat → β → β) : Nat → β → β
  | 0, b => b
  | k + 1, b => f k (fc f k b)
def updN (f : Nat → Nat) (i v : Nat) : Nat → Nat := fun j => if j = i then v else f j
def rlD (T D : Vw) (LD : List Nat) (R : Vw) (p i c l m : Nat) : Nat := if i + 1 < R 1 p then drk T D LD c (R (2 + p) (i + 1)) l m else 0
def rl (T D R : Vw) (LD : List Nat) (p : Nat) : Nat → Nat → Nat → Nat → Nat → Nat → (Nat → Nat) → RB → RB
  | 0, _, _, _, l, m, w, B => if m ≤ T 0 5 ∧ B.1 < l + 1 then (l + 1, p + 1, w) else B
  | n + 1, i, h, had, l, m, w, B => fc (fun c B => if ¬ c = h ∧ ¬ had / 2 ^ c % 2 = 0 then B else
      rl T D R LD p n (i + 1) c (had ||| 2 ^ c)
        (min l (hol T c) - drp T (D 4 5) c (trQ R p i) (min l (hol T c)) - rlD T D LD R p i c (min l (hol T c) - drp T (D 4 5) c (trQ R p i) (min l (hol T c))) (m + mns T c (trQ R p i)))
        (m + mns T c (trQ R p i)) (updN w i c) B) (T 0 2) B
def rlA (T D R : Vw) (LD : List Nat) (ld : Nat) : Nat → RB
  | 0 => (0, 0, fun _ => 0)
  | p + 1 => rl T D R LD p (R 1 p) 0 99 0 ld 0 (fun _ => 0) (rlA T D R LD ld p)
/-- what the plan and the relay need of a day -/
def dn (D : Vw) : Vw := fun a b => if a = 0 ∧ b < 36 then D 0 b else if a = 4 ∧ b = 5 then D 4 5 else 0
/-- the answers that are kept -/
def XA (T D R : Vw) (LD : List Nat) (σ : St) : Prop :=
  (σ.1 49 8 = 0 ∨ (σ.1 49 8 = 1 ∧ σ.1 49 7 = I (plTog T D R LD) ∧ ∀ c, c < T 0 2 → σ.1 52 c = I (plLoad T D R LD c) ∧ σ.1 53 c = nz (plWay T D R LD c))) ∧
  (σ.1 54 9 = 0 ∨ (σ.1 54 9 = 1 ∧ ∃ ld, ld ≤ 60 ∧ σ.1 54 5 = I ld ∧ σ.1 54 8 = nz (rlA T D R LD ld (R 0 0)).1 ∧ σ.1 54 7 = nz (rlA T D R LD ld (R 0 0)).2.1 ∧ ∀ i, i < R 1 ((rlA T D R LD ld (R 0 0)).2.1 - 1) → ¬ (rlA T D R LD ld (R 0 0)).2.1 = 0 → σ.1 56 i = I ((rlA T D R LD ld (R 0 0)).2.2 i)))
/-- the class's rows for laws -/
def XN (σ : St) : Prop := Pok σ = true
def GX (T R D Mk U : Vw) (n : Nat) (tp : Nat → Nat) (LD LP : List Nat) (σ : St) : Prop := XMt T σ ∧ XD 33 (T 0 0) D σ ∧ XR R σ ∧ XK (T 0 0) Mk σ ∧ XU U σ ∧ XP n tp σ ∧ XL LD LP σ ∧ XA T (dn D) R LD σ ∧ XN σ
def GM (T R D Mk U : Vw) (n : Nat) (tp : Nat → Nat) (LD LP : List Nat) (σ : St) : Prop := MT T σ ∧ MD 0 (T 0 0) D σ ∧ MR R σ ∧ MK (T 0 0) Mk σ ∧ MU U σ ∧ MP n tp σ ∧ MLw LD LP σ ∧ MC σ
def GW (T R D Mk U : Vw) (n : Nat) (tp : Nat → Nat) (LD LP : List Nat) : Prop := wfT T ∧ wfD (T 0 0) D ∧ wfR T R ∧ wfK (T 0 0) Mk ∧ wfU D U ∧ wfP n tp ∧ wfL LD LP
def Inv (σx σm : St) : Prop := ∃ (T R D Mk U : Vw) (n : Nat) (tp : Nat → Nat) (LD LP : List Nat), GW T R D Mk U n tp LD LP ∧ GX T R D Mk U n tp LD LP σx ∧ GM T R D Mk U n tp LD LP σm
theorem XN_fr {σ τ : St} (h : τ.2.2 = σ.2.2) (hx : XN σ) : XN τ := by
  unfold XN Pok Kn at *
  rw [h]
  exact hx
theorem XA_fr {T D R : Vw} {LD : List Nat} {σ τ : St} (h1 : τ.1 49 7 = σ.1 49 7) (h2 : τ.1 49 8 = σ.1 49 8) (h3 : τ.1 52 = σ.1 52) (h4 : τ.1 53 = σ.1 53) (h5 : τ.1 54 = σ.1 54) (h6 : τ.1 56 = σ.1 56) (hx : XA T D R LD σ) : XA T D R LD τ := by
  unfold XA at *
  rw [h1, h2, h3, h4, h5, h6]
  exact hx
/-- nothing that counts is in these cells of the class -/
def scX : List Nat := [7, 8, 9, 10, 11, 12, 13, 14, 15, 16, 17, 18, 19, 20, 21, 22, 32, 45, 46, 47, 48, 50, 51, 55, 57, 58, 59, 60, 97]
theorem GX_fr {T R D Mk U : Vw} {n : Nat} {tp : Nat → Nat} {LD LP : List Nat} {σ τ : St} (h : ∀ i, i ∉ scX → i ≠ 49 → τ.1 i = σ.1 i) (h49 : ∀ j, j ≠ 9 → j ≠ 10 → τ.1 49 j = σ.1 49 j) (hj : ∀ i, i ≠ 97 → τ.2.1 i = σ.2.1 i) (hp : τ.2.2 = σ.2.2) (hx : GX T R D Mk U n tp LD LP σ) : GX T R D Mk U n tp LD LP τ := by
  obtain ⟨a1, a2, a3, a4, a5, a6, a7, a8, a9⟩ := hx
  refine ⟨XMt_fr (fun i h1 h2 => h i (by simp [scX]; omega) (by omega)) a1, XD_fr (fun i h1 h2 => h i (by simp [scX]; omega) (by omega)) (hj _ (by decide)) a2, XR_fr (by rw [h 42 (by decide) (by decide)]) (h 43 (by decide) (by decide)) (h 44 (by decide) (by decide)) a3, XK_fr (fun i h1 => h i (by simp [scX]; omega) (by omega)) (fun i h1 h2 => hj i (by omega)) a4, XU_fr (by rw [h 0 (by decide) (by decide)]) (h 1 (by decide) (by decide)) (h 2 (by decide) (by decide)) a5, XP_fr (by rw [h 5 (by decide) (by decide)]) (h 6 (by decide) (by decide)) a6, XL_fr hp a7, XA_fr (h49 7 (by decide) (by decide)) (h49 8 (by decide) (by decide)) (h 52 (by decide) (by decide)) (h 53 (by decide) (by decide)) (h 54 (by decide) (by decide)) (h 56 (by decide) (by decide)) a8, XN_fr hp a9⟩
theorem GX_b {T R D Mk U : Vw} {n : Nat} {tp : Nat → Nat} {LD LP : List Nat} {σ τ : St} (h : bX σ τ) (hx : GX T R D Mk U n tp LD LP σ) : GX T R D Mk U n tp LD LP τ :=
  GX_fr (fun i h1 h2 => h.1 i (fun h3 => h1 (by revert h3; simp [scX]; omega)) h2) (fun j h1 h2 => h.2.1 j (by simp; omega)) (fun i _ => by rw [h.2.2]) (by rw [h.2.2]) hx
def scM : List Nat := [2, 3, 4, 7, 10, 11, 14, 15, 19, 20, 21, 22, 23, 24, 25]
def scF : List Nat := [0, 3, 7, 8, 14, 17, 18, 19, 30, 31, 32, 33, 34, 35, 41, 42]
theorem GM_fr {T R D Mk U : Vw} {n : Nat} {tp : Nat → Nat} {LD LP : List Nat} {σ τ : St} (hw : GW T R D Mk U n tp LD LP) (h : ∀ i, i ∉ scM → i ≠ 0 → τ.1 i = σ.1 i) (h0 : ∀ j, j ∉ scF → τ.1 0 j = σ.1 0 j) (hj : τ.2.1 5 = σ.2.1 5) (hx : GM T R D Mk U n tp LD LP σ) : GM T R D Mk U n tp LD LP τ := by
  obtain ⟨a1, a2, a3, a4, a5, a6, a7, a8⟩ := hx
  have h16 := h 16 (by decide) (by decide)
  exact ⟨MT_fr (h 6 (by decide) (by decide)) a1, MD_fr hw.1.1 hw.2.1.2.2.2.1 (fun q _ => by rw [h16]) a2, MR_fr (h0 27 (by decide)) (h 18 (by decide) (by decide)) a3, MK_fr hw.1.1 hw.2.2.2.1 (h 17 (by decide) (by decide)) (fun q _ _ => by rw [h16]) a4, MU_fr (h0 25 (by decide)) hw.2.2.2.2.1.1 (fun q _ _ => by rw [h16]) a5, MP_fr (h0 2 (by decide)) (h 1 (by decide) (by decide)) a6, MLw_fr (h 6 (by decide) (by decide)) (h 8 (by decide) (by decide)) (h 9 (by decide) (by decide)) a7, MC_fr (h 12 (by decide) (by decide)) (h 13 (by decide) (by decide)) hj a8⟩
theorem GM_s {T R D Mk U : Vw} {n : Nat} {tp : Nat → Nat} {LD LP : List Nat} {σ τ : St} (hw : GW T R D Mk U n tp LD LP) (h : frO scM 0 scF σ τ) (hx : GM T R D Mk U n tp LD LP σ) : GM T R D Mk U n tp LD LP τ :=
  GM_fr hw h.1 h.2.1 (by rw [h.2.2]) hx
theorem GM_0 {T R D Mk U : Vw} {n : Nat} {tp : Nat → Nat} {LD LP : List Nat} {σ : St} (hw : GW T R D Mk U n tp LD LP) (v : Int32) (hx : GM T R D Mk U n tp LD LP σ) : GM T R D Mk U n tp LD LP (setI σ 0 0 v) :=
  GM_s hw (frO_f frO_refl _ (by decide)) hx
theorem GM_b {T R D Mk U : Vw} {n : Nat} {tp : Nat → Nat} {LD LP : List Nat} {σ τ : St} (hw : GW T R D Mk U n tp LD LP) (h : bM σ τ) (hx : GM T R D Mk U n tp LD LP σ) : GM T R D Mk U n tp LD LP τ :=
  GM_s hw (frO_mono (fun i h => by revert h; simp [scM]; omega) (fun i h => by revert h; simp [scF]; omega) h) hx
theorem GX_W {T R D Mk U : Vw} {n : Nat} {tp : Nat → Nat} {LD LP : List Nat} {σ : St} (hx : GX T R D Mk U n tp LD LP σ) : WX T D R LD LP σ :=
  ⟨hx.1, hx.2.1.1, hx.2.1.2.1, hx.2.2.2.2.2.2.1, hx.2.2.1⟩
theorem GM_W {T R D Mk U : Vw} {n : Nat} {tp : Nat → Nat} {LD LP : List Nat} {σ : St} (hx : GM T R D Mk U n tp LD LP σ) : WM T D R LD LP σ :=
  ⟨hx.1, fun q hq => by have := hx.2.1.1 q hq; rwa [Nat.zero_add] at this, hx.2.1.2.1, hx.2.2.2.2.2.2.1, hx.2.2.1⟩
theorem GW_W {T R D Mk U : Vw} {n : Nat} {tp : Nat → Nat} {LD LP : List Nat} (hw : GW T R D Mk U n tp LD LP) : wfW T D R LD LP := ⟨hw.1, hw.2.1.1, hw.2.2.2.2.2.2, hw.2.2.1⟩
