/-! the second reading makes as many rows as the first -/
def MonP (k0 mc ms K : Nat) (x y : Option (Int32 × St)) : Prop := ∀ r, x = some r → K ≤ Kn r.2 ∧ (Kn r.2 - k0 ≤ mc → 1000 * (Kn r.2 - k0) ≤ ms → y = some r)
theorem Mon_brc {k0 mc ms K : Nat} {p : Prop} [Decidable p] {a b a' b' : Option (Int32 × St)} (h1 : MonP k0 mc ms K a a') (h2 : MonP k0 mc ms K b b') : MonP k0 mc ms K (brc p a b) (brc p a' b') := by
  intro r hr
  rcases brc_some hr with ⟨hp, h⟩ | ⟨hp, h⟩
  · have := h1 r h
    exact ⟨this.1, fun x y => by rw [brc_t hp]; exact this.2 x y⟩
  · have := h2 r h
    exact ⟨this.1, fun x y => by rw [brc_f hp]; exact this.2 x y⟩
theorem Mon_chk {k0 mc ms K : Nat} {b : Bool} {x y : Option (Int32 × St)} (h : MonP k0 mc ms K x y) : MonP k0 mc ms K (chk b x) (chk b y) := by
  intro r hr
  obtain ⟨hb, h9⟩ := chk_some hr
  have := h r h9
  exact ⟨this.1, fun x y => by rw [chk_t hb]; exact this.2 x y⟩
theorem Mon_nm {k0 mc ms K : Nat} {α : Type} {x : α} {f g : α → Option (Int32 × St)} (h : MonP k0 mc ms K (f x) (g x)) : MonP k0 mc ms K (nm x f) (nm x g) := h
theorem Mon_bnd2 {k0 mc ms K : Nat} {α : Type} {x : Option (α × St)} {f g : α → St → Option (Int32 × St)} (h : ∀ a c, MonP k0 mc ms K (f a c) (g a c)) : MonP k0 mc ms K (bnd2 x f) (bnd2 x g) := by
  intro r hr
  obtain ⟨a, c, e, h9⟩ := bnd2_some hr
  have := h a c r h9
  exact ⟨this.1, fun x y => by rw [e, bnd2S]; exact this.2 x y⟩
theorem Mon_bnd1 {k0 mc ms K : Nat} {x : Option St} {f g : St → Option (Int32 × St)} (h : ∀ c, MonP k0 mc ms K (f c) (g c)) : MonP k0 mc ms K (bnd1 x f) (bnd1 x g) := by
  intro r hr
  obtain ⟨c, e, h9⟩ := bnd1_some hr
  have := h c r h9
  exact ⟨this.1, fun x y => by rw [e, bnd1S]; exact this.2 x y⟩
theorem Mon_some {k0 mc ms K : Nat} {r : Int32 × St} (h : K ≤ Kn r.2) : MonP k0 mc ms K (some r) (some r) := by
  intro r' hr
  cases hr
  exact ⟨h, fun _ _ => rfl⟩
theorem Mon_K {k0 mc ms mo so : Nat} {σ σ' : St} {x y : Option (Int32 × St)} (h : MonP k0 mc ms (Kn σ') x y) : MonP k0 mc ms (Kn σ) (chk (decide (Kn σ' = Kn σ ∧ Kn σ - k0 ≤ mo ∧ 1000 * (Kn σ - k0) ≤ so)) x) (chk (decide (Kn σ' = Kn σ ∧ Kn σ - k0 ≤ mc ∧ 1000 * (Kn σ - k0) ≤ ms)) y) := by
  intro r hr
  obtain ⟨hb, h9⟩ := chk_some hr
  have hb' := of_decide_eq_true hb
  have := h r h9
  refine ⟨by omega, fun x y => ?_⟩
  rw [chk_t (decide_eq_true ⟨hb'.1, by omega, by omega⟩)]
  exact this.2 x y
theorem Mon_A {k0 mc ms mo so : Nat} {σ σ' : St} {x y : Option (Int32 × St)} (h : MonP k0 mc ms (Kn σ') x y) : MonP k0 mc ms (Kn σ) (chk (decide (k0 ≤ Kn σ ∧ Kn σ ≤ Kn σ' ∧ Kn σ' - k0 ≤ mo ∧ 1000 * (Kn σ' - k0) ≤ so)) x) (chk (decide (k0 ≤ Kn σ ∧ Kn σ ≤ Kn σ' ∧ Kn σ' - k0 ≤ mc ∧ 1000 * (Kn σ' - k0) ≤ ms)) y) := by
  intro r hr
  obtain ⟨hb, h9⟩ := chk_some hr
  have hb' := of_decide_eq_true hb
  have := h r h9
  refine ⟨by omega, fun x y => ?_⟩
  rw [chk_t (decide_eq_true ⟨hb'.1, hb'.2.1, by omega, by omega⟩)]
  exact this.2 x y
section
variable {hb k0 mc ms mo so : Nat} {kk kk' : Int32 → St → Option (Int32 × St)}
theorem mon_184 (hk : ∀ v σ, MonP k0 mc ms (Kn σ) (kk v σ) (kk' v σ)) (v1 v3 : Int32) (σ : St) : MonP k0 mc ms (Kn σ) (rX_readAll_184 hb k0 mo so kk v1 v3 σ) (rX_readAll_184 hb k0 mc ms kk' v1 v3 σ) := by
  unfold rX_readAll_184 rX_readAll_198
  exact Mon_brc (Mon_some (Nat.le_refl _)) (Mon_bnd2 fun a c => Mon_K (Mon_brc (Mon_nm (hk _ _)) (Mon_some (Nat.le_refl _))))
theorem mon_141 (hk : ∀ v σ, MonP k0 mc ms (Kn σ) (kk v σ) (kk' v σ)) (v1 s0 : Int32) (σ : St) : MonP k0 mc ms (Kn σ) (rX_readAll_141 hb k0 mo so kk v1 s0 σ) (rX_readAll_141 hb k0 mc ms kk' v1 s0 σ) := by
  unfold rX_readAll_141
  exact Mon_bnd2 fun a c => Mon_bnd2 fun a' c' => Mon_chk (Mon_A (Mon_nm (mon_184 hk _ _ _)))
theorem mon_128 (hk : ∀ v σ, MonP k0 mc ms (Kn σ) (kk v σ) (kk' v σ)) (v1 : Int32) (v2 : Nat) (σ : St) : MonP k0 mc ms (Kn σ) (rX_readAll_128 hb k0 mo so kk v1 v2 σ) (rX_readAll_128 hb k0 mc ms kk' v1 v2 σ) := by
  unfold rX_readAll_128
  exact Mon_chk (Mon_brc (mon_141 hk _ _ _) (mon_141 hk _ _ _))
theorem mon_169 (hk : ∀ v σ, MonP k0 mc ms (Kn σ) (kk v σ) (kk' v σ)) (v1 : Int32) (v2 : Nat) (σ : St) : MonP k0 mc ms (Kn σ) (rX_readAll_169 hb k0 mo so kk v1 v2 σ) (rX_readAll_169 hb k0 mc ms kk' v1 v2 σ) := by
  unfold rX_readAll_169
  exact Mon_bnd2 fun a c => Mon_K (Mon_nm (mon_184 hk _ _ _))
theorem mon_26 (hk : ∀ v σ, MonP k0 mc ms (Kn σ) (kk v σ) (kk' v σ)) (v1 : Int32) (σ : St) : MonP k0 mc ms (Kn σ) (rX_readAll_26 hb k0 mo so kk v1 σ) (rX_readAll_26 hb k0 mc ms kk' v1 σ) := by
  have st : ∀ x : Option (Int32 × St), MonP k0 mc ms (Kn σ) (bnd2 x fun r σ' => chk (decide (Kn σ' = Kn σ ∧ Kn σ - k0 ≤ mo ∧ 1000 * (Kn σ - k0) ≤ so)) (nm r fun v3 => rX_readAll_184 hb k0 mo so kk v1 v3 σ')) (bnd2 x fun r σ' => chk (decide (Kn σ' = Kn σ ∧ Kn σ - k0 ≤ mc ∧ 1000 * (Kn σ - k0) ≤ ms)) (nm r fun v3 => rX_readAll_184 hb k0 mc ms kk' v1 v3 σ')) := fun x => Mon_bnd2 fun a c => Mon_K (Mon_nm (mon_184 hk _ _ _))
  unfold rX_readAll_26 rX_readAll_209
  refine Mon_brc (Mon_some (Nat.le_refl _)) (Mon_chk (Mon_brc (Mon_some (Nat.le_refl _)) (Mon_chk (Mon_brc (Mon_chk (Mon_brc (Mon_chk (Mon_brc (Mon_chk (Mon_brc (Mon_chk (Mon_brc (mon_128 hk _ _ _) (Mon_chk (Mon_brc (Mon_chk (Mon_brc (mon_169 hk _ _ _) (Mon_chk (Mon_brc (mon_169 hk _ _ _) (Mon_chk (Mon_brc (st _) (mon_169 hk _ _ _))))))) (mon_128 hk _ _ _))))) (st _))) (st _))) (st _))) (st _)))))
theorem mon_lp : ∀ (f : Nat) (a : Int32 × St), MonP k0 mc ms (Kn a.2) (lp (rX_readAll_26L hb k0 mo so) f a) (lp (rX_readAll_26L hb k0 mc ms) f a)
  | 0, a => fun r hr => by cases hr
  | f + 1, a => mon_26 (kk := fun v1 σ => lp (rX_readAll_26L hb k0 mo so) f (v1, σ)) (kk' := fun v1 σ => lp (rX_readAll_26L hb k0 mc ms) f (v1, σ)) (fun v σ => mon_lp f (v, σ)) a.1 a.2
theorem mon_readAll (σ : St) : MonP k0 mc ms (Kn σ) (rX_readAll hb k0 mo so σ) (rX_readAll hb k0 mc ms σ) := by
  unfold rX_readAll
  refine Mon_bnd1 fun c => Mon_K (Mon_nm (Mon_nm (Mon_bnd1 fun c' => ?_)))
  exact Mon_K (σ := setI (setI c 7 4 0) 7 5 0) (Mon_nm (mon_lp _ _))
end
theorem readAll_again {hb : Nat} {σ : St} {r : Int32 × St} (h : rX_readAll hb (Kn σ) 2 2000 σ = some r) : rX_readAll hb (Kn σ) (Kn r.2 - Kn σ) (1000 * (Kn r.2 - Kn σ)) σ = some r ∧ Kn σ ≤ Kn r.2 := by
  have h1 := mon_readAll (hb := hb) (k0 := Kn σ) (mc := Kn r.2 - Kn σ) (ms := 1000 * (Kn r.2 - Kn σ)) (mo := 2) (so := 2000) σ r h
  exact ⟨h1.2 (Nat.le_refl _) (Nat.le_refl _), h1.1⟩
