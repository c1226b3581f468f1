/-! a drink -/
def fxD (T : Vw) (c s l m : Nat) (b : Int32) : Nat → Int32 := fun k => if k = 0 then I (T 8 c) else if k = 1 then I l else if k = 2 then I (T 1 s) else if k = 3 then I m else b
def blD (D : Vw) (c : Nat) : Int32 := balOf (fun q => I (D 0 q)) c
def drk (T D : Vw) (LD : List Nat) (c s l m : Nat) : Nat :=
  if T 5 c = 3 ∧ 0 < blD D c then 0 else if T 5 c = 1 then min (2 * (lvR (fxD T c s l m (blD D c)) LD 0 (fun _ => 0)).toNatClampNeg) l else min (lvR (fxD T c s l m (blD D c)) LD 0 (fun _ => 0)).toNatClampNeg l
theorem balOf_congr {d e : Nat → Int32} {c : Nat} (hc : c < 6) (h : ∀ q, q < 36 → d q = e q) : balOf d c = balOf e c := by
  have : ∀ j, j ≤ 6 → balUp d c j = balUp e c j := by
    intro j
    induction j with
    | zero => intro _; rfl
    | succ j ih =>
      intro hj
      unfold balUp
      rw [ih (by omega), h _ (by omega), h _ (by omega)]
  exact this 6 (by omega)
/-- the drink law in the class and in the reference -/
def wfL (LD LP : List Nat) : Prop := hOK 0 5 LD 0 ∧ LD.length ≤ 1000 ∧ hOK 5 7 LP 0 ∧ LP.length ≤ 1000
def XL (LD LP : List Nat) (σ : St) : Prop := lawok σ (σ.2.2.1 23 12) = true ∧ lawc σ (σ.2.2.1 23 12) = LD.map cX ∧ lawok σ (σ.2.2.1 23 13) = true ∧ lawc σ (σ.2.2.1 23 13) = LP.map cX
def MLw (LD LP : List Nat) (σ : St) : Prop := ((σ.1 6 6 = -1 ∧ LD = [10000]) ∨ ∃ a, a + LD.length < 1100 ∧ σ.1 6 6 = I a ∧ ML 0 σ a LD) ∧ ((σ.1 6 7 = -1 ∧ LP = [1]) ∨ ∃ a, a + LP.length < 1100 ∧ σ.1 6 7 = I a ∧ ML 5 σ a LP)
theorem clampJ {w : Int64} {l : Nat} (hl : l < 2147483648) : ((if (if ((I l).toInt64) < w then ((I l).toInt64) else w) < (0 : Int64) then (0 : Int64) else (if ((I l).toInt64) < w then ((I l).toInt64) else w)).toInt32) = I (min w.toInt.toNat l) := by
  have el : (I l).toInt64.toInt = l := by rw [Int32.toInt_toInt64, I_toInt hl]
  have e0 : (0 : Int64).toInt = 0 := rfl
  by_cases h1 : (I l).toInt64 < w
  · rw [if_pos h1]
    have h1' := Int64.lt_iff_toInt_lt.mp h1
    rw [el] at h1'
    have h2 : ¬ (I l).toInt64 < 0 := by rw [Int64.lt_iff_toInt_lt, el, e0]; omega
    rw [if_neg h2, Nat.min_eq_right (by omega)]
    apply Int32.toInt_inj.mp
    rw [I_toInt hl, Int64.toInt_toInt32, el, Int.bmod_eq_of_le (by omega) (by omega)]
  · rw [if_neg h1]
    rw [Int64.lt_iff_toInt_lt, el] at h1
    by_cases h2 : w < 0
    · rw [if_pos h2]
      rw [Int64.lt_iff_toInt_lt, e0] at h2
      rw [Nat.min_eq_left (by omega), show w.toInt.toNat = 0 by omega]
      rfl
    · rw [if_neg h2]
      rw [Int64.lt_iff_toInt_lt, e0] at h2
      apply Int32.toInt_inj.mp
      rw [I_toInt (by omega), Int64.toInt_toInt32, Int.bmod_eq_of_le (by omega) (by omega)]
      omega
theorem eX_drinkAt_124 {σ : St} {w : Int64} {l : Nat} (hl : σ.1 46 5 = I l) (h1 : l < 2147483648) : rX_drinkAt_124 w σ = some (I (min w.toInt.toNat l), setI (setI σ 46 5 (I (l - min w.toInt.toNat l))) 46 7 (σ.1 46 7 + I (min w.toInt.toNat l))) := by
  unfold rX_drinkAt_124
  simp only [nmS]
  rw [hl, clampJ h1, I_sub (Nat.min_le_right _ _), gI_ne2 _ _ _ (by decide)]
abbrev sX (σ τ : St) : Prop := frO [46, 47, 48] 49 [] σ τ
abbrev sM (σ τ : St) : Prop := frO [14, 15] 0 [30, 31, 32, 33] σ τ
theorem toNat_dbl (v : Int32) : ((2 : Int64) * v.toInt64).toInt.toNat = 2 * v.toNatClampNeg := by
  have h1 := v.toInt_lt
  have h2 := v.le_toInt
  rw [Int64.toInt_mul, Int32.toInt_toInt64, show (2 : Int64).toInt = 2 from rfl, Int.bmod_eq_of_le (by omega) (by omega)]
  show _ = 2 * v.toInt.toNat
  omega
theorem toNat_one (v : Int32) : (v.toInt64).toInt.toNat = v.toNatClampNeg := by
  rw [Int32.toInt_toInt64]
  rfl
theorem eX_drinkAt {T D : Vw} {LD LP : List Nat} {σ : St} (hw : wfT T) (hT : XMt T σ) (hD : ∀ q, q < 36 → σ.1 38 q = I (D 0 q)) (hwl : wfL LD LP) (hL : XL LD LP σ) {c s l m : Nat} (hc : c < T 0 2) (hs : s < T 0 0) (hl : σ.1 46 5 = I l) (hm : σ.1 46 6 = I m) (h1 : l < 2147483648) :
    ∃ τ, rX_drinkAt (I c) (I s) σ = some (I (drk T D LD c s l m), τ) ∧ τ.1 46 5 = I (l - drk T D LD c s l m) ∧ τ.1 46 6 = I m ∧ τ.1 46 7 = σ.1 46 7 + I (drk T D LD c s l m) ∧ τ.1 46 8 = σ.1 46 8 ∧ sX σ τ := by
  obtain ⟨w1, w2, w3, w4, w5, w6, w7, w8⟩ := hw
  obtain ⟨x1, x2, x3, x4, x5, x6, x7, x8, x9⟩ := hT
  have hc6 : c < 6 := by omega
  obtain ⟨a1, a2, a3, a4⟩ := w8 c hc
  obtain ⟨b1, b2, b3, b4⟩ := x9 c hc
  have hbal : balOf (σ.1 38) c = blD D c := balOf_congr hc6 hD
  unfold rX_drinkAt
  rw [eX_balance σ hc6, bnd2_e, nmE, chk_t (ib_I hc6 (by omega)), nmE, I_cl (by omega), b1, hbal]
  have key : ¬ (T 5 c = 3 ∧ 0 < blD D c) → ∃ τ, rX_drinkAt_32 (I c) (I s) (blD D c) (I (T 5 c)) σ = some (I (drk T D LD c s l m), τ) ∧ τ.1 46 5 = I (l - drk T D LD c s l m) ∧ τ.1 46 6 = I m ∧ τ.1 46 7 = σ.1 46 7 + I (drk T D LD c s l m) ∧ τ.1 46 8 = σ.1 46 8 ∧ sX σ τ := by
    intro hn
    unfold rX_drinkAt_32
    simp only [nmS]
    rw [chk_t (ib_I hc6 (by omega)), show ib (0 : Int32) 7 = true from rfl, show ib (1 : Int32) 7 = true from rfl, show ib (2 : Int32) 7 = true from rfl, show ib (3 : Int32) 7 = true from rfl, show ib (4 : Int32) 7 = true from rfl, chk_t (ib_I (by omega) (by omega))]
    simp only [chkS]
    rw [I_cl (by omega), I_cl (by omega), show (0 : Int32).toNatClampNeg = 0 from rfl, show (1 : Int32).toNatClampNeg = 1 from rfl, show (2 : Int32).toNatClampNeg = 2 from rfl, show (3 : Int32).toNatClampNeg = 3 from rfl, show (4 : Int32).toNatClampNeg = 4 from rfl]
    simp (disch := decide) only [gI_ne1]
    rw [b4, hl, hm, (x7 s hs).1]
    generalize hσ1 : setI (setI (setI (setI (setI σ 47 0 (I (T 8 c))) 47 1 (I l)) 47 2 (I (T 1 s))) 47 3 (I m)) 47 4 (blD D c) = σ1
    have f1 : sX σ σ1 := by
      rw [← hσ1]
      exact frO_c (frO_c (frO_c (frO_c (frO_c frO_refl _ (by decide) (by decide)) _ (by decide) (by decide)) _ (by decide) (by decide)) _ (by decide) (by decide)) _ (by decide) (by decide)
    have h2 : σ1.2 = σ.2 := f1.2.2
    have h46 : σ1.1 46 = σ.1 46 := by rw [← hσ1]; simp (disch := decide) only [gI_ne1]
    have hfx : ∀ k, 0 ≤ k → k < 5 → σ1.1 47 k = fxD T c s l m (blD D c) k := by
      intro k _ hk
      have : k = 0 ∨ k = 1 ∨ k = 2 ∨ k = 3 ∨ k = 4 := by omega
      rw [← hσ1]
      rcases this with rfl | rfl | rfl | rfl | rfl
      · rw [gI_ne2 _ _ _ (by decide), gI_ne2 _ _ _ (by decide), gI_ne2 _ _ _ (by decide), gI_ne2 _ _ _ (by decide), gI_same]; rfl
      · rw [gI_ne2 _ _ _ (by decide), gI_ne2 _ _ _ (by decide), gI_ne2 _ _ _ (by decide), gI_same]; rfl
      · rw [gI_ne2 _ _ _ (by decide), gI_ne2 _ _ _ (by decide), gI_same]; rfl
      · rw [gI_ne2 _ _ _ (by decide), gI_same]; rfl
      · rw [gI_same]; rfl
    have e12 : σ1.2.2.1 23 12 = σ.2.2.1 23 12 := by rw [h2]
    have eok : lawok σ1 (σ1.2.2.1 23 12) = true := by
      rw [e12]
      have : lawok σ1 (σ.2.2.1 23 12) = lawok σ (σ.2.2.1 23 12) := by unfold lawok Kn; rw [h2]
      rw [this]; exact hL.1
    have ec : lawc σ1 (σ1.2.2.1 23 12) = LD.map cX := by
      rw [e12]
      have : lawc σ1 (σ.2.2.1 23 12) = lawc σ (σ.2.2.1 23 12) := by unfold lawc; rw [h2]
      rw [this]; exact hL.2.1
    obtain ⟨g, hg⟩ := eX_valueOf (by decide) eok hwl.1 hwl.2.1 ec
    rw [hg, bnd2_e, lvR_congr (by decide) hfx LD 0 _ (fun _ => 0) hwl.1 (fun _ _ => rfl)]
    generalize hv : lvR (fxD T c s l m (blD D c)) LD 0 (fun _ => 0) = v
    have hl2 : (setR σ1 48 g).1 46 5 = I l := by rw [setR_ne _ _ (by decide), h46]; exact hl
    have f2 : sX σ (setR σ1 48 g) := frO_R f1 _ (by decide) (by decide)
    have fin : ∀ w : Int64, min w.toInt.toNat l = drk T D LD c s l m → ∃ τ, rX_drinkAt_124 w (setR σ1 48 g) = some (I (drk T D LD c s l m), τ) ∧ τ.1 46 5 = I (l - drk T D LD c s l m) ∧ τ.1 46 6 = I m ∧ τ.1 46 7 = σ.1 46 7 + I (drk T D LD c s l m) ∧ τ.1 46 8 = σ.1 46 8 ∧ sX σ τ := by
      intro w hww
      rw [eX_drinkAt_124 hl2 h1, hww]
      refine ⟨_, rfl, ?_, ?_, ?_, ?_, ?_⟩
      · rw [gI_ne2 _ _ _ (by decide), gI_same]
      · rw [gI_ne2 _ _ _ (by decide), gI_ne2 _ _ _ (by decide), setR_ne _ _ (by decide), h46]; exact hm
      · rw [gI_same, setR_ne _ _ (by decide), h46]
      · rw [gI_ne2 _ _ _ (by decide), gI_ne2 _ _ _ (by decide), setR_ne _ _ (by decide), h46]
      · exact frO_c (frO_c f2 _ (by decide) (by decide)) _ (by decide) (by decide)
    by_cases k1 : T 5 c = 1
    · rw [brc_f (show ¬ ¬ I (T 5 c) = 1 by rw [k1]; exact fun h => h rfl)]
      refine fin _ ?_
      unfold drk
      rw [if_neg hn, if_pos k1, hv, toNat_dbl]
    · rw [brc_t (show ¬ I (T 5 c) = 1 by rw [litN, I_inj (by omega) (by omega)]; exact k1)]
      refine fin _ ?_
      unfold drk
      rw [if_neg hn, if_neg k1, hv, toNat_one]
  by_cases k3 : T 5 c = 3
  · rw [brc_f (show ¬ ¬ I (T 5 c) = 3 by rw [k3]; exact fun h => h rfl)]
    by_cases hb : 0 < blD D c
    · rw [brc_f (not_le32.mpr hb)]
      have e : drk T D LD c s l m = 0 := if_pos ⟨k3, hb⟩
      rw [e]
      refine ⟨σ, rfl, hl, hm, ?_, rfl, frO_refl⟩
      rw [show I 0 = (0 : Int32) from rfl, Int32.add_zero]
    · rw [brc_t (not_lt32.mp hb)]
      exact key (fun h => hb h.2)
  · rw [brc_t (show ¬ I (T 5 c) = 3 by rw [litN, I_inj (by omega) (by omega)]; exact k3)]
    exact key (fun h => k3 h.1)
theorem eM_drinksAt_168 {σ : St} {n l : Nat} (hl : σ.1 0 30 = I l) (hn : n ≤ l) : rM_drinksAt_168 (I n) σ = some (I n, setI (setI σ 0 30 (I (l - n))) 0 32 (σ.1 0 32 + I n)) := by
  unfold rM_drinksAt_168
  simp only [nmS]
  rw [hl, I_sub hn, gI_ne2 _ _ _ (by decide)]
theorem eM_drinksAt_116 {σ : St} {c n l k : Nat} (hc : c < 6) (hk : σ.1 6 (120 + 4 * c) = I k) (hk2 : k < 2147483648) (hl : σ.1 0 30 = I l) (h1 : l < 1000000) (hn : n < 2147483648) : ∃ d, d = (if k = 1 then min (2 * n) l else min n l) ∧ rM_drinksAt_116 (I c) (I n) σ = some (I d, setI (setI σ 0 30 (I (l - d))) 0 32 (σ.1 0 32 + I d)) := by
  refine ⟨_, rfl, ?_⟩
  unfold rM_drinksAt_116 rM_drinksAt_133 rM_drinksAt_151
  simp only [nmS, litN]
  rw [eM_carrierOf σ hc (by omega), bnd2_e, bnd2_e, Nat.add_zero, hk, hl, I_mul, I_mul]
  by_cases e1 : n ≤ l
  · rw [brc_t (show I n ≤ I l by rw [I_le hn (by omega)]; exact e1)]
    by_cases e2 : k = 1
    · rw [brc_f (show ¬ ¬ I k = I 1 by rw [e2]; exact fun h => h rfl), if_pos e2]
      by_cases e3 : 2 * n ≤ l
      · rw [brc_t (show I (2 * n) ≤ I l by rw [I_le (by omega) (by omega)]; exact e3), Nat.min_eq_left e3]
        exact eM_drinksAt_168 hl e3
      · rw [brc_f (show ¬ I (2 * n) ≤ I l by rw [I_le (by omega) (by omega)]; exact e3), Nat.min_eq_right (by omega)]
        exact eM_drinksAt_168 hl (by omega)
    · rw [brc_t (show ¬ I k = I 1 by rw [I_inj hk2 (by omega)]; exact e2), if_neg e2, brc_t (show I n ≤ I l by rw [I_le hn (by omega)]; exact e1), Nat.min_eq_left e1]
      exact eM_drinksAt_168 hl e1
  · rw [brc_f (show ¬ I n ≤ I l by rw [I_le hn (by omega)]; exact e1)]
    have em : (if k = 1 then min (2 * n) l else min n l) = l := by split <;> omega
    rw [em]
    by_cases e2 : k = 1
    · rw [brc_f (show ¬ ¬ I k = I 1 by rw [e2]; exact fun h => h rfl)]
      by_cases e3 : 2 * l ≤ l
      · rw [brc_t (show I (2 * l) ≤ I l by rw [I_le (by omega) (by omega)]; exact e3), show 2 * l = l by omega]
        exact eM_drinksAt_168 hl (by omega)
      · rw [brc_f (show ¬ I (2 * l) ≤ I l by rw [I_le (by omega) (by omega)]; exact e3)]
        exact eM_drinksAt_168 hl (by omega)
    · rw [brc_t (show ¬ I k = I 1 by rw [I_inj hk2 (by omega)]; exact e2), brc_t (show I l ≤ I l by rw [I_le (by omega) (by omega)]; omega)]
      exact eM_drinksAt_168 hl (by omega)
theorem eM_drinksAt {T D : Vw} {LD LP : List Nat} {σ : St} (hw : wfT T) (hT : MT T σ) (hD : ∀ q, q < 36 → σ.1 16 q = I (D 0 q)) (hwl : wfL LD LP) (hL : MLw LD LP σ) {c s l m : Nat} (hc : c < T 0 2) (hs : s < T 0 0) (hl : σ.1 0 30 = I l) (hm : σ.1 0 31 = I m) (h1 : l < 1000000) :
    ∃ τ, rM_drinksAt (I c) (I s) σ = some (I (drk T D LD c s l m), τ) ∧ τ.1 0 30 = I (l - drk T D LD c s l m) ∧ τ.1 0 31 = I m ∧ τ.1 0 32 = σ.1 0 32 + I (drk T D LD c s l m) ∧ τ.1 0 33 = σ.1 0 33 ∧ sM σ τ := by
  obtain ⟨w1, w2, w3, w4, w5, w6, w7, w8⟩ := hw
  obtain ⟨x1, x2, x3, x4, x5, x6, x7, x8, x9⟩ := hT
  have hc6 : c < 6 := by omega
  obtain ⟨a1, a2, a3, a4⟩ := w8 c hc
  obtain ⟨b1, b2, b3, b4⟩ := x9 c hc
  have key : ∀ (v : Int32) (σ1 : St), sM σ σ1 → σ1.1 0 30 = I l → σ1.1 0 31 = I m → σ1.1 0 32 = σ.1 0 32 → σ1.1 0 33 = σ.1 0 33 → v = lvR (fxD T c s l m (blD D c)) LD 0 (fun _ => 0) → ∃ τ, rM_drinksAt_89 (I c) v σ1 = some (I (drk T D LD c s l m), τ) ∧ τ.1 0 30 = I (l - drk T D LD c s l m) ∧ τ.1 0 31 = I m ∧ τ.1 0 32 = σ.1 0 32 + I (drk T D LD c s l m) ∧ τ.1 0 33 = σ.1 0 33 ∧ sM σ τ := by
    intro v σ1 f1 g1 g2 g3 g4 hv
    have e6 : σ1.1 6 = σ.1 6 := f1.1 6 (by decide) (by decide)
    have e16 : σ1.1 16 = σ.1 16 := f1.1 16 (by decide) (by decide)
    have hbal : balOf (σ1.1 16) c = blD D c := by rw [e16]; exact balOf_congr hc6 hD
    have hk : σ1.1 6 (120 + 4 * c) = I (T 5 c) := by rw [e6]; exact b1
    have fin : ∀ n, n < 2147483648 → (if T 5 c = 1 then min (2 * n) l else min n l) = drk T D LD c s l m → ∃ τ, rM_drinksAt_116 (I c) (I n) σ1 = some (I (drk T D LD c s l m), τ) ∧ τ.1 0 30 = I (l - drk T D LD c s l m) ∧ τ.1 0 31 = I m ∧ τ.1 0 32 = σ.1 0 32 + I (drk T D LD c s l m) ∧ τ.1 0 33 = σ.1 0 33 ∧ sM σ τ := by
      intro n hn hnn
      obtain ⟨d, hd, he⟩ := eM_drinksAt_116 hc6 hk (by omega) g1 h1 hn
      rw [hnn] at hd
      subst hd
      refine ⟨_, he, ?_, ?_, ?_, ?_, ?_⟩
      · rw [gI_ne2 _ _ _ (by decide), gI_same]
      · rw [gI_ne2 _ _ _ (by decide), gI_ne2 _ _ _ (by decide)]; exact g2
      · rw [gI_same, g3]
      · rw [gI_ne2 _ _ _ (by decide), gI_ne2 _ _ _ (by decide)]; exact g4
      · exact frO_f (frO_f f1 _ (by decide)) _ (by decide)
    have f107 : ¬ (T 5 c = 3 ∧ 0 < blD D c) → ∃ τ, rM_drinksAt_107 (I c) v σ1 = some (I (drk T D LD c s l m), τ) ∧ τ.1 0 30 = I (l - drk T D LD c s l m) ∧ τ.1 0 31 = I m ∧ τ.1 0 32 = σ.1 0 32 + I (drk T D LD c s l m) ∧ τ.1 0 33 = σ.1 0 33 ∧ sM σ τ := by
      intro hn
      have ed : drk T D LD c s l m = if T 5 c = 1 then min (2 * v.toNatClampNeg) l else min v.toNatClampNeg l := by
        unfold drk; rw [if_neg hn, ← hv]
      unfold rM_drinksAt_107 rM_drinksAt_111
      by_cases h0 : 0 ≤ v
      · rw [brc_t h0]
        obtain ⟨n, rfl, hn2⟩ := I_of h0
        refine fin n hn2 ?_
        rw [ed, I_cl hn2]
      · rw [brc_f h0]
        refine fin 0 (by omega) ?_
        have : v.toNatClampNeg = 0 := by
          rw [Int32.le_iff_toInt_le, show (0 : Int32).toInt = 0 from rfl] at h0
          show v.toInt.toNat = 0
          omega
        rw [ed, this]
    unfold rM_drinksAt_89
    simp only [litN]
    rw [eM_carrierOf _ hc6 (by omega), bnd2_e, Nat.add_zero, hk, eM_debtOf _ hc6, bnd2_e, hbal]
    by_cases k3 : T 5 c = 3
    · rw [brc_f (show ¬ ¬ I (T 5 c) = I 3 by rw [k3]; exact fun h => h rfl)]
      by_cases hb : 0 < blD D c
      · rw [brc_t (show I 0 < blD D c from hb)]
        refine fin 0 (by omega) ?_
        unfold drk
        rw [if_pos (show T 5 c = 3 ∧ 0 < blD D c from ⟨k3, hb⟩)]
        split <;> omega
      · rw [brc_f (show ¬ I 0 < blD D c from hb)]
        exact f107 (fun h => hb h.2)
    · rw [brc_t (show ¬ I (T 5 c) = I 3 by rw [I_inj (by omega) (by omega)]; exact k3)]
      exact f107 (fun h => k3 h.1)
  unfold rM_drinksAt
  simp only [nmS]
  rw [show (3 : Int32) = I 3 from rfl, eM_carrierOf _ hc6 (by omega), bnd2_e, show ib (6 : Int32) 320 = true from rfl, chk_e, show (6 : Int32).toNatClampNeg = 6 from rfl, b4]
  rcases hL.1 with ⟨hn, hl1⟩ | ⟨a, ha, hn, hl1⟩
  · rw [hn, brc_t (by decide)]
    exact key _ σ frO_refl hl hm rfl rfl (by rw [hl1]; rfl)
  · rw [hn, brc_f (show ¬ I a < 0 by rw [I0, I_lt (by omega) (by omega)]; omega), eM_carrierOf _ hc6 (by omega), bnd2_e, b4]
    rw [show ib (0 : Int32) 5 = true from rfl, show ib (1 : Int32) 5 = true from rfl, show ib (2 : Int32) 5 = true from rfl, show ib (I 3) 5 = true from rfl, show ib (4 : Int32) 5 = true from rfl]
    simp only [chkS, litN, I_mul, I_add]
    rw [chk_t (ib_I (by omega) (by omega)), I_cl (show 8 + 2 * s < 2147483648 by omega), show (I 0).toNatClampNeg = 0 from rfl, show (I 1).toNatClampNeg = 1 from rfl, show (I 2).toNatClampNeg = 2 from rfl, show (I 3).toNatClampNeg = 3 from rfl, show (I 4).toNatClampNeg = 4 from rfl]
    simp (disch := decide) only [gI_ne1]
    rw [hl, hm, (x7 s hs).1, eM_debtOf _ hc6, bnd2_e]
    simp (disch := decide) only [gI_ne1]
    rw [show balOf (σ.1 16) c = blD D c from balOf_congr hc6 hD, hn]
    generalize hσ1 : setI (setI (setI (setI (setI σ 14 0 (I (T 8 c))) 14 1 (I l)) 14 2 (I (T 1 s))) 14 3 (I m)) 14 4 (blD D c) = σ1
    have f1 : sM σ σ1 := by
      rw [← hσ1]
      exact frO_c (frO_c (frO_c (frO_c (frO_c frO_refl _ (by decide) (by decide)) _ (by decide) (by decide)) _ (by decide) (by decide)) _ (by decide) (by decide)) _ (by decide) (by decide)
    have h0 : σ1.1 0 = σ.1 0 := by rw [← hσ1]; simp (disch := decide) only [gI_ne1]
    have hfx : ∀ k, 0 ≤ k → k < 5 → σ1.1 14 (k - 0) = fxD T c s l m (blD D c) k := by
      intro k _ hk
      have : k = 0 ∨ k = 1 ∨ k = 2 ∨ k = 3 ∨ k = 4 := by omega
      rw [← hσ1]
      rcases this with rfl | rfl | rfl | rfl | rfl
      · rw [gI_ne2 _ _ _ (by decide), gI_ne2 _ _ _ (by decide), gI_ne2 _ _ _ (by decide), gI_ne2 _ _ _ (by decide), gI_same]; rfl
      · rw [gI_ne2 _ _ _ (by decide), gI_ne2 _ _ _ (by decide), gI_ne2 _ _ _ (by decide), gI_same]; rfl
      · rw [gI_ne2 _ _ _ (by decide), gI_ne2 _ _ _ (by decide), gI_same]; rfl
      · rw [gI_ne2 _ _ _ (by decide), gI_same]; rfl
      · rw [gI_same]; rfl
    have hml : ML 0 σ1 a LD := ML_fr (f1.1 8 (by decide) (by decide)) (f1.1 9 (by decide) (by decide)) LD a hl1
    obtain ⟨g, hg⟩ := eM_worthAt (σ := σ1) (by decide) (by decide) (by decide) hwl.1 hwl.2.1 hml
    rw [hg, bnd2_e]
    refine key _ _ (frO_R f1 _ (by decide) (by decide)) ?_ ?_ ?_ ?_ ?_
    · rw [setR_ne _ _ (by decide), h0]; exact hl
    · rw [setR_ne _ _ (by decide), h0]; exact hm
    · rw [setR_ne _ _ (by decide), h0]
    · rw [setR_ne _ _ (by decide), h0]
    · exact lvR_congr (by decide) hfx LD 0 _ (fun _ => 0) hwl.1 (fun _ _ => rfl)
