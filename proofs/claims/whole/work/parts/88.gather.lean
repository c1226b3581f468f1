/-! fog and falls, the book -/
abbrev J (n : Nat) : Int64 := Int64.ofNat n
theorem Jn_toInt {n : Nat} (h : n < 9223372036854775808) : (J n).toInt = n := by
  rw [Int64.toInt_ofNat', show Int64.size = 18446744073709551616 from rfl, Int.bmod_eq_of_le (by omega) (by omega)]
theorem Jn_add (a b : Nat) : J a + J b = J (a + b) := (Int64.ofNat_add _ _).symm
theorem Jn_mul (a b : Nat) : J a * J b = J (a * b) := (Int64.ofNat_mul _ _).symm
theorem Jn_sub {a b : Nat} (h : b ≤ a) : J a - J b = J (a - b) := by
  have e : J a = J (a - b) + J b := by rw [Jn_add]; congr 1; omega
  rw [e]
  exact Int64.add_sub_cancel _ _
theorem Jn_div {a b : Nat} (ha : a < 9223372036854775808) (hb : b < 9223372036854775808) : J a / J b = J (a / b) := by
  apply Int64.toInt_inj.mp
  have h1 : a / b ≤ a := Nat.div_le_self a b
  have e : ((a / b : Nat) : Int) = (a : Int).tdiv (b : Int) := Int.ofNat_tdiv a b
  rw [Int64.toInt_div, Jn_toInt ha, Jn_toInt hb, Jn_toInt (by omega), ← e]
  clear e
  generalize a / b = q at *
  apply Int.bmod_eq_of_le
  · omega
  · omega
theorem Jn_mod {a b : Nat} (ha : a < 9223372036854775808) (hb : b < 9223372036854775808) : J a - J a / J b * J b = J (a % b) := by
  have h1 : a / b * b ≤ a := Nat.div_mul_le_self a b
  rw [Jn_div ha hb, Jn_mul, Jn_sub h1]
  congr 1
  have := Nat.div_add_mod a b
  rw [Nat.mul_comm] at this
  omega
theorem Jn_I {n : Nat} (h : n < 2147483648) : (J n).toInt32 = I n := by
  rw [show J n = (I n).toInt64 from (I_J h).symm]
  apply Int32.toInt_inj.mp
  rw [Int64.toInt_toInt32, Int32.toInt_toInt64, I_toInt h, Int.bmod_eq_of_le (by omega) (by omega)]
theorem litJ (n : Nat) : (@OfNat.ofNat Int64 n Int64.instOfNat) = J (@OfNat.ofNat Nat n (instOfNatNat n)) := by
  apply Int64.toBitVec_inj.mp
  rfl
def nxG (g : Nat) : Nat := (g * 1103515245 + 12345) % 2147483648
theorem nxG_lt (g : Nat) : nxG g < 2147483648 := Nat.mod_lt _ (by omega)
theorem eX_draw {σ : St} {g : Nat} (hg : g < 2147483648) (h : σ.2.1 33 3 = J g) : rX_drawBelowFour σ = some (I (nxG g / 65536 % 4), setJ σ 33 3 (J (nxG g))) := by
  have hl := nxG_lt g
  unfold rX_drawBelowFour
  rw [chk_t (by decide), nmE, chk_t (by decide), chk_t (by decide), gJ_same, h]
  simp only [litJ, Jn_mul, Jn_add]
  rw [Jn_mod (by omega) (by omega), show (g * 1103515245 + 12345) % 2147483648 = nxG g from rfl, Jn_div (by omega) (by omega), Jn_mod (by omega) (by omega), Jn_I (by omega)]
theorem eM_draw {σ : St} {g : Nat} (hg : g < 2147483648) (h : σ.1 16 37 = I g) : rM_draw 4 σ = some (I (nxG g / 65536 % 4), setI σ 16 37 (I (nxG g))) := by
  have hl := nxG_lt g
  unfold rM_draw
  rw [show ib (37 : Int32) 6000 = true from rfl, chk_e, chk_t (by decide), show (37 : Int32).toNatClampNeg = 37 from rfl, nmE, chk_e, nmE, chk_t (by decide), chk_t (by decide), h, I_J hg, show (4 : Int32).toInt64 = J 4 from by decide]
  simp only [litJ, Jn_mul, Jn_add]
  rw [Jn_mod (by omega) (by omega), show (g * 1103515245 + 12345) % 2147483648 = nxG g from rfl, Jn_div (by omega) (by omega), Jn_mod (by omega) (by omega), Jn_I (by omega), Jn_I (by omega)]
/-- what the fog drops, and the next g -/
def fgD (T D : Vw) (c s : Nat) : Nat := if T 0 3 ≤ T 1 s then nxG (D 4 1) / 65536 % 4 + (if T 5 c = 5 then 1 else 0) else 0
def fgG (T D : Vw) (s : Nat) : Nat := if T 0 3 ≤ T 1 s then nxG (D 4 1) else D 4 1
def gtL (T D : Vw) (c s l : Nat) : Nat := min (l + fgD T D c s) (hol T c)
def gtF (T D : Vw) (c s l : Nat) : Nat := min (D 3 s) (hol T c - gtL T D c s l)
def gtV (T D : Vw) (c s l : Nat) : Vw := upV (upV D 3 s (D 3 s - gtF T D c s l)) 4 1 (fgG T D s)
theorem gtV_o (T D : Vw) (c s l : Nat) : ∀ a b, ¬ a = 3 → ¬ (a = 4 ∧ b = 1) → gtV T D c s l a b = D a b := fun a b h1 h2 => by
  unfold gtV upV
  rw [if_neg h2, if_neg (fun h => h1 h.1)]
theorem gtV_g (T D : Vw) (c s l : Nat) : gtV T D c s l 4 1 = fgG T D s := by
  unfold gtV upV
  rw [if_pos ⟨rfl, rfl⟩]
theorem gtV_3 (T D : Vw) (c s l x : Nat) : gtV T D c s l 3 x = if x = s then D 3 s - gtF T D c s l else D 3 x := by
  unfold gtV upV
  rw [if_neg (show ¬ ((3 : Nat) = 4 ∧ x = 1) by omega)]
  by_cases e : x = s
  · rw [if_pos ⟨rfl, e⟩, if_pos e]
  · rw [if_neg (fun h => e h.2), if_neg e]
def wrV (D : Vw) (c s n : Nat) : Vw := if 0 < n ∧ D 4 2 < 60 then upV (upV (upV (upV D 6 (D 4 2) c) 7 (D 4 2) s) 8 (D 4 2) n) 4 2 (D 4 2 + 1) else D
def vX (σ τ : St) : Prop := (∀ i, i ∉ [33, 34, 39, 40, 41, 46, 47, 48] → τ.1 i = σ.1 i) ∧ (∀ i, i ≠ 33 → τ.2.1 i = σ.2.1 i) ∧ τ.2.2 = σ.2.2
theorem vX_tr {σ τ υ : St} (h1 : vX σ τ) (h2 : vX τ υ) : vX σ υ := ⟨fun i h => (h2.1 i h).trans (h1.1 i h), fun i h => (h2.2.1 i h).trans (h1.2.1 i h), h2.2.2.trans h1.2.2⟩
theorem vX_s {σ τ : St} (h : sX σ τ) : vX σ τ := ⟨fun i hi => by
    by_cases e : i = 49
    · rw [e]; funext j; exact h.2.1 j (List.not_mem_nil)
    · exact h.1 i (by simp at hi ⊢; omega) e, fun i _ => by rw [h.2.2], by rw [h.2.2]⟩
theorem WX_v {T D R : Vw} {LD LP : List Nat} {σ τ : St} (h : vX σ τ) (hx : WX T D R LD LP σ) : WX T D R LD LP τ :=
  WX_fr (fun i h1 h2 => h.1 i (by simp; omega)) (h.1 37 (by decide)) (h.1 38 (by decide)) (by rw [h.1 42 (by decide)]) (h.1 43 (by decide)) (h.1 44 (by decide)) h.2.2 hx
theorem eX_gather_68 {σ : St} {s h l f : Nat} (hs : s < 7) (hl : σ.1 46 5 = I l) (hf : σ.1 34 s = I f) (hlh : l ≤ h) (hh : h < 100000) (hff : f < 100000) : rX_gather_68 (I s) (I h) σ = some (setI (setI σ 34 s (I (f - min f (h - l)))) 46 5 (I (l + min f (h - l)))) := by
  unfold rX_gather_68
  rw [chk_t (ib_I hs (by omega)), nmE, chk_t (ib_I hs (by omega)), chk_t (ib_I hs (by omega)), nmE, nmE, I_cl (by omega), hl, hf, I_sub hlh, I_min (by omega) (by omega), Nat.min_comm (h - l) f, I_sub (Nat.min_le_left _ _), gI_ne1 _ _ _ (show (46 : Nat) ≠ 34 by decide), hl, I_add]
theorem eX_gather {T D : Vw} {σ : St} (hw : wfT T) (hT : XMt T σ) (hd : wfD (T 0 0) D) (hD : XD 33 (T 0 0) D σ) {c s l : Nat} (hc : c < T 0 2) (hs : s < T 0 0) (hl : σ.1 46 5 = I l) (hlh : l ≤ hol T c) :
    ∃ τ, rX_gather (I c) (I s) σ = some τ ∧ τ.1 46 5 = I (gtL T D c s l + gtF T D c s l) ∧ (∀ j, j ≠ 5 → τ.1 46 j = σ.1 46 j) ∧ XD 33 (T 0 0) (gtV T D c s l) τ ∧ vX σ τ := by
  have h7 := hw.1
  have h6 := hw.2.1
  have hh := hol_le hw hc
  have hT1 := (hw.2.2.2.2.2.1 s hs).1
  have hk := (hw.2.2.2.2.2.2.2 c hc).1
  have hg := hd.2.2.1
  have h9 := hd.2.2.2.2.2 s hs
  obtain ⟨y1, y2, y3, y4, y5, y6, y7, y8, y9, y10, y11⟩ := hD
  unfold rX_gather
  rw [eX_holdsT hw hT hc, bnd2_e, nmE, chk_t (ib_I (show s < 7 by omega) (by omega)), I_cl (by omega), (hT.2.2.2.2.2.2.1 s hs).1, hT.2.2.2.1]
  have fin : ∀ (σ1 : St) (l1 : Nat), σ1.1 46 5 = I l1 → l1 = gtL T D c s l → (∀ i, i ≠ 46 → σ1.1 i = σ.1 i) → (∀ j, j ≠ 5 → σ1.1 46 j = σ.1 46 j) → σ1.2.1 33 3 = J (fgG T D s) → (∀ i, i ≠ 33 → σ1.2.1 i = σ.2.1 i) → σ1.2.2 = σ.2.2 → ∃ τ, rX_gather_68 (I s) (I (hol T c)) σ1 = some τ ∧ τ.1 46 5 = I (gtL T D c s l + gtF T D c s l) ∧ (∀ j, j ≠ 5 → τ.1 46 j = σ.1 46 j) ∧ XD 33 (T 0 0) (gtV T D c s l) τ ∧ vX σ τ := by
    intro σ1 l1 g1 el gi gj g3 gq g22
    have hl1 : l1 ≤ hol T c := by rw [el]; unfold gtL; exact Nat.min_le_right _ _
    have e34 : σ1.1 34 s = I (D 3 s) := by rw [gi 34 (by decide)]; exact y10 s hs
    have ef : min (D 3 s) (hol T c - l1) = gtF T D c s l := by unfold gtF; rw [el]
    rw [eX_gather_68 (show s < 7 by omega) g1 e34 hl1 (by omega) (by omega), ef, el]
    have k : ∀ i, i ≠ 34 → i ≠ 46 → (setI (setI σ1 34 s (I (D 3 s - gtF T D c s l))) 46 5 (I (gtL T D c s l + gtF T D c s l))).1 i = σ.1 i := fun i h1 h2 => by
      rw [gI_ne1 _ _ _ h2, gI_ne1 _ _ _ h1, gi i h2]
    have o1 := gtV_o T D c s l
    have o2 := gtV_g T D c s l
    have o3 := gtV_3 T D c s l
    generalize gtV T D c s l = D' at o1 o2 o3 ⊢
    generalize gtL T D c s l + gtF T D c s l = lz at k ⊢
    generalize gtF T D c s l = fz at k o3 ⊢
    refine ⟨_, rfl, gI_same _ _ _ _, fun j hj => ?_, ⟨?_, ?_, ?_, ?_, ?_, ?_, ?_, ?_, ?_, ?_, ?_⟩, ?_, ?_, ?_⟩
    · rw [gI_ne2 _ _ _ hj, gI_ne1 _ _ _ (by decide), gj j hj]
    · intro q hq
      rw [k 38 (by decide) (by decide), o1 0 q (by omega) (by omega)]; exact y1 q hq
    · rw [k 37 (by decide) (by decide), o1 4 5 (by omega) (by omega)]; exact y2
    · rw [k 35 (by decide) (by decide), o1 4 6 (by omega) (by omega)]; exact y3
    · rw [o2]; exact g3
    · rw [k 33 (by decide) (by decide), o1 4 3 (by omega) (by omega)]; exact y5
    · rw [k 33 (by decide) (by decide), o1 4 4 (by omega) (by omega)]; exact y6
    · rw [k 33 (by decide) (by decide), o1 4 0 (by omega) (by omega)]; exact y7
    · rw [k 33 (by decide) (by decide), o1 4 2 (by omega) (by omega)]; exact y8
    · intro i hi
      rw [o1 4 2 (by omega) (by omega)] at hi
      rw [k 39 (by decide) (by decide), k 40 (by decide) (by decide), k 41 (by decide) (by decide), o1 6 i (by omega) (by omega), o1 7 i (by omega) (by omega), o1 8 i (by omega) (by omega)]; exact y9 i hi
    · intro s' hs'
      rw [o3, gI_ne1 _ _ _ (show (33 + 1 : Nat) ≠ 46 by decide)]
      by_cases e : s' = s
      · rw [if_pos e, e, gI_same]
      · rw [if_neg e, gI_ne2 _ _ _ e, gi 34 (by decide)]; exact y10 s' hs'
    · intro x hx
      rw [k 36 (by decide) (by decide), o1 5 x (by omega) (by omega)]; exact y11 x hx
    · exact fun i hi => k i (by simp at hi; omega) (by simp at hi; omega)
    · exact gq
    · exact g22
  by_cases hfog : T 0 3 ≤ T 1 s
  · rw [brc_f (show ¬ I (T 1 s) < I (T 0 3) by have := hw.2.2.1; rw [I_lt (by omega) (by omega)]; omega), eX_draw hg y4, bnd2_e, nmE, chk_t (ib_I (show c < 6 by omega) (by omega)), I_cl (by omega), gJ_1, (hT.2.2.2.2.2.2.2.2 c hc).1]
    have eg : fgG T D s = nxG (D 4 1) := by unfold fgG; rw [if_pos hfog]
    have f53 : ∀ d, d < 100 → d = fgD T D c s → ∃ τ, rX_gather_53 (I s) (I (hol T c)) (I d) (setJ σ 33 3 (J (nxG (D 4 1)))) = some τ ∧ τ.1 46 5 = I (gtL T D c s l + gtF T D c s l) ∧ (∀ j, j ≠ 5 → τ.1 46 j = σ.1 46 j) ∧ XD 33 (T 0 0) (gtV T D c s l) τ ∧ vX σ τ := by
      intro d hd1 hd2
      unfold rX_gather_53
      rw [nmE, gJ_1, hl, I_add, I_min (by omega) (by omega)]
      exact fin _ _ (gI_same _ _ _ _) (by unfold gtL; rw [hd2]) (fun i hi => by rw [gI_ne1 _ _ _ hi, gJ_1]) (fun j hj => by rw [gI_ne2 _ _ _ hj, gJ_1]) (by rw [gI_2, gJ_same, eg]) (fun i hi => by rw [gI_2, gJ_ne1 _ _ _ hi]) rfl
    have h4 : nxG (D 4 1) / 65536 % 4 < 4 := Nat.mod_lt _ (by omega)
    by_cases k5 : T 5 c = 5
    · rw [brc_f (show ¬ ¬ I (T 5 c) = 5 by rw [k5]; exact fun h => h rfl), nmE, oi1, I_add]
      exact f53 _ (by omega) (by unfold fgD; rw [if_pos hfog, if_pos k5])
    · rw [brc_t (show ¬ I (T 5 c) = 5 by rw [litN, I_inj (by omega) (by omega)]; exact k5)]
      exact f53 _ (by omega) (by unfold fgD; rw [if_pos hfog, if_neg k5, Nat.add_zero])
  · rw [brc_t (show I (T 1 s) < I (T 0 3) by have := hw.2.2.1; rw [I_lt (by omega) (by omega)]; omega)]
    refine fin σ l hl ?_ (fun _ _ => rfl) (fun _ _ => rfl) ?_ (fun _ _ => rfl) rfl
    · unfold gtL fgD; rw [if_neg hfog, Nat.add_zero, Nat.min_eq_left hlh]
    · unfold fgG; rw [if_neg hfog]; exact y4
theorem eX_write {n : Nat} {D : Vw} {σ : St} (hd : wfD n D) (hD : XD 33 n D σ) {c s m : Nat} (hm : m < 100000) : ∃ τ, rX_write (I c) (I s) (I m) σ = some τ ∧ XD 33 n (wrV D c s m) τ ∧ (∀ i, i ∉ [33, 39, 40, 41] → τ.1 i = σ.1 i) ∧ τ.2 = σ.2 := by
  have h60 := hd.2.2.2.1
  obtain ⟨y1, y2, y3, y4, y5, y6, y7, y8, y9, y10, y11⟩ := hD
  unfold rX_write rX_write_53 wrV
  by_cases h0 : 0 < m
  · rw [brc_f (show ¬ I m ≤ 0 by rw [I0, I_le (by omega) (by omega)]; omega), y8]
    by_cases hf : D 4 2 < 60
    · rw [brc_f (show ¬ (60 : Int32) ≤ I (D 4 2) by rw [litN, I_le (by omega) (by omega)]; omega), if_pos ⟨h0, hf⟩, chk_t (ib_I hf (by omega)), nmE, gI_ne1 _ _ _ (show (33 : Nat) ≠ 39 by decide), y8, chk_t (ib_I hf (by omega)), nmE, gI_ne1 _ _ _ (show (33 : Nat) ≠ 40 by decide), gI_ne1 _ _ _ (show (33 : Nat) ≠ 39 by decide), y8, chk_t (ib_I hf (by omega)), nmE, nmE, gI_ne1 _ _ _ (show (33 : Nat) ≠ 41 by decide), gI_ne1 _ _ _ (show (33 : Nat) ≠ 40 by decide), gI_ne1 _ _ _ (show (33 : Nat) ≠ 39 by decide), y8, I_cl (by omega), I1, I_add]
      have k : ∀ i, i ∉ [33, 39, 40, 41] → (setI (setI (setI (setI σ 39 (D 4 2) (I c)) 40 (D 4 2) (I s)) 41 (D 4 2) (I m)) 33 4 (I (D 4 2 + 1))).1 i = σ.1 i := fun i hi => by
        simp at hi
        rw [gI_ne1 _ _ _ hi.1, gI_ne1 _ _ _ hi.2.2.2, gI_ne1 _ _ _ hi.2.2.1, gI_ne1 _ _ _ hi.2.1]
      have k33 : ∀ j, j ≠ 4 → (setI (setI (setI (setI σ 39 (D 4 2) (I c)) 40 (D 4 2) (I s)) 41 (D 4 2) (I m)) 33 4 (I (D 4 2 + 1))).1 33 j = σ.1 33 j := fun j hj => by
        rw [gI_ne2 _ _ _ hj, gI_ne1 _ _ _ (by decide), gI_ne1 _ _ _ (by decide), gI_ne1 _ _ _ (by decide)]
      refine ⟨_, rfl, ⟨?_, ?_, ?_, y4, ?_, ?_, ?_, gI_same _ _ _ _, ?_, ?_, ?_⟩, k, rfl⟩
      · rw [k 38 (by decide)]; exact y1
      · rw [k 37 (by decide)]; exact y2
      · rw [k 35 (by decide)]; exact y3
      · rw [k33 0 (by decide)]; exact y5
      · rw [k33 1 (by decide)]; exact y6
      · rw [k33 2 (by decide)]; exact y7
      · intro i hi
        have hi' : i < D 4 2 + 1 := hi
        show _ = I (if 6 = 6 ∧ i = D 4 2 then c else D 6 i) ∧ _ = I (if 7 = 7 ∧ i = D 4 2 then s else D 7 i) ∧ _ = I (if 8 = 8 ∧ i = D 4 2 then m else D 8 i)
        rw [gI_ne1 _ _ _ (show (33 + 6 : Nat) ≠ 33 by decide), gI_ne1 _ _ _ (show (33 + 6 : Nat) ≠ 41 by decide), gI_ne1 _ _ _ (show (33 + 6 : Nat) ≠ 40 by decide), gI_ne1 _ _ _ (show (33 + 7 : Nat) ≠ 33 by decide), gI_ne1 _ _ _ (show (33 + 7 : Nat) ≠ 41 by decide), gI_ne1 _ _ _ (show (33 + 8 : Nat) ≠ 33 by decide)]
        by_cases e : i = D 4 2
        · rw [if_pos ⟨rfl, e⟩, if_pos ⟨rfl, e⟩, if_pos ⟨rfl, e⟩, e, gI_same, gI_same, gI_same]
          exact ⟨rfl, rfl, rfl⟩
        · rw [if_neg (fun h => e h.2), if_neg (fun h => e h.2), if_neg (fun h => e h.2), gI_ne2 _ _ _ e, gI_ne2 _ _ _ e, gI_ne2 _ _ _ e, gI_ne1 _ _ _ (show (33 + 7 : Nat) ≠ 39 by decide), gI_ne1 _ _ _ (show (33 + 8 : Nat) ≠ 40 by decide), gI_ne1 _ _ _ (show (33 + 8 : Nat) ≠ 39 by decide)]
          exact y9 i (by omega)
      · rw [k 34 (by decide)]; exact y10
      · rw [k 36 (by decide)]; exact y11
    · rw [brc_t (show (60 : Int32) ≤ I (D 4 2) by rw [litN, I_le (by omega) (by omega)]; omega), if_neg (fun h => hf h.2)]
      exact ⟨σ, rfl, ⟨y1, y2, y3, y4, y5, y6, y7, y8, y9, y10, y11⟩, fun _ _ => rfl, rfl⟩
  · rw [brc_t (show I m ≤ 0 by rw [I0, I_le (by omega) (by omega)]; omega), if_neg (fun h => h0 h.1)]
    exact ⟨σ, rfl, ⟨y1, y2, y3, y4, y5, y6, y7, y8, y9, y10, y11⟩, fun _ _ => rfl, rfl⟩
