/-! the reference's fills and book -/
def vM (σ τ : St) : Prop := (∀ i, i ∉ [0, 14, 15, 16] → τ.1 i = σ.1 i) ∧ (∀ j, j ∉ [30, 31, 32, 33] → τ.1 0 j = σ.1 0 j) ∧ (∀ q, 240 ≤ q → τ.1 16 q = σ.1 16 q) ∧ τ.2 = σ.2
theorem vM_rf {σ : St} : vM σ σ := ⟨fun _ _ => rfl, fun _ _ => rfl, fun _ _ => rfl, rfl⟩
theorem vM_tr {σ τ υ : St} (h1 : vM σ τ) (h2 : vM τ υ) : vM σ υ := ⟨fun i h => (h2.1 i h).trans (h1.1 i h), fun i h => (h2.2.1 i h).trans (h1.2.1 i h), fun i h => (h2.2.2.1 i h).trans (h1.2.2.1 i h), h2.2.2.2.trans h1.2.2.2⟩
theorem vM_f {σ τ : St} (h : vM σ τ) {j : Nat} (v : Int32) (hj : j ∈ [30, 31, 32, 33]) : vM σ (setI τ 0 j v) :=
  vM_tr h ⟨fun i hi => gI_ne1 _ _ _ (by simp at hi; omega), fun k hk => gI_ne2 _ _ _ (fun e => hk (e ▸ hj)), fun q _ => by rw [gI_ne1 _ _ _ (by decide)], rfl⟩
theorem vM_16 {σ τ : St} (h : vM σ τ) {q : Nat} (v : Int32) (hq : q < 240) : vM σ (setI τ 16 q v) :=
  vM_tr h ⟨fun i hi => gI_ne1 _ _ _ (by simp at hi; omega), fun k _ => by rw [gI_ne1 _ _ _ (by decide)], fun k hk => gI_ne2 _ _ _ (by omega), rfl⟩
theorem vM_s {σ τ : St} (h : sM σ τ) : vM σ τ := ⟨fun i hi => h.1 i (by simp at hi ⊢; omega) (by simp at hi; omega), h.2.1, fun q _ => by rw [h.1 16 (by decide) (by decide)], h.2.2⟩
theorem eM_fills_50 {T : Vw} {σ : St} (hw : wfT T) (hT : MT T σ) {c s l f : Nat} (hc : c < T 0 2) (hs : s < 7) (hl : σ.1 0 30 = I l) (hl2 : l < 100000) (hf : σ.1 16 (43 + s) = I f) (hff : f < 100000) :
    rM_fills_50 (I c) (I s) σ = some (setI (setI (setI σ 0 30 (I (min l (hol T c)))) 0 30 (I (min l (hol T c) + min f (hol T c - min l (hol T c))))) 16 (43 + s) (I (f - min f (hol T c - min l (hol T c))))) := by
  have hh := hol_le hw hc
  have h75 : ∀ l1, l1 = min l (hol T c) → rM_fills_75 (I c) (I s) (I l1) σ = some (setI (setI (setI σ 0 30 (I (min l (hol T c)))) 0 30 (I (min l (hol T c) + min f (hol T c - min l (hol T c))))) 16 (43 + s) (I (f - min f (hol T c - min l (hol T c))))) := by
    intro l1 e
    subst e
    have hle : min l (hol T c) ≤ hol T c := Nat.min_le_right _ _
    generalize min l (hol T c) = l1 at hle ⊢
    unfold rM_fills_75
    have hT1 : MT T (setI σ 0 30 (I l1)) := MT_fr (gI_ne1 _ _ _ (by decide)) hT
    rw [nmE, eM_holdsT hw hT1 hc, bnd2_e, nmE, gI_same, I_sub hle, litN, I_add, chk_t (ib_I (by omega) (by omega)), chk_t (ib_I (by omega) (by omega)), I_cl (by omega), gI_ne1 _ _ _ (show (16 : Nat) ≠ 0 by decide), hf]
    have h115 : ∀ g, g ≤ f → rM_fills_115 (I s) (I g) (setI σ 0 30 (I l1)) = some (setI (setI (setI σ 0 30 (I l1)) 0 30 (I (l1 + g))) 16 (43 + s) (I (f - g))) := by
      intro g hg
      unfold rM_fills_115
      rw [nmE, nmE, litN, I_add, chk_t (ib_I (by omega) (by omega)), chk_t (ib_I (by omega) (by omega)), nmE, gI_same, I_add, I_cl (by omega), gI_ne1 _ _ _ (show (16 : Nat) ≠ 0 by decide), gI_ne1 _ _ _ (show (16 : Nat) ≠ 0 by decide), hf, I_sub hg]
    by_cases e : hol T c - l1 ≤ f
    · rw [brc_t (show I (hol T c - l1) ≤ I f by rw [I_le (by omega) (by omega)]; exact e), h115 _ e, Nat.min_eq_right e]
    · rw [brc_f (show ¬ I (hol T c - l1) ≤ I f by rw [I_le (by omega) (by omega)]; exact e), h115 _ (Nat.le_refl _), Nat.min_eq_left (by omega)]
  unfold rM_fills_50
  rw [eM_holdsT hw hT hc, bnd2_e, eM_holdsT hw hT hc, bnd2_e, hl]
  by_cases e : l ≤ hol T c
  · rw [brc_t (show I l ≤ I (hol T c) by rw [I_le (by omega) (by omega)]; exact e)]
    exact h75 l (Nat.min_eq_left e).symm
  · rw [brc_f (show ¬ I l ≤ I (hol T c) by rw [I_le (by omega) (by omega)]; exact e)]
    exact h75 _ (Nat.min_eq_right (by omega)).symm
theorem eM_fills {T D : Vw} {σ : St} (hw : wfT T) (hT : MT T σ) (hd : wfD (T 0 0) D) (hD : MD 0 (T 0 0) D σ) {c s l : Nat} (hc : c < T 0 2) (hs : s < T 0 0) (hl : σ.1 0 30 = I l) (hl2 : l < 1000) :
    ∃ τ, rM_fills (I c) (I s) σ = some τ ∧ τ.1 0 30 = I (gtL T D c s l + gtF T D c s l) ∧ (∀ j, j ≠ 30 → τ.1 0 j = σ.1 0 j) ∧ MD 0 (T 0 0) (gtV T D c s l) τ ∧ vM σ τ := by
  have h7 := hw.1
  have h6 := hw.2.1
  have hh := hol_le hw hc
  have hT1 := (hw.2.2.2.2.2.1 s hs).1
  have hk := (hw.2.2.2.2.2.2.2 c hc).1
  have hg := hd.2.2.1
  have h9 := hd.2.2.2.2.2 s hs
  have h60 := hd.2.2.2.1
  have y := MD0 hD
  obtain ⟨y1, y2, y3, y4, y5, y6, y7, y8, y9, y10, y11⟩ := y
  unfold rM_fills
  simp only [litN, I_mul, I_add]
  rw [chk_t (ib_I (show 8 + 2 * s < 320 by omega) (by omega)), chk_t (show ib (I 3) 320 = true from rfl), I_cl (by omega), show (I 3).toNatClampNeg = 3 from rfl, (hT.2.2.2.2.2.2.1 s hs).1, hT.2.2.2.1]
  have fin : ∀ (σ1 : St) (l1 : Nat), σ1.1 0 30 = I l1 → l1 = l + fgD T D c s → l1 < 100000 → (∀ i, i ≠ 0 → i ≠ 16 → σ1.1 i = σ.1 i) → (∀ j, j ≠ 30 → σ1.1 0 j = σ.1 0 j) → σ1.1 16 37 = I (fgG T D s) → (∀ q, q ≠ 37 → σ1.1 16 q = σ.1 16 q) → σ1.2 = σ.2 → ∃ τ, rM_fills_50 (I c) (I s) σ1 = some τ ∧ τ.1 0 30 = I (gtL T D c s l + gtF T D c s l) ∧ (∀ j, j ≠ 30 → τ.1 0 j = σ.1 0 j) ∧ MD 0 (T 0 0) (gtV T D c s l) τ ∧ vM σ τ := by
    intro σ1 l1 g1 el hl1 gi gj g3 gq g2
    have e43 : σ1.1 16 (43 + s) = I (D 3 s) := by rw [gq _ (by omega)]; exact y10 s hs
    have ef : min (D 3 s) (hol T c - gtL T D c s l) = gtF T D c s l := by unfold gtF; rfl
    have egl : min l1 (hol T c) = gtL T D c s l := by unfold gtL; rw [el]
    rw [eM_fills_50 hw (MT_fr (gi 6 (by decide) (by decide)) hT) hc (show s < 7 by omega) g1 hl1 e43 (by omega), egl, ef]
    have o1 := gtV_o T D c s l
    have o2 := gtV_g T D c s l
    have o3 := gtV_3 T D c s l
    generalize gtV T D c s l = D' at o1 o2 o3 ⊢
    generalize gtL T D c s l = gl
    generalize gtF T D c s l = fz at o3 ⊢
    generalize hσ2 : setI (setI (setI σ1 0 30 (I gl)) 0 30 (I (gl + fz))) 16 (43 + s) (I (D 3 s - fz)) = τ
    have k : ∀ q, q ≠ 37 → q ≠ 43 + s → τ.1 16 q = σ.1 16 q := fun q h1 h2 => by
      rw [← hσ2, gI_ne2 _ _ _ h2, gI_ne1 _ _ _ (by decide), gI_ne1 _ _ _ (by decide), gq q h1]
    have k37 : τ.1 16 37 = I (fgG T D s) := by
      rw [← hσ2, gI_ne2 _ _ _ (by omega), gI_ne1 _ _ _ (by decide), gI_ne1 _ _ _ (by decide), g3]
    have k43 : τ.1 16 (43 + s) = I (D 3 s - fz) := by rw [← hσ2, gI_same]
    refine ⟨τ, rfl, ?_, ?_, ?_, ?_, ?_, ?_, ?_⟩
    · rw [← hσ2, gI_ne1 _ _ _ (by decide), gI_same]
    · intro j hj
      rw [← hσ2, gI_ne1 _ _ _ (by decide), gI_ne2 _ _ _ hj, gI_ne2 _ _ _ hj, gj j hj]
    · unfold MD
      simp only [Nat.zero_add]
      refine ⟨fun q hq => ?_, ?_, ?_, ?_, ?_, ?_, ?_, ?_, fun i hi => ?_, fun s' hs' => ?_, fun x hx => ?_⟩
      · rw [k q (by omega) (by omega), o1 0 q (by omega) (by omega)]; exact y1 q hq
      · rw [k 36 (by omega) (by omega), o1 4 5 (by omega) (by omega)]; exact y2
      · rw [k 41 (by omega) (by omega), o1 4 6 (by omega) (by omega)]; exact y3
      · rw [k37, o2]
      · rw [k 38 (by omega) (by omega), o1 4 3 (by omega) (by omega)]; exact y5
      · rw [k 40 (by omega) (by omega), o1 4 4 (by omega) (by omega)]; exact y6
      · rw [k 39 (by omega) (by omega), o1 4 0 (by omega) (by omega)]; exact y7
      · rw [k 42 (by omega) (by omega), o1 4 2 (by omega) (by omega)]; exact y8
      · rw [o1 4 2 (by omega) (by omega)] at hi
        rw [k _ (by omega) (by omega), k _ (by omega) (by omega), k _ (by omega) (by omega), o1 6 i (by omega) (by omega), o1 7 i (by omega) (by omega), o1 8 i (by omega) (by omega)]; exact y9 i hi
      · rw [o3]
        by_cases e : s' = s
        · rw [if_pos e, e]; exact k43
        · rw [if_neg e, k _ (by omega) (by omega)]; exact y10 s' hs'
      · rw [k _ (by omega) (by omega), o1 5 x (by omega) (by omega)]; exact y11 x hx
    · intro i hi
      simp at hi
      rw [← hσ2, gI_ne1 _ _ _ (by omega), gI_ne1 _ _ _ (by omega), gI_ne1 _ _ _ (by omega), gi i (by omega) (by omega)]
    · intro j hj
      simp at hj
      rw [← hσ2, gI_ne1 _ _ _ (by decide), gI_ne2 _ _ _ (by omega), gI_ne2 _ _ _ (by omega), gj j (by omega)]
    · intro q hq
      exact k q (by omega) (by omega)
    · rw [← hσ2]; exact g2
  by_cases hfog : T 0 3 ≤ T 1 s
  · have eg : fgG T D s = nxG (D 4 1) := by unfold fgG; rw [if_pos hfog]
    rw [brc_f (show ¬ I (T 1 s) < I (T 0 3) by have := hw.2.2.1; rw [I_lt (by omega) (by omega)]; omega), show I 4 = (4 : Int32) from rfl, eM_draw hg y4, bnd2_e, eM_carrierOf _ (show c < 6 by omega) (by omega), bnd2_e, Nat.add_zero, gI_ne1 _ _ _ (show (6 : Nat) ≠ 16 by decide), (hT.2.2.2.2.2.2.2.2 c hc).1, hl]
    have h4 : nxG (D 4 1) / 65536 % 4 < 4 := Nat.mod_lt _ (by omega)
    unfold rM_fills_45
    rw [nmE, nmE, I_add, I_add, I_add, I_add]
    have go : ∀ d, d = fgD T D c s → d < 100 → ∃ τ, rM_fills_50 (I c) (I s) (setI (setI σ 16 37 (I (nxG (D 4 1)))) 0 30 (I (l + d))) = some τ ∧ τ.1 0 30 = I (gtL T D c s l + gtF T D c s l) ∧ (∀ j, j ≠ 30 → τ.1 0 j = σ.1 0 j) ∧ MD 0 (T 0 0) (gtV T D c s l) τ ∧ vM σ τ := by
      intro d hd1 hd2
      exact fin _ _ (gI_same _ _ _ _) (by rw [hd1]) (by omega) (fun i h1 h2 => by rw [gI_ne1 _ _ _ h1, gI_ne1 _ _ _ h2]) (fun j hj => by rw [gI_ne2 _ _ _ hj, gI_ne1 _ _ _ (by decide)]) (by rw [gI_ne1 _ _ _ (by decide), gI_same, eg]) (fun q hq => by rw [gI_ne1 _ _ _ (by decide), gI_ne2 _ _ _ hq]) rfl
    by_cases k5 : T 5 c = 5
    · rw [brc_f (show ¬ ¬ I (T 5 c) = I 5 by rw [k5]; exact fun h => h rfl)]
      exact go _ (by unfold fgD; rw [if_pos hfog, if_pos k5]) (by omega)
    · rw [brc_t (show ¬ I (T 5 c) = I 5 by rw [I_inj (by omega) (by omega)]; exact k5)]
      exact go _ (by unfold fgD; rw [if_pos hfog, if_neg k5]) (by omega)
  · rw [brc_t (show I (T 1 s) < I (T 0 3) by have := hw.2.2.1; rw [I_lt (by omega) (by omega)]; omega)]
    refine fin σ l hl ?_ (by omega) (fun _ _ _ => rfl) (fun _ _ => rfl) ?_ (fun _ _ => rfl) rfl
    · unfold fgD; rw [if_neg hfog, Nat.add_zero]
    · unfold fgG; rw [if_neg hfog]; exact y4
theorem wrV_y {D : Vw} {c s m : Nat} (h : 0 < m ∧ D 4 2 < 60) : (∀ a b, ¬ (a = 6 ∨ a = 7 ∨ a = 8) → ¬ (a = 4 ∧ b = 2) → wrV D c s m a b = D a b) ∧ wrV D c s m 4 2 = D 4 2 + 1 ∧ (∀ i, wrV D c s m 6 i = if i = D 4 2 then c else D 6 i) ∧ (∀ i, wrV D c s m 7 i = if i = D 4 2 then s else D 7 i) ∧ (∀ i, wrV D c s m 8 i = if i = D 4 2 then m else D 8 i) := by
  unfold wrV
  rw [if_pos h]
  unfold upV
  refine ⟨fun a b h1 h2 => ?_, ?_, fun i => ?_, fun i => ?_, fun i => ?_⟩
  · rw [if_neg h2, if_neg (by omega), if_neg (by omega), if_neg (by omega)]
  · rw [if_pos ⟨rfl, rfl⟩]
  · rw [if_neg (show ¬ ((6 : Nat) = 4 ∧ i = 2) by omega), if_neg (show ¬ ((6 : Nat) = 8 ∧ i = D 4 2) by omega), if_neg (show ¬ ((6 : Nat) = 7 ∧ i = D 4 2) by omega)]
    by_cases e : i = D 4 2
    · rw [if_pos ⟨rfl, e⟩, if_pos e]
    · rw [if_neg (fun h => e h.2), if_neg e]
  · rw [if_neg (show ¬ ((7 : Nat) = 4 ∧ i = 2) by omega), if_neg (show ¬ ((7 : Nat) = 8 ∧ i = D 4 2) by omega)]
    by_cases e : i = D 4 2
    · rw [if_pos ⟨rfl, e⟩, if_pos e]
    · rw [if_neg (fun h => e h.2), if_neg (show ¬ ((7 : Nat) = 6 ∧ i = D 4 2) by omega), if_neg e]
  · rw [if_neg (show ¬ ((8 : Nat) = 4 ∧ i = 2) by omega)]
    by_cases e : i = D 4 2
    · rw [if_pos ⟨rfl, e⟩, if_pos e]
    · rw [if_neg (fun h => e h.2), if_neg (show ¬ ((8 : Nat) = 7 ∧ i = D 4 2) by omega), if_neg (show ¬ ((8 : Nat) = 6 ∧ i = D 4 2) by omega), if_neg e]
theorem wrV_n {D : Vw} {c s m : Nat} (h : ¬ (0 < m ∧ D 4 2 < 60)) : wrV D c s m = D := if_neg h
theorem eM_writes {n : Nat} {D : Vw} {σ : St} (hn : n ≤ 7) (hd : wfD n D) (hD : MD 0 n D σ) {c s m : Nat} (hm : m < 100000) : ∃ τ, rM_writes (I c) (I s) (I m) σ = some τ ∧ MD 0 n (wrV D c s m) τ ∧ (∀ i, i ≠ 16 → τ.1 i = σ.1 i) ∧ (∀ q, 240 ≤ q → τ.1 16 q = σ.1 16 q) ∧ τ.2 = σ.2 := by
  have h60 := hd.2.2.2.1
  have y := MD0 hD
  obtain ⟨y1, y2, y3, y4, y5, y6, y7, y8, y9, y10, y11⟩ := y
  unfold rM_writes rM_writes_74
  rw [show ib (42 : Int32) 6000 = true from rfl, chk_e, nmE, show (42 : Int32).toNatClampNeg = 42 from rfl, y8]
  by_cases h0 : 0 < m
  · rw [brc_f (show ¬ I m ≤ 0 by rw [I0, I_le (by omega) (by omega)]; omega)]
    by_cases hf : D 4 2 < 60
    · rw [brc_f (show ¬ (60 : Int32) ≤ I (D 4 2) by rw [litN, I_le (by omega) (by omega)]; omega)]
      simp only [litN, I_mul, I_add]
      rw [chk_t (ib_I (show 56 + 3 * D 4 2 < 6000 by omega) (by omega)), nmE, chk_t (ib_I (show 56 + 3 * D 4 2 + 1 < 6000 by omega) (by omega)), nmE, chk_t (ib_I (show 56 + 3 * D 4 2 + 2 < 6000 by omega) (by omega)), nmE, chk_e, chk_e, nmE, I_cl (by omega), I_cl (by omega), I_cl (by omega), gI_ne2 _ _ _ (show 42 ≠ 56 + 3 * D 4 2 + 2 by omega), gI_ne2 _ _ _ (show 42 ≠ 56 + 3 * D 4 2 + 1 by omega), gI_ne2 _ _ _ (show 42 ≠ 56 + 3 * D 4 2 by omega), y8, I_add]
      obtain ⟨o1, o2, o6, o7, o8⟩ := wrV_y (c := c) (s := s) (m := m) ⟨h0, hf⟩
      generalize wrV D c s m = D' at o1 o2 o6 o7 o8 ⊢
      generalize hτ : setI (setI (setI (setI σ 16 (56 + 3 * D 4 2) (I c)) 16 (56 + 3 * D 4 2 + 1) (I s)) 16 (56 + 3 * D 4 2 + 2) (I m)) 16 42 (I (D 4 2 + 1)) = τ
      have k : ∀ q, q ≠ 42 → q ≠ 56 + 3 * D 4 2 → q ≠ 56 + 3 * D 4 2 + 1 → q ≠ 56 + 3 * D 4 2 + 2 → τ.1 16 q = σ.1 16 q := fun q h1 h2 h3 h4 => by
        rw [← hτ, gI_ne2 _ _ _ h1, gI_ne2 _ _ _ h4, gI_ne2 _ _ _ h3, gI_ne2 _ _ _ h2]
      have ka : τ.1 16 (56 + 3 * D 4 2) = I c := by rw [← hτ, gI_ne2 _ _ _ (by omega), gI_ne2 _ _ _ (by omega), gI_ne2 _ _ _ (by omega), gI_same]
      have kb : τ.1 16 (56 + 3 * D 4 2 + 1) = I s := by rw [← hτ, gI_ne2 _ _ _ (by omega), gI_ne2 _ _ _ (by omega), gI_same]
      have kc : τ.1 16 (56 + 3 * D 4 2 + 2) = I m := by rw [← hτ, gI_ne2 _ _ _ (by omega), gI_same]
      have kd : τ.1 16 42 = I (D 4 2 + 1) := by rw [← hτ, gI_same]
      refine ⟨τ, rfl, ?_, ?_, ?_, by rw [← hτ]; rfl⟩
      · unfold MD
        simp only [Nat.zero_add]
        refine ⟨fun q hq => ?_, ?_, ?_, ?_, ?_, ?_, ?_, ?_, fun i hi => ?_, fun s' hs' => ?_, fun x hx => ?_⟩
        · rw [k q (by omega) (by omega) (by omega) (by omega), o1 0 q (by omega) (by omega)]; exact y1 q hq
        · rw [k 36 (by omega) (by omega) (by omega) (by omega), o1 4 5 (by omega) (by omega)]; exact y2
        · rw [k 41 (by omega) (by omega) (by omega) (by omega), o1 4 6 (by omega) (by omega)]; exact y3
        · rw [k 37 (by omega) (by omega) (by omega) (by omega), o1 4 1 (by omega) (by omega)]; exact y4
        · rw [k 38 (by omega) (by omega) (by omega) (by omega), o1 4 3 (by omega) (by omega)]; exact y5
        · rw [k 40 (by omega) (by omega) (by omega) (by omega), o1 4 4 (by omega) (by omega)]; exact y6
        · rw [k 39 (by omega) (by omega) (by omega) (by omega), o1 4 0 (by omega) (by omega)]; exact y7
        · rw [kd, o2]
        · rw [o2] at hi
          rw [o6, o7, o8]
          by_cases e : i = D 4 2
          · rw [if_pos e, if_pos e, if_pos e, e, ka, kb, kc]; exact ⟨rfl, rfl, rfl⟩
          · rw [if_neg e, if_neg e, if_neg e, k _ (by omega) (by omega) (by omega) (by omega), k _ (by omega) (by omega) (by omega) (by omega), k _ (by omega) (by omega) (by omega) (by omega)]; exact y9 i (by omega)
        · rw [k _ (by omega) (by omega) (by omega) (by omega), o1 3 s' (by omega) (by omega)]; exact y10 s' hs'
        · rw [k _ (by omega) (by omega) (by omega) (by omega), o1 5 x (by omega) (by omega)]; exact y11 x hx
      · intro i hi
        rw [← hτ, gI_ne1 _ _ _ hi, gI_ne1 _ _ _ hi, gI_ne1 _ _ _ hi, gI_ne1 _ _ _ hi]
      · intro q hq
        exact k q (by omega) (by omega) (by omega) (by omega)
    · rw [brc_t (show (60 : Int32) ≤ I (D 4 2) by rw [litN, I_le (by omega) (by omega)]; omega), wrV_n (fun h => hf h.2)]
      exact ⟨σ, rfl, hD, fun _ _ => rfl, fun _ _ => rfl, rfl⟩
  · rw [brc_t (show I m ≤ 0 by rw [I0, I_le (by omega) (by omega)]; omega), wrV_n (fun h => h0 h.1)]
    exact ⟨σ, rfl, hD, fun _ _ => rfl, fun _ _ => rfl, rfl⟩
