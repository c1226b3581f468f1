/-! undo and mark -/
def unD (D U : Vw) : Vw := fun a b => if a = 0 then U (3 + (U 0 0 - 1)) b else if a = 4 ∧ b = 5 then U (3 + (U 0 0 - 1)) 36 else D a b
def unU (U : Vw) : Vw := fun a b => if a = 0 then U 0 0 - 1 else U a b
theorem unU_r (U : Vw) (k q : Nat) : unU U (3 + k) q = U (3 + k) q := if_neg (by omega)
theorem po_undo : PO_undo Inv := by
  intro σx σm h
  obtain ⟨T, R, D, Mk, U, n, tp, LD, LP, hw, hx, hm⟩ := h
  have hm' := GM_0 hw 0 hm
  have hd := MD0 hm'.2.1
  obtain ⟨u1, u2, u3, u4⟩ := hw.2.2.2.2.1
  have hxu := hx.2.2.2.2.1
  have hmu := hm'.2.2.2.2.1
  by_cases h0 : U 0 0 = 0
  · refine ⟨0, σx, setI σm 0 0 0, ?_, ?_, T, R, D, Mk, U, n, tp, LD, LP, hw, hx, hm'⟩
    · unfold rX_undo
      rw [hxu.1, brc_f (show ¬ ¬ I (U 0 0) = 0 by rw [h0]; exact fun h => h rfl)]; rfl
    · unfold rM_undo
      rw [nmE, hmu.1, brc_f (show ¬ ¬ I (U 0 0) = 0 by rw [h0]; exact fun h => h rfl)]; rfl
  · obtain ⟨p1, p2, p3, p4⟩ := u4 (U 0 0 - 1) (by omega)
    rw [show U 0 0 - 1 + 1 = U 0 0 by omega] at p3 p4
    obtain ⟨g1, g2⟩ := hxu.2 (U 0 0 - 1) (by omega)
    have hne : ¬ I (U 0 0) = 0 := by rw [I0, I_inj (by omega) (by omega)]; exact h0
    have eX : rX_undo σx = brc ((36 : Int32) ≤ I (U 1 (U 0 0 - 1))) (chk (ib (I (U 1 (U 0 0 - 1)) - 36) 6) (some (1, setI (setI (setI (setI σx 0 11 (I (U 0 0 - 1))) 37 (I (U 1 (U 0 0 - 1)) - 36).toNatClampNeg (I (U 2 (U 0 0 - 1)))) 49 8 0) 54 9 0))) (chk (ib (I (U 1 (U 0 0 - 1))) 36) (some (1, setI (setI (setI (setI σx 0 11 (I (U 0 0 - 1))) 38 (I (U 1 (U 0 0 - 1))).toNatClampNeg (I (U 2 (U 0 0 - 1)))) 49 8 0) 54 9 0))) := by
      unfold rX_undo rX_undo_77
      rw [hxu.1, brc_t hne, nmE, gI_same, I1, I_sub (by omega), chk_t (ib_I (by omega) (by omega)), nmE, I_cl (by omega), gI_ne1 _ _ _ (show (1 : Nat) ≠ 0 by decide), g1]
      simp only [chk_t (ib_I (show U 0 0 - 1 < 20 by omega) (show 20 < 2147483648 by omega)), gI_ne1 _ _ _ (show (2 : Nat) ≠ 0 by decide), g2, nmS, eX_forget, bnd1S]
      rfl
    have eM : rM_undo σm = some (1, setR (setI (setI σm 0 0 0) 0 25 (I (U 0 0 - 1))) 16 (va_cpy ((setI σm 0 0 0).1 16) ((setI σm 0 0 0).1 16) (240 * (5 + (U 0 0 - 1))) 0 37)) := by
      unfold rM_undo
      rw [nmE, hmu.1, brc_t hne, nmE, gI_same, I1, I_sub (by omega), show (5 : Int32) = I 5 from rfl, I_add, show (0 : Int32) = I 0 from rfl, show (37 : Int32) = I 37 from rfl, eM_copies (by omega) (by omega) (by omega) (by omega), bnd1_e, gI_ne1 _ _ _ (show (16 : Nat) ≠ 0 by decide)]
      rfl
    have wfD' : wfD (T 0 0) (unD D U) := by
      obtain ⟨d1, d2, d3, d4, d5, d6⟩ := hw.2.1
      exact ⟨p2, d2, d3, d4, d5, d6⟩
    have wfU' : wfU (unD D U) (unU U) := by
      refine ⟨by show U 0 0 - 1 ≤ 20; omega, fun q hq => ?_, ?_, fun k hk => ?_⟩
      · rw [unU_r]; rfl
      · rw [unU_r]; rfl
      · have hk' : k < U 0 0 - 1 := hk
        simp only [unU_r]
        exact u4 k (by omega)
    have hgm : GM T R (unD D U) Mk (unU U) n tp LD LP (setR (setI (setI σm 0 0 0) 0 25 (I (U 0 0 - 1))) 16 (va_cpy ((setI σm 0 0 0).1 16) ((setI σm 0 0 0).1 16) (240 * (5 + (U 0 0 - 1))) 0 37)) := by
      have g : ∀ q, 37 ≤ q → (setR (setI (setI σm 0 0 0) 0 25 (I (U 0 0 - 1))) 16 (va_cpy ((setI σm 0 0 0).1 16) ((setI σm 0 0 0).1 16) (240 * (5 + (U 0 0 - 1))) 0 37)).1 16 q = (setI σm 0 0 0).1 16 q := fun q hq => by
        rw [setR_same, cpy_off (by omega)]
      have gr : ∀ q, q ≤ 36 → (setR (setI (setI σm 0 0 0) 0 25 (I (U 0 0 - 1))) 16 (va_cpy ((setI σm 0 0 0).1 16) ((setI σm 0 0 0).1 16) (240 * (5 + (U 0 0 - 1))) 0 37)).1 16 q = I (U (3 + (U 0 0 - 1)) q) := fun q hq => by
        rw [setR_same, cpy_at (by omega) (by omega), show 240 * (5 + (U 0 0 - 1)) + (q - 0) = 240 * (5 + (U 0 0 - 1)) + q by omega]
        exact hmu.2 (U 0 0 - 1) (by omega) q hq
      refine GM_u hw hm' (fun i _ h1 h2 => by rw [setR_ne _ _ h2, gI_ne1 _ _ _ h1]) (fun j _ h => by rw [setR_ne _ _ (by decide), gI_ne2 _ _ _ h]) (fun q h1 h2 => g q (by omega)) rfl ?_ ⟨?_, ?_⟩
      · unfold MD
        simp only [Nat.zero_add]
        refine ⟨fun q hq => gr q (by omega), gr 36 (by omega), by rw [g 41 (by omega)]; exact hd.2.2.1, by rw [g 37 (by omega)]; exact hd.2.2.2.1, by rw [g 38 (by omega)]; exact hd.2.2.2.2.1, by rw [g 40 (by omega)]; exact hd.2.2.2.2.2.1, by rw [g 39 (by omega)]; exact hd.2.2.2.2.2.2.1, by rw [g 42 (by omega)]; exact hd.2.2.2.2.2.2.2.1, ?_, ?_, ?_⟩
        · intro i hi
          rw [g _ (by omega), g _ (by omega), g _ (by omega)]; exact hd.2.2.2.2.2.2.2.2.1 i hi
        · intro s hs'
          rw [g _ (by omega)]; exact hd.2.2.2.2.2.2.2.2.2.1 s hs'
        · intro c hc
          rw [g _ (by omega)]; exact hd.2.2.2.2.2.2.2.2.2.2 c hc
      · rw [setR_ne _ _ (by decide), gI_same]; rfl
      · intro k hk q hq
        have hk' : k < U 0 0 - 1 := hk
        rw [g _ (by omega), unU_r]
        exact hmu.2 k (by omega) q hq
    have fin : ∀ (cl pl : Nat), (cl = 37 ∨ cl = 38) → (∀ q, q < 36 → (if cl = 38 ∧ q = pl then U 2 (U 0 0 - 1) else D 0 q) = U (3 + (U 0 0 - 1)) q) → (∀ c, c < 6 → (if cl = 37 ∧ c = pl then U 2 (U 0 0 - 1) else D 4 5 / 2 ^ c % 2) = U (3 + (U 0 0 - 1)) 36 / 2 ^ c % 2) → GX T R (unD D U) Mk (unU U) n tp LD LP (setI (setI (setI (setI σx 0 11 (I (U 0 0 - 1))) cl pl (I (U 2 (U 0 0 - 1)))) 49 8 0) 54 9 0) := by
      intro cl pl hcl r1 r2
      obtain ⟨y1, y2, y3, y4, y5, y6, y7, y8, y9, y10, y11⟩ := hx.2.1
      have g : ∀ i, i ≠ 0 → i ≠ cl → i ≠ 49 → i ≠ 54 → (setI (setI (setI (setI σx 0 11 (I (U 0 0 - 1))) cl pl (I (U 2 (U 0 0 - 1)))) 49 8 0) 54 9 0).1 i = σx.1 i := fun i h0 h3 h4 h5 => by
        rw [gI_ne1 _ _ _ h5, gI_ne1 _ _ _ h4, gI_ne1 _ _ _ h3, gI_ne1 _ _ _ h0]
      refine GX_u hx (fun i h1 h2 h3 => g i (by simp at h2; omega) (by omega) (by simp at h2; omega) (by simp at h2; omega)) (fun i _ _ => rfl) rfl ⟨?_, ?_, ?_, ?_, ?_, ?_, ?_, ?_, ?_, ?_, ?_⟩ ⟨?_, ?_⟩ ?_ ?_
      · intro q hq
        show _ = I (U (3 + (U 0 0 - 1)) q)
        rw [gI_ne1 _ _ _ (by decide), gI_ne1 _ _ _ (by decide), ← r1 q hq]
        by_cases e : cl = 38 ∧ q = pl
        · rw [if_pos e, e.1, e.2, gI_same]
        · rw [if_neg e]
          by_cases e2 : cl = 38
          · rw [e2, gI_ne2 _ _ _ (fun h => e ⟨e2, h⟩), gI_ne1 _ _ _ (by decide)]; exact y1 q hq
          · rw [gI_ne1 _ _ _ (show (33 + 5 : Nat) ≠ cl by omega), gI_ne1 _ _ _ (by decide)]; exact y1 q hq
      · intro c hc
        show _ = I (U (3 + (U 0 0 - 1)) 36 / 2 ^ c % 2)
        rw [gI_ne1 _ _ _ (by decide), gI_ne1 _ _ _ (by decide), ← r2 c hc]
        by_cases e : cl = 37 ∧ c = pl
        · rw [if_pos e, e.1, e.2, gI_same]
        · rw [if_neg e]
          by_cases e2 : cl = 37
          · rw [e2, gI_ne2 _ _ _ (fun h => e ⟨e2, h⟩), gI_ne1 _ _ _ (by decide)]; exact y2 c hc
          · rw [gI_ne1 _ _ _ (show (33 + 4 : Nat) ≠ cl by omega), gI_ne1 _ _ _ (by decide)]; exact y2 c hc
      · rw [g 35 (by decide) (by omega) (by decide) (by decide)]; exact y3
      · exact y4
      · rw [g 33 (by decide) (by omega) (by decide) (by decide)]; exact y5
      · rw [g 33 (by decide) (by omega) (by decide) (by decide)]; exact y6
      · rw [g 33 (by decide) (by omega) (by decide) (by decide)]; exact y7
      · rw [g 33 (by decide) (by omega) (by decide) (by decide)]; exact y8
      · rw [g 39 (by decide) (by omega) (by decide) (by decide), g 40 (by decide) (by omega) (by decide) (by decide), g 41 (by decide) (by omega) (by decide) (by decide)]; exact y9
      · rw [g 34 (by decide) (by omega) (by decide) (by decide)]; exact y10
      · rw [g 36 (by decide) (by omega) (by decide) (by decide)]; exact y11
      · rw [gI_ne1 _ _ _ (by decide), gI_ne1 _ _ _ (by decide), gI_ne1 _ _ _ (show (0 : Nat) ≠ cl by omega), gI_same]; rfl
      · intro k hk
        have hk' : k < U 0 0 - 1 := hk
        rw [g 1 (by decide) (by omega) (by decide) (by decide), g 2 (by decide) (by omega) (by decide) (by decide)]
        exact hxu.2 k (by omega)
      · rw [gI_ne1 _ _ _ (by decide), gI_same]
      · rw [gI_same]
    by_cases hp : 36 ≤ U 1 (U 0 0 - 1)
    · rw [brc_t (show (36 : Int32) ≤ I (U 1 (U 0 0 - 1)) by rw [litN, I_le (by omega) (by omega)]; exact hp), litN, I_sub hp, chk_t (ib_I (by omega) (by omega)), I_cl (by omega)] at eX
      refine ⟨1, _, _, eX, eM, T, R, unD D U, Mk, unU U, n, tp, LD, LP, ⟨hw.1, wfD', hw.2.2.1, hw.2.2.2.1, wfU', hw.2.2.2.2.2⟩, fin 37 (U 1 (U 0 0 - 1) - 36) (Or.inl rfl) (fun q hq => ?_) (fun c hc => ?_), hgm⟩
      · rw [if_neg (by omega), p3 q hq, if_neg (by omega), u2 q hq]
      · rw [p4 c hc, u3]
        by_cases e : 36 + c = U 1 (U 0 0 - 1)
        · rw [if_pos e, if_pos ⟨rfl, by omega⟩]
        · rw [if_neg e, if_neg (fun h => by have := h.2; omega)]
    · rw [brc_f (show ¬ (36 : Int32) ≤ I (U 1 (U 0 0 - 1)) by rw [litN, I_le (by omega) (by omega)]; exact hp), chk_t (ib_I (by omega) (by omega)), I_cl (by omega)] at eX
      refine ⟨1, _, _, eX, eM, T, R, unD D U, Mk, unU U, n, tp, LD, LP, ⟨hw.1, wfD', hw.2.2.1, hw.2.2.2.1, wfU', hw.2.2.2.2.2⟩, fin 38 (U 1 (U 0 0 - 1)) (Or.inr rfl) (fun q hq => ?_) (fun c hc => ?_), hgm⟩
      · rw [p3 q hq]
        by_cases e : q = U 1 (U 0 0 - 1)
        · rw [if_pos e, if_pos ⟨rfl, e⟩]
        · rw [if_neg e, if_neg (fun h => e h.2), u2 q hq]
      · rw [if_neg (by omega), p4 c hc, if_neg (by omega), u3]
/-! a day is copied -/
theorem wp_cp {β : Type} {σ : St} {i j N m : Nat} {v : Int32} {f : St → Option β} {Q : β → Prop} (hv : v = I m) (hm : m ≤ N) (hN : N < 2147483648) (k : ∀ τ : St, τ.1 j = va_cpy (σ.1 i) (σ.1 j) 0 0 m → (∀ q, q ≠ j → τ.1 q = σ.1 q) → τ.2 = σ.2 → wp (f τ) Q) : wp (chk (cpb (0 : Int32) (0 : Int32) v N N) (nm (setR σ j (va_cpy (σ.1 i) (σ.1 j) (0 : Int32).toNatClampNeg (0 : Int32).toNatClampNeg v.toNatClampNeg)) f)) Q := by
  refine wp_chk ?_ (wp_nm (k _ ?_ (fun q hq => setR_ne _ _ hq) rfl))
  · unfold cpb
    rw [hv, I_toInt (by omega), show (0 : Int32).toInt = 0 from rfl]
    exact decide_eq_true ⟨by omega, by omega, by omega, by omega, by omega⟩
  · rw [setR_same, hv, I_cl (by omega)]; rfl
theorem wp_sI {β : Type} {σ : St} {i j : Nat} {v : Int32} {f : St → Option β} {Q : β → Prop} (k : ∀ τ : St, τ.1 i j = v → (∀ j', j' ≠ j → τ.1 i j' = σ.1 i j') → (∀ q, q ≠ i → τ.1 q = σ.1 q) → τ.2 = σ.2 → wp (f τ) Q) : wp (nm (setI σ i j v) f) Q :=
  wp_nm (k _ (gI_same _ _ _ _) (fun _ h => gI_ne2 _ _ _ h) (fun _ h => gI_ne1 _ _ _ h) rfl)
theorem wp_sJ {β : Type} {σ : St} {i j : Nat} {v : Int64} {f : St → Option β} {Q : β → Prop} (k : ∀ τ : St, τ.1 = σ.1 → τ.2.1 i j = v → (∀ q, q ≠ i → τ.2.1 q = σ.2.1 q) → τ.2.2 = σ.2.2 → wp (f τ) Q) : wp (nm (setJ σ i j v) f) Q :=
  wp_nm (k _ rfl (gJ_same _ _ _ _) (fun _ h => gJ_ne1 _ _ _ h) rfl)
def cpDay (s d : Nat) (σ : St) : Option St :=
  nm (setI σ d 0 (σ.1 s 0)) fun σ_1 => nm (setI σ_1 d 1 (σ_1.1 s 1)) fun σ_2 => nm (setI σ_2 d 2 (σ_2.1 s 2)) fun σ_3 => nm (setJ σ_3 d 3 (σ_3.2.1 s 3)) fun σ_4 => nm (setI σ_4 d 4 (σ_4.1 s 4)) fun σ_5 => chk (cpb (0 : Int32) (0 : Int32) (nI 7) 7 7) (nm (setR σ_5 (d + 1) (va_cpy (σ_5.1 (s + 1)) (σ_5.1 (d + 1)) (0 : Int32).toNatClampNeg (0 : Int32).toNatClampNeg (nI 7).toNatClampNeg)) fun σ_6 => chk (cpb (0 : Int32) (0 : Int32) (nI 6) 6 6) (nm (setR σ_6 (d + 2) (va_cpy (σ_6.1 (s + 2)) (σ_6.1 (d + 2)) (0 : Int32).toNatClampNeg (0 : Int32).toNatClampNeg (nI 6).toNatClampNeg)) fun σ_7 => chk (cpb (0 : Int32) (0 : Int32) (nI 6) 6 6) (nm (setR σ_7 (d + 3) (va_cpy (σ_7.1 (s + 3)) (σ_7.1 (d + 3)) (0 : Int32).toNatClampNeg (0 : Int32).toNatClampNeg (nI 6).toNatClampNeg)) fun σ_8 => chk (cpb (0 : Int32) (0 : Int32) (nI 6) 6 6) (nm (setR σ_8 (d + 4) (va_cpy (σ_8.1 (s + 4)) (σ_8.1 (d + 4)) (0 : Int32).toNatClampNeg (0 : Int32).toNatClampNeg (nI 6).toNatClampNeg)) fun σ_9 => chk (cpb (0 : Int32) (0 : Int32) (nI 36) 36 36) (nm (setR σ_9 (d + 5) (va_cpy (σ_9.1 (s + 5)) (σ_9.1 (d + 5)) (0 : Int32).toNatClampNeg (0 : Int32).toNatClampNeg (nI 36).toNatClampNeg)) fun σ_10 => chk (cpb (0 : Int32) (0 : Int32) (σ_10.1 d 4) 60 60) (nm (setR σ_10 (d + 6) (va_cpy (σ_10.1 (s + 6)) (σ_10.1 (d + 6)) (0 : Int32).toNatClampNeg (0 : Int32).toNatClampNeg (σ_10.1 d 4).toNatClampNeg)) fun σ_11 => chk (cpb (0 : Int32) (0 : Int32) (σ_11.1 d 4) 60 60) (nm (setR σ_11 (d + 7) (va_cpy (σ_11.1 (s + 7)) (σ_11.1 (d + 7)) (0 : Int32).toNatClampNeg (0 : Int32).toNatClampNeg (σ_11.1 d 4).toNatClampNeg)) fun σ_12 => chk (cpb (0 : Int32) (0 : Int32) (σ_12.1 d 4) 60 60) (nm (setR σ_12 (d + 8) (va_cpy (σ_12.1 (s + 8)) (σ_12.1 (d + 8)) (0 : Int32).toNatClampNeg (0 : Int32).toNatClampNeg (σ_12.1 d 4).toNatClampNeg)) fun σ_13 => some σ_13))))))))
theorem dayFrom_cp (mh : Nat) (σ : St) : rX_dayFrom mh σ = cpDay mh 33 σ := rfl
theorem dayTo_cp (mh : Nat) (σ : St) : rX_dayTo mh σ = cpDay 33 mh σ := rfl
theorem e_cpDay {s d n : Nat} {D : Vw} {σ : St} (hsd : s + 8 < d ∨ d + 8 < s) (hn : n ≤ 7) (hD : wfD n D) (hx : XD s n D σ) : wp (cpDay s d σ) (fun τ => XD d n D τ ∧ (∀ i, ¬ (d ≤ i ∧ i ≤ d + 8) → τ.1 i = σ.1 i) ∧ (∀ i, i ≠ d → τ.2.1 i = σ.2.1 i) ∧ τ.2.2 = σ.2.2) := by
  obtain ⟨y1, y2, y3, y4, y5, y6, y7, y8, y9, y10, y11⟩ := hx
  have h60 := hD.2.2.2.1
  unfold cpDay
  refine wp_sI (fun t1 a1 b1 c1 d1 => ?_)
  refine wp_sI (fun t2 a2 b2 c2 d2 => ?_)
  refine wp_sI (fun t3 a3 b3 c3 d3 => ?_)
  refine wp_sJ (fun t4 a4 b4 c4 d4 => ?_)
  refine wp_sI (fun t5 a5 b5 c5 d5 => ?_)
  have k5 : ∀ q, q ≠ d → t5.1 q = σ.1 q := fun q hq => by rw [c5 q hq, a4, c3 q hq, c2 q hq, c1 q hq]
  have v5 : t5.1 d 4 = I (D 4 2) := by rw [a5, a4, c3 s (by omega), c2 s (by omega), c1 s (by omega)]; exact y8
  refine wp_cp (m := 7) rfl (by omega) (by omega) (fun t6 a6 c6 d6 => ?_)
  refine wp_cp (m := 6) rfl (by omega) (by omega) (fun t7 a7 c7 d7 => ?_)
  refine wp_cp (m := 6) rfl (by omega) (by omega) (fun t8 a8 c8 d8 => ?_)
  refine wp_cp (m := 6) rfl (by omega) (by omega) (fun t9 a9 c9 d9 => ?_)
  refine wp_cp (m := 36) rfl (by omega) (by omega) (fun t10 a10 c10 d10 => ?_)
  have k10 : ∀ q, ¬ (d ≤ q ∧ q ≤ d + 5) → t10.1 q = σ.1 q := fun q hq => by rw [c10 q (by omega), c9 q (by omega), c8 q (by omega), c7 q (by omega), c6 q (by omega), k5 q (by omega)]
  have v10 : t10.1 d = t5.1 d := by rw [c10 d (by omega), c9 d (by omega), c8 d (by omega), c7 d (by omega), c6 d (by omega)]
  refine wp_cp (m := D 4 2) (by rw [v10]; exact v5) (by omega) (by omega) (fun t11 a11 c11 d11 => ?_)
  refine wp_cp (m := D 4 2) (by rw [c11 d (by omega), v10]; exact v5) (by omega) (by omega) (fun t12 a12 c12 d12 => ?_)
  refine wp_cp (m := D 4 2) (by rw [c12 d (by omega), c11 d (by omega), v10]; exact v5) (by omega) (by omega) (fun t13 a13 c13 d13 => ?_)
  have v13 : t13.1 d = t5.1 d := by rw [c13 d (by omega), c12 d (by omega), c11 d (by omega), v10]
  have e2 : t13.2 = t5.2 := by rw [d13, d12, d11, d10, d9, d8, d7, d6]
  refine wp_some ⟨⟨?_, ?_, ?_, ?_, ?_, ?_, ?_, ?_, ?_, ?_, ?_⟩, ?_, ?_, ?_⟩
  · intro q hq
    rw [c13 _ (by omega), c12 _ (by omega), c11 _ (by omega), a10, cpy_at (by omega) (by omega), c9 _ (by omega), c8 _ (by omega), c7 _ (by omega), c6 _ (by omega), k5 _ (by omega), show 0 + (q - 0) = q by omega]
    exact y1 q hq
  · intro q hq
    rw [c13 _ (by omega), c12 _ (by omega), c11 _ (by omega), c10 _ (by omega), a9, cpy_at (by omega) (by omega), c8 _ (by omega), c7 _ (by omega), c6 _ (by omega), k5 _ (by omega), show 0 + (q - 0) = q by omega]
    exact y2 q hq
  · intro q hq
    rw [c13 _ (by omega), c12 _ (by omega), c11 _ (by omega), c10 _ (by omega), c9 _ (by omega), c8 _ (by omega), a7, cpy_at (by omega) (by omega), c6 _ (by omega), k5 _ (by omega), show 0 + (q - 0) = q by omega]
    exact y3 q hq
  · rw [e2, d5, b4, d3, d2, d1]; exact y4
  · rw [v13, b5 0 (by omega), a4, b3 0 (by omega), b2 0 (by omega), a1]; exact y5
  · rw [v13, b5 1 (by omega), a4, b3 1 (by omega), a2, c1 s (by omega)]; exact y6
  · rw [v13, b5 2 (by omega), a4, a3, c2 s (by omega), c1 s (by omega)]; exact y7
  · rw [v13]; exact v5
  · intro i hi
    rw [c13 (d + 6) (by omega), c12 (d + 6) (by omega), a11, cpy_at (by omega) (by omega), c13 (d + 7) (by omega), a12, cpy_at (by omega) (by omega), a13, cpy_at (by omega) (by omega), c12 (s + 8) (by omega), c11 (s + 8) (by omega), c11 (s + 7) (by omega), k10 _ (by omega), k10 _ (by omega), k10 _ (by omega), show 0 + (i - 0) = i by omega]
    exact y9 i hi
  · intro q hq
    rw [c13 _ (by omega), c12 _ (by omega), c11 _ (by omega), c10 _ (by omega), c9 _ (by omega), c8 _ (by omega), c7 _ (by omega), a6, cpy_at (by omega) (by omega), k5 _ (by omega), show 0 + (q - 0) = q by omega]
    exact y10 q hq
  · intro q hq
    rw [c13 _ (by omega), c12 _ (by omega), c11 _ (by omega), c10 _ (by omega), c9 _ (by omega), a8, cpy_at (by omega) (by omega), c7 _ (by omega), c6 _ (by omega), k5 _ (by omega), show 0 + (q - 0) = q by omega]
    exact y11 q hq
  · intro i hi
    rw [c13 i (by omega), c12 i (by omega), c11 i (by omega), k10 i (by omega)]
  · intro i hi
    rw [e2, d5, c4 i hi, d3, d2, d1]
  · rw [e2, d5, d4, d3, d2, d1]
theorem XD_congr {d n : Nat} {D D' : Vw} {σ : St} (h : ∀ a, a < 10 → ∀ b, D' a b = D a b) (hx : XD d n D σ) : XD d n D' σ := by
  unfold XD at *
  simp only [h 0 (by omega), h 3 (by omega), h 4 (by omega), h 5 (by omega), h 6 (by omega), h 7 (by omega), h 8 (by omega)]
  exact hx
theorem MD_congr {o n : Nat} {D D' : Vw} {σ : St} (h : ∀ a, a < 10 → ∀ b, D' a b = D a b) (hx : MD o n D σ) : MD o n D' σ := by
  unfold MD at *
  simp only [h 0 (by omega), h 3 (by omega), h 4 (by omega), h 5 (by omega), h 6 (by omega), h 7 (by omega), h 8 (by omega)]
  exact hx
theorem wfD_congr {n : Nat} {D D' : Vw} (h : ∀ a, a < 10 → ∀ b, D' a b = D a b) (hx : wfD n D) : wfD n D' := by
  unfold wfD at *
  simp only [h 3 (by omega), h 4 (by omega)]
  exact hx
theorem MD_cp {o o' n : Nat} {D : Vw} {σ τ : St} (hn : n ≤ 7) (hb : D 4 2 ≤ 60) (h : ∀ q, q < 240 → τ.1 16 (o' + q) = σ.1 16 (o + q)) (hx : MD o n D σ) : MD o' n D τ := by
  obtain ⟨a1, a2, a3, a4, a5, a6, a7, a8, a9, a10, a11⟩ := hx
  refine ⟨fun q hq => by rw [h q (by omega)]; exact a1 q hq, by rw [h 36 (by omega)]; exact a2, by rw [h 41 (by omega)]; exact a3, by rw [h 37 (by omega)]; exact a4, by rw [h 38 (by omega)]; exact a5, by rw [h 40 (by omega)]; exact a6, by rw [h 39 (by omega)]; exact a7, by rw [h 42 (by omega)]; exact a8, fun i hi => ?_, fun s hs => by rw [h _ (by omega)]; exact a10 s hs, fun c hc => by rw [h _ (by omega)]; exact a11 c hc⟩
  rw [h _ (by omega), h _ (by omega), h _ (by omega)]
  exact a9 i hi
def lyM (Mk D : Vw) (j : Nat) : Vw := fun a b => if a = 0 ∧ b = j then 1 else if 10 + 10 * j ≤ a ∧ a < 20 + 10 * j then D (a - (10 + 10 * j)) b else Mk a b
theorem lyM_j (Mk D : Vw) (j : Nat) : ∀ a, a < 10 → ∀ b, dayOf (lyM Mk D j) j a b = D a b := fun a ha b => by
  unfold dayOf lyM
  rw [if_neg (by omega), if_pos (by omega), show 10 + 10 * j + a - (10 + 10 * j) = a by omega]
theorem lyM_i (Mk D : Vw) {i j : Nat} (h : i ≠ j) : ∀ a, a < 10 → ∀ b, dayOf (lyM Mk D j) i a b = dayOf Mk i a b := fun a ha b => by
  unfold dayOf lyM
  rw [if_neg (by omega), if_neg (by omega)]
theorem lyM_0 (Mk D : Vw) (i j : Nat) : lyM Mk D j 0 i = if i = j then 1 else Mk 0 i := by
  unfold lyM
  by_cases e : i = j
  · rw [if_pos ⟨rfl, e⟩, if_pos e]
  · rw [if_neg (fun h => e h.2), if_neg (by omega), if_neg e]
def noU (D : Vw) : Vw := fun a b => if a = 0 then 0 else if b = 36 then D 4 5 else D 0 b
theorem po_mark : PO_mark Inv := by
  intro σx σm h v w hw01
  obtain ⟨T, R, D, Mk, U, n, tp, LD, LP, hw, hx, hm⟩ := h
  have hm' := GM_0 hw 0 hm
  have no : rX_mark v w σx = some (0, σx) → rM_mark v w σm = some (0, setI σm 0 0 0) → ∃ (r : Int32) (x m : St), rX_mark v w σx = some (r, x) ∧ rM_mark v w σm = some (r, m) ∧ Inv x m := fun e1 e2 => ⟨0, _, _, e1, e2, T, R, D, Mk, U, n, tp, LD, LP, hw, hx, hm'⟩
  have h7 := hw.1.1
  by_cases hv : 0 ≤ v ∧ v ≤ 3
  · obtain ⟨j, rfl, hj⟩ := I_of hv.1
    have hj4 : j < 4 := by
      have := hv.2
      rw [litN, I_le hj (by omega)] at this
      omega
    have eX : rX_mark (I j) w σx = brc (w = 0) (rX_mark_24 (I j) w σx) (brc (¬ I (Mk 0 j) = 0) (rX_mark_24 (I j) w σx) (some (0, σx))) := by
      unfold rX_mark rX_mark_22
      rw [brc_f (not_lt32.mpr hv.1), brc_f (show ¬ (4 : Int32) ≤ I j by rw [litN, I_le (by omega) (by omega)]; omega), chk_t (ib_I hj4 (by omega)), I_cl (by omega), (hx.2.2.2.1 j hj4).1]; rfl
    have eM : rM_mark (I j) w σm = brc (w = 0) (rM_mark_29 (I j) w (setI σm 0 0 0)) (brc (¬ I (Mk 0 j) = 0) (rM_mark_29 (I j) w (setI σm 0 0 0)) (some (0, setI σm 0 0 0))) := by
      unfold rM_mark rM_mark_27
      rw [nmE, eM_within, bnd2_e, b01_t hv, brc_f b01_1, chk_t (ib_I hj4 (by omega)), I_cl (by omega), (hm'.2.2.2.1 j hj4).1]; rfl
    rcases hw01 with rfl | rfl
    · rw [brc_t rfl] at eX eM
      have e24 : rX_mark_24 (I j) 0 σx = bnd1 (cpDay 33 (61 + 9 * j) σx) fun σ_2 => some (1, setI σ_2 4 j 1) := by
        unfold rX_mark_24 rX_mark_73
        rw [brc_t rfl, chk_t (ib_I hj4 (by omega)), I_cl (by omega), dayTo_cp]
        simp only [chk_t (ib_I hj4 (show 4 < 2147483648 by omega)), nmS]
        rfl
      have e29 : rM_mark_29 (I j) 0 (setI σm 0 0 0) = some (1, setR (setI (setI σm 0 0 0) 17 j 1) 16 (va_cpy ((setI σm 0 0 0).1 16) ((setI σm 0 0 0).1 16) 0 (240 * (1 + j)) 240)) := by
        unfold rM_mark_29 rM_mark_70
        rw [brc_t rfl, chk_t (ib_I hj4 (by omega)), I_cl (by omega), nmE, I1, I_add, show (240 : Int32) = I 240 from rfl, show (0 : Int32) = I 0 from rfl, eM_copies (by omega) (by omega) (by omega) (by omega), bnd1_e, gI_ne1 _ _ _ (show (16 : Nat) ≠ 17 by decide)]
        rfl
      obtain ⟨τ, e1, x1, x2, x3, x4⟩ := e_cpDay (s := 33) (d := 61 + 9 * j) (by omega) h7 hw.2.1 hx.2.1
      rw [e24, e1, bnd1_e] at eX
      rw [e29] at eM
      refine ⟨1, _, _, eX, eM, T, R, D, lyM Mk D j, U, n, tp, LD, LP, ⟨hw.1, hw.2.1, hw.2.2.1, ?_, hw.2.2.2.2⟩, ?_, ?_⟩
      · intro i hi
        rw [lyM_0]
        by_cases e : i = j
        · rw [if_pos e, e]
          exact ⟨Nat.le_refl _, fun _ => wfD_congr (lyM_j Mk D j) hw.2.1⟩
        · rw [if_neg e]
          exact ⟨(hw.2.2.2.1 i hi).1, fun hl => wfD_congr (lyM_i Mk D e) ((hw.2.2.2.1 i hi).2 hl)⟩
      · have g : ∀ i, i ≠ 4 → ¬ (61 + 9 * j ≤ i ∧ i ≤ 61 + 9 * j + 8) → (setI τ 4 j 1).1 i = σx.1 i := fun i h1 h2 => by
          rw [gI_ne1 _ _ _ h1, x2 i h2]
        obtain ⟨a1, a2, a3, a4, a5, a6, a7, a8, a9⟩ := hx
        refine ⟨XMt_fr (fun i h1 h2 => g i (by omega) (by omega)) a1, XD_fr (fun i h1 h2 => g i (by omega) (by omega)) (x3 33 (by omega)) a2, XR_fr (by rw [g 42 (by omega) (by omega)]) (g 43 (by omega) (by omega)) (g 44 (by omega) (by omega)) a3, ?_, XU_fr (by rw [g 0 (by omega) (by omega)]) (g 1 (by omega) (by omega)) (g 2 (by omega) (by omega)) a5, XP_fr (by rw [g 5 (by omega) (by omega)]) (g 6 (by omega) (by omega)) a6, XL_fr x4 a7, XA_fr (by rw [g 49 (by omega) (by omega)]) (by rw [g 49 (by omega) (by omega)]) (g 52 (by omega) (by omega)) (g 53 (by omega) (by omega)) (g 54 (by omega) (by omega)) (g 56 (by omega) (by omega)) a8, XN_fr x4 a9⟩
        intro i hi
        rw [lyM_0]
        by_cases e : i = j
        · rw [if_pos e, e, gI_same]
          refine ⟨rfl, fun _ => XD_congr (lyM_j Mk D j) (XD_fr (fun i h1 h2 => gI_ne1 _ _ _ (by omega)) rfl x1)⟩
        · rw [if_neg e, gI_ne2 _ _ _ e, x2 4 (by omega)]
          refine ⟨(a4 i hi).1, fun hl => XD_congr (lyM_i Mk D e) (XD_fr (fun q h1 h2 => g q (by omega) (by omega)) (x3 _ (by omega)) ((a4 i hi).2 hl))⟩
      · have g : ∀ q, ¬ (240 * (1 + j) ≤ q ∧ q < 240 * (1 + j) + 240) → (setR (setI (setI σm 0 0 0) 17 j 1) 16 (va_cpy ((setI σm 0 0 0).1 16) ((setI σm 0 0 0).1 16) 0 (240 * (1 + j)) 240)).1 16 q = (setI σm 0 0 0).1 16 q := fun q hq => by
          rw [setR_same, cpy_off hq]
        have gc : ∀ q, q < 240 → (setR (setI (setI σm 0 0 0) 17 j 1) 16 (va_cpy ((setI σm 0 0 0).1 16) ((setI σm 0 0 0).1 16) 0 (240 * (1 + j)) 240)).1 16 (240 * (1 + j) + q) = (setI σm 0 0 0).1 16 (0 + q) := fun q hq => by
          rw [setR_same, cpy_at (by omega) (by omega), show 0 + (240 * (1 + j) + q - 240 * (1 + j)) = 0 + q by omega]
        have gi : ∀ i, i ≠ 16 → i ≠ 17 → (setR (setI (setI σm 0 0 0) 17 j 1) 16 (va_cpy ((setI σm 0 0 0).1 16) ((setI σm 0 0 0).1 16) 0 (240 * (1 + j)) 240)).1 i = (setI σm 0 0 0).1 i := fun i h1 h2 => by
          rw [setR_ne _ _ h1, gI_ne1 _ _ _ h2]
        obtain ⟨a1, a2, a3, a4, a5, a6, a7, a8⟩ := hm'
        refine ⟨MT_fr (gi 6 (by omega) (by omega)) a1, MD_fr h7 hw.2.1.2.2.2.1 (fun q hq => g _ (by omega)) a2, MR_fr (by rw [gi 0 (by omega) (by omega)]) (gi 18 (by omega) (by omega)) a3, ?_, MU_fr (by rw [gi 0 (by omega) (by omega)]) hw.2.2.2.2.1.1 (fun q h1 h2 => g q (by omega)) a5, MP_fr (by rw [gi 0 (by omega) (by omega)]) (gi 1 (by omega) (by omega)) a6, MLw_fr (gi 6 (by omega) (by omega)) (gi 8 (by omega) (by omega)) (gi 9 (by omega) (by omega)) a7, MC_fr (gi 12 (by omega) (by omega)) (gi 13 (by omega) (by omega)) rfl a8⟩
        intro i hi
        rw [lyM_0, setR_ne _ _ (show (17 : Nat) ≠ 16 by decide)]
        by_cases e : i = j
        · rw [if_pos e, e, gI_same]
          exact ⟨rfl, fun _ => MD_congr (lyM_j Mk D j) (MD_cp h7 hw.2.1.2.2.2.1 gc a2)⟩
        · rw [if_neg e, gI_ne2 _ _ _ e]
          exact ⟨(a4 i hi).1, fun hl => MD_congr (lyM_i Mk D e) (MD_fr h7 ((hw.2.2.2.1 i hi).2 hl).2.2.2.1 (fun q hq => g _ (by omega)) ((a4 i hi).2 hl))⟩
    · rw [brc_f (show ¬ (1 : Int32) = 0 by decide)] at eX eM
      have hl1 := (hw.2.2.2.1 j hj4).1
      by_cases hl : Mk 0 j = 1
      · have hne : ¬ I (Mk 0 j) = 0 := by rw [hl]; decide
        rw [brc_t hne] at eX eM
        have hwj := (hw.2.2.2.1 j hj4).2 hl
        have e24 : rX_mark_24 (I j) 1 σx = bnd1 (cpDay (61 + 9 * j) 33 σx) fun σ_2 => some (1, setI (setI (setI σ_2 0 11 0) 49 8 0) 54 9 0) := by
          unfold rX_mark_24 rX_mark_73
          rw [brc_f (show ¬ (1 : Int32) = 0 by decide), chk_t (ib_I hj4 (by omega)), I_cl (by omega), dayFrom_cp]
          simp only [eX_forget, nmS, bnd1S]
          rfl
        have e29 : rM_mark_29 (I j) 1 (setI σm 0 0 0) = some (1, setI (setR (setI σm 0 0 0) 16 (va_cpy ((setI σm 0 0 0).1 16) ((setI σm 0 0 0).1 16) (240 * (1 + j)) 0 240)) 0 25 0) := by
          unfold rM_mark_29 rM_mark_70
          rw [brc_f (show ¬ (1 : Int32) = 0 by decide), I1, I_add, show (240 : Int32) = I 240 from rfl, show (0 : Int32) = I 0 from rfl, eM_copies (by omega) (by omega) (by omega) (by omega), bnd1_e]
          rfl
        obtain ⟨τ, e1, x1, x2, x3, x4⟩ := e_cpDay (s := 61 + 9 * j) (d := 33) (by omega) h7 hwj ((hx.2.2.2.1 j hj4).2 hl)
        rw [e24, e1, bnd1_e] at eX
        rw [e29] at eM
        refine ⟨1, _, _, eX, eM, T, R, dayOf Mk j, Mk, noU (dayOf Mk j), n, tp, LD, LP, ⟨hw.1, hwj, hw.2.2.1, hw.2.2.2.1, ?_, hw.2.2.2.2.2⟩, ?_, ?_⟩
        · refine ⟨Nat.zero_le _, fun q hq => ?_, rfl, fun k hk => absurd hk (Nat.not_lt_zero _)⟩
          unfold noU
          rw [if_neg (by omega), if_neg (by omega)]
        · refine GX_u hx (fun i h1 h2 h3 => by rw [gI_ne1 _ _ _ (by simp at h2; omega), gI_ne1 _ _ _ (by simp at h2; omega), gI_ne1 _ _ _ (by simp at h2; omega), x2 i (by omega)]) (fun i _ h => x3 i h) x4 (XD_fr (fun i h1 h2 => by rw [gI_ne1 _ _ _ (by omega), gI_ne1 _ _ _ (by omega), gI_ne1 _ _ _ (by omega)]) rfl x1) ⟨?_, fun k hk => absurd hk (Nat.not_lt_zero _)⟩ ?_ ?_
          · rw [gI_ne1 _ _ _ (by decide), gI_ne1 _ _ _ (by decide), gI_same]; rfl
          · rw [gI_ne1 _ _ _ (by decide), gI_same]
          · rw [gI_same]
        · refine GM_u hw hm' (fun i _ h1 h2 => by rw [gI_ne1 _ _ _ h1, setR_ne _ _ h2]) (fun i _ h => by rw [gI_ne2 _ _ _ h, setR_ne _ _ (by decide)]) (fun q h1 h2 => by rw [gI_ne1 _ _ _ (by decide), setR_same, cpy_off (by omega)]) rfl (MD_cp (o := 240 * (1 + j)) h7 hwj.2.2.2.1 (fun q hq => by rw [gI_ne1 _ _ _ (by decide), setR_same, cpy_at (by omega) (by omega), show 240 * (1 + j) + (0 + q - 0) = 240 * (1 + j) + q by omega]) ((hm'.2.2.2.1 j hj4).2 hl)) ⟨?_, fun k hk => absurd hk (Nat.not_lt_zero _)⟩
          rw [gI_same]; rfl
      · have hz : Mk 0 j = 0 := by omega
        rw [hz, brc_f (fun h => h rfl)] at eX eM
        exact no eX eM
  · refine no ?_ ?_
    · unfold rX_mark rX_mark_22
      by_cases h0 : v < 0
      · rw [brc_t h0]; rfl
      · rw [brc_f h0, brc_t (show (4 : Int32) ≤ v from ?_)]
        · rfl
        · have h3 : ¬ v ≤ 3 := fun h => hv ⟨not_lt32.mp h0, h⟩
          rw [Int32.le_iff_toInt_le, show (3 : Int32).toInt = 3 from rfl] at h3
          rw [Int32.le_iff_toInt_le, show (4 : Int32).toInt = 4 from rfl]
          omega
    · unfold rM_mark rM_mark_27
      rw [nmE, eM_within, bnd2_e, b01_f hv, brc_t rfl]; rfl
