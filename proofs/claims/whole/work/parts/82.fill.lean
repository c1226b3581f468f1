/-! fills and copies -/
theorem cpy_at {f g : Nat → Int32} {sp dp n k : Nat} (h1 : dp ≤ k) (h2 : k < dp + n) : va_cpy f g sp dp n k = f (sp + (k - dp)) := if_pos ⟨h1, h2⟩
theorem cpy_off {f g : Nat → Int32} {sp dp n k : Nat} (h : ¬ (dp ≤ k ∧ k < dp + n)) : va_cpy f g sp dp n k = g k := if_neg h
theorem setR_congr {σ : St} {i : Nat} {f g : Nat → Int32} (h : ∀ k, f k = g k) : setR σ i f = setR σ i g := by
  rw [show f = g from funext h]
theorem setR_setR (σ : St) (i : Nat) (f g : Nat → Int32) : setR (setR σ i f) i g = setR σ i g := by
  unfold setR
  congr 1
  funext a
  by_cases h : a = i
  · rw [if_pos h, if_pos h]
  · rw [if_neg h, if_neg h]
    exact if_neg h
theorem eX_fill_minutes (v : Int32) (σ : St) : rX_fill_minutes v σ = some (setR σ 13 (fun j => if j < 49 then v else σ.1 13 j)) := by
  have h : wp (rX_fill_minutes v σ) (fun τ => τ = setR σ 13 (fun j => if j < 49 then v else σ.1 13 j)) := by
    unfold rX_fill_minutes
    rw [nmE, nmE]
    refine wp_for (fun n a => ∃ i : Nat, i + n = 49 ∧ a = (v, I i, I 49, setR σ 13 (fun j => if j < i then v else σ.1 13 j))) ?_ ?_ 49 fu _ ⟨0, by omega, ?_⟩ (by unfold fu; omega)
    · rintro n a k ⟨i, hi, rfl⟩ hk
      show wp (rX_fill_minutes_5 (fun v1 v2 v3 σ => k (v1, v2, v3, σ)) v (I i) (I 49) _) _
      unfold rX_fill_minutes_5
      rw [brc_f (show ¬ I 49 ≤ I i by rw [I_le (by omega) (by omega)]; omega), chk_t (ib_I (by omega) (by omega)), nmE, nmE, oi1, I_add, I_cl (by omega), setI_setR]
      refine hk _ ⟨i + 1, by omega, ?_⟩
      rw [setR_congr (σ := σ) (i := 13) (f := upd (fun j => if j < i then v else σ.1 13 j) i v) (g := fun j => if j < i + 1 then v else σ.1 13 j) (fun q => by
        unfold upd
        by_cases e : q = i
        · rw [if_pos e, if_pos (by omega)]
        · rw [if_neg e]
          show (if q < i then v else _) = _
          by_cases e2 : q < i
          · rw [if_pos e2, if_pos (by omega)]
          · rw [if_neg e2, if_neg (by omega)])]
    · rintro a k ⟨i, hi, rfl⟩
      show wp (rX_fill_minutes_5 (fun v1 v2 v3 σ => k (v1, v2, v3, σ)) v (I i) (I 49) _) _
      unfold rX_fill_minutes_5
      rw [brc_t (show I 49 ≤ I i by rw [I_le (by omega) (by omega)]; omega), show i = 49 by omega]
      exact wp_some rfl
    · rw [setR_congr (σ := σ) (i := 13) (f := fun j => if j < 0 then v else σ.1 13 j) (g := σ.1 13) (fun q => if_neg (Nat.not_lt_zero _)), setR_id]
      rfl
  obtain ⟨τ, e, rfl⟩ := h
  exact e
theorem eX_fill_ddebts (v : Int32) (σ : St) : rX_fill_ddebts v σ = some (setR σ 19 (fun j => if j < 36 then v else σ.1 19 j)) := by
  have h : wp (rX_fill_ddebts v σ) (fun τ => τ = setR σ 19 (fun j => if j < 36 then v else σ.1 19 j)) := by
    unfold rX_fill_ddebts
    rw [nmE, nmE]
    refine wp_for (fun n a => ∃ i : Nat, i + n = 36 ∧ a = (v, I i, I 36, setR σ 19 (fun j => if j < i then v else σ.1 19 j))) ?_ ?_ 36 fu _ ⟨0, by omega, ?_⟩ (by unfold fu; omega)
    · rintro n a k ⟨i, hi, rfl⟩ hk
      show wp (rX_fill_ddebts_5 (fun v1 v2 v3 σ => k (v1, v2, v3, σ)) v (I i) (I 36) _) _
      unfold rX_fill_ddebts_5
      rw [brc_f (show ¬ I 36 ≤ I i by rw [I_le (by omega) (by omega)]; omega), chk_t (ib_I (by omega) (by omega)), nmE, nmE, oi1, I_add, I_cl (by omega), setI_setR]
      refine hk _ ⟨i + 1, by omega, ?_⟩
      rw [setR_congr (σ := σ) (i := 19) (f := upd (fun j => if j < i then v else σ.1 19 j) i v) (g := fun j => if j < i + 1 then v else σ.1 19 j) (fun q => by
        unfold upd
        by_cases e : q = i
        · rw [if_pos e, if_pos (by omega)]
        · rw [if_neg e]
          show (if q < i then v else _) = _
          by_cases e2 : q < i
          · rw [if_pos e2, if_pos (by omega)]
          · rw [if_neg e2, if_neg (by omega)])]
    · rintro a k ⟨i, hi, rfl⟩
      show wp (rX_fill_ddebts_5 (fun v1 v2 v3 σ => k (v1, v2, v3, σ)) v (I i) (I 36) _) _
      unfold rX_fill_ddebts_5
      rw [brc_t (show I 36 ≤ I i by rw [I_le (by omega) (by omega)]; omega), show i = 36 by omega]
      exact wp_some rfl
    · rw [setR_congr (σ := σ) (i := 19) (f := fun j => if j < 0 then v else σ.1 19 j) (g := σ.1 19) (fun q => if_neg (Nat.not_lt_zero _)), setR_id]
      rfl
  obtain ⟨τ, e, rfl⟩ := h
  exact e
theorem eX_fill_gone (v : Int32) (σ : St) : rX_fill_gone v σ = some (setR σ 35 (fun j => if j < 6 then v else σ.1 35 j)) := by
  have h : wp (rX_fill_gone v σ) (fun τ => τ = setR σ 35 (fun j => if j < 6 then v else σ.1 35 j)) := by
    unfold rX_fill_gone
    rw [nmE, nmE]
    refine wp_for (fun n a => ∃ i : Nat, i + n = 6 ∧ a = (v, I i, I 6, setR σ 35 (fun j => if j < i then v else σ.1 35 j))) ?_ ?_ 6 fu _ ⟨0, by omega, ?_⟩ (by unfold fu; omega)
    · rintro n a k ⟨i, hi, rfl⟩ hk
      show wp (rX_fill_gone_5 (fun v1 v2 v3 σ => k (v1, v2, v3, σ)) v (I i) (I 6) _) _
      unfold rX_fill_gone_5
      rw [brc_f (show ¬ I 6 ≤ I i by rw [I_le (by omega) (by omega)]; omega), chk_t (ib_I (by omega) (by omega)), nmE, nmE, oi1, I_add, I_cl (by omega), setI_setR]
      refine hk _ ⟨i + 1, by omega, ?_⟩
      rw [setR_congr (σ := σ) (i := 35) (f := upd (fun j => if j < i then v else σ.1 35 j) i v) (g := fun j => if j < i + 1 then v else σ.1 35 j) (fun q => by
        unfold upd
        by_cases e : q = i
        · rw [if_pos e, if_pos (by omega)]
        · rw [if_neg e]
          show (if q < i then v else _) = _
          by_cases e2 : q < i
          · rw [if_pos e2, if_pos (by omega)]
          · rw [if_neg e2, if_neg (by omega)])]
    · rintro a k ⟨i, hi, rfl⟩
      show wp (rX_fill_gone_5 (fun v1 v2 v3 σ => k (v1, v2, v3, σ)) v (I i) (I 6) _) _
      unfold rX_fill_gone_5
      rw [brc_t (show I 6 ≤ I i by rw [I_le (by omega) (by omega)]; omega), show i = 6 by omega]
      exact wp_some rfl
    · rw [setR_congr (σ := σ) (i := 35) (f := fun j => if j < 0 then v else σ.1 35 j) (g := σ.1 35) (fun q => if_neg (Nat.not_lt_zero _)), setR_id]
      rfl
  obtain ⟨τ, e, rfl⟩ := h
  exact e
theorem eX_fill_paid (v : Int32) (σ : St) : rX_fill_paid v σ = some (setR σ 36 (fun j => if j < 6 then v else σ.1 36 j)) := by
  have h : wp (rX_fill_paid v σ) (fun τ => τ = setR σ 36 (fun j => if j < 6 then v else σ.1 36 j)) := by
    unfold rX_fill_paid
    rw [nmE, nmE]
    refine wp_for (fun n a => ∃ i : Nat, i + n = 6 ∧ a = (v, I i, I 6, setR σ 36 (fun j => if j < i then v else σ.1 36 j))) ?_ ?_ 6 fu _ ⟨0, by omega, ?_⟩ (by unfold fu; omega)
    · rintro n a k ⟨i, hi, rfl⟩ hk
      show wp (rX_fill_paid_5 (fun v1 v2 v3 σ => k (v1, v2, v3, σ)) v (I i) (I 6) _) _
      unfold rX_fill_paid_5
      rw [brc_f (show ¬ I 6 ≤ I i by rw [I_le (by omega) (by omega)]; omega), chk_t (ib_I (by omega) (by omega)), nmE, nmE, oi1, I_add, I_cl (by omega), setI_setR]
      refine hk _ ⟨i + 1, by omega, ?_⟩
      rw [setR_congr (σ := σ) (i := 36) (f := upd (fun j => if j < i then v else σ.1 36 j) i v) (g := fun j => if j < i + 1 then v else σ.1 36 j) (fun q => by
        unfold upd
        by_cases e : q = i
        · rw [if_pos e, if_pos (by omega)]
        · rw [if_neg e]
          show (if q < i then v else _) = _
          by_cases e2 : q < i
          · rw [if_pos e2, if_pos (by omega)]
          · rw [if_neg e2, if_neg (by omega)])]
    · rintro a k ⟨i, hi, rfl⟩
      show wp (rX_fill_paid_5 (fun v1 v2 v3 σ => k (v1, v2, v3, σ)) v (I i) (I 6) _) _
      unfold rX_fill_paid_5
      rw [brc_t (show I 6 ≤ I i by rw [I_le (by omega) (by omega)]; omega), show i = 6 by omega]
      exact wp_some rfl
    · rw [setR_congr (σ := σ) (i := 36) (f := fun j => if j < 0 then v else σ.1 36 j) (g := σ.1 36) (fun q => if_neg (Nat.not_lt_zero _)), setR_id]
      rfl
  obtain ⟨τ, e, rfl⟩ := h
  exact e
theorem eX_fill_patches (v : Int32) (σ : St) : rX_fill_patches v σ = some (setR σ 37 (fun j => if j < 6 then v else σ.1 37 j)) := by
  have h : wp (rX_fill_patches v σ) (fun τ => τ = setR σ 37 (fun j => if j < 6 then v else σ.1 37 j)) := by
    unfold rX_fill_patches
    rw [nmE, nmE]
    refine wp_for (fun n a => ∃ i : Nat, i + n = 6 ∧ a = (v, I i, I 6, setR σ 37 (fun j => if j < i then v else σ.1 37 j))) ?_ ?_ 6 fu _ ⟨0, by omega, ?_⟩ (by unfold fu; omega)
    · rintro n a k ⟨i, hi, rfl⟩ hk
      show wp (rX_fill_patches_5 (fun v1 v2 v3 σ => k (v1, v2, v3, σ)) v (I i) (I 6) _) _
      unfold rX_fill_patches_5
      rw [brc_f (show ¬ I 6 ≤ I i by rw [I_le (by omega) (by omega)]; omega), chk_t (ib_I (by omega) (by omega)), nmE, nmE, oi1, I_add, I_cl (by omega), setI_setR]
      refine hk _ ⟨i + 1, by omega, ?_⟩
      rw [setR_congr (σ := σ) (i := 37) (f := upd (fun j => if j < i then v else σ.1 37 j) i v) (g := fun j => if j < i + 1 then v else σ.1 37 j) (fun q => by
        unfold upd
        by_cases e : q = i
        · rw [if_pos e, if_pos (by omega)]
        · rw [if_neg e]
          show (if q < i then v else _) = _
          by_cases e2 : q < i
          · rw [if_pos e2, if_pos (by omega)]
          · rw [if_neg e2, if_neg (by omega)])]
    · rintro a k ⟨i, hi, rfl⟩
      show wp (rX_fill_patches_5 (fun v1 v2 v3 σ => k (v1, v2, v3, σ)) v (I i) (I 6) _) _
      unfold rX_fill_patches_5
      rw [brc_t (show I 6 ≤ I i by rw [I_le (by omega) (by omega)]; omega), show i = 6 by omega]
      exact wp_some rfl
    · rw [setR_congr (σ := σ) (i := 37) (f := fun j => if j < 0 then v else σ.1 37 j) (g := σ.1 37) (fun q => if_neg (Nat.not_lt_zero _)), setR_id]
      rfl
  obtain ⟨τ, e, rfl⟩ := h
  exact e
theorem eX_fill_from (v : Int32) (σ : St) : rX_fill_from v σ = some (setR σ 51 (fun j => if j < 1407 then v else σ.1 51 j)) := by
  have h : wp (rX_fill_from v σ) (fun τ => τ = setR σ 51 (fun j => if j < 1407 then v else σ.1 51 j)) := by
    unfold rX_fill_from
    rw [nmE, nmE]
    refine wp_for (fun n a => ∃ i : Nat, i + n = 1407 ∧ a = (v, I i, I 1407, setR σ 51 (fun j => if j < i then v else σ.1 51 j))) ?_ ?_ 1407 fu _ ⟨0, by omega, ?_⟩ (by unfold fu; omega)
    · rintro n a k ⟨i, hi, rfl⟩ hk
      show wp (rX_fill_from_5 (fun v1 v2 v3 σ => k (v1, v2, v3, σ)) v (I i) (I 1407) _) _
      unfold rX_fill_from_5
      rw [brc_f (show ¬ I 1407 ≤ I i by rw [I_le (by omega) (by omega)]; omega), chk_t (ib_I (by omega) (by omega)), nmE, nmE, oi1, I_add, I_cl (by omega), setI_setR]
      refine hk _ ⟨i + 1, by omega, ?_⟩
      rw [setR_congr (σ := σ) (i := 51) (f := upd (fun j => if j < i then v else σ.1 51 j) i v) (g := fun j => if j < i + 1 then v else σ.1 51 j) (fun q => by
        unfold upd
        by_cases e : q = i
        · rw [if_pos e, if_pos (by omega)]
        · rw [if_neg e]
          show (if q < i then v else _) = _
          by_cases e2 : q < i
          · rw [if_pos e2, if_pos (by omega)]
          · rw [if_neg e2, if_neg (by omega)])]
    · rintro a k ⟨i, hi, rfl⟩
      show wp (rX_fill_from_5 (fun v1 v2 v3 σ => k (v1, v2, v3, σ)) v (I i) (I 1407) _) _
      unfold rX_fill_from_5
      rw [brc_t (show I 1407 ≤ I i by rw [I_le (by omega) (by omega)]; omega), show i = 1407 by omega]
      exact wp_some rfl
    · rw [setR_congr (σ := σ) (i := 51) (f := fun j => if j < 0 then v else σ.1 51 j) (g := σ.1 51) (fun q => if_neg (Nat.not_lt_zero _)), setR_id]
      rfl
  obtain ⟨τ, e, rfl⟩ := h
  exact e
theorem eX_fill_setsWith (v : Int32) (σ : St) : rX_fill_setsWith v σ = some (setR σ 58 (fun j => if j < 6 then v else σ.1 58 j)) := by
  have h : wp (rX_fill_setsWith v σ) (fun τ => τ = setR σ 58 (fun j => if j < 6 then v else σ.1 58 j)) := by
    unfold rX_fill_setsWith
    rw [nmE, nmE]
    refine wp_for (fun n a => ∃ i : Nat, i + n = 6 ∧ a = (v, I i, I 6, setR σ 58 (fun j => if j < i then v else σ.1 58 j))) ?_ ?_ 6 fu _ ⟨0, by omega, ?_⟩ (by unfold fu; omega)
    · rintro n a k ⟨i, hi, rfl⟩ hk
      show wp (rX_fill_setsWith_5 (fun v1 v2 v3 σ => k (v1, v2, v3, σ)) v (I i) (I 6) _) _
      unfold rX_fill_setsWith_5
      rw [brc_f (show ¬ I 6 ≤ I i by rw [I_le (by omega) (by omega)]; omega), chk_t (ib_I (by omega) (by omega)), nmE, nmE, oi1, I_add, I_cl (by omega), setI_setR]
      refine hk _ ⟨i + 1, by omega, ?_⟩
      rw [setR_congr (σ := σ) (i := 58) (f := upd (fun j => if j < i then v else σ.1 58 j) i v) (g := fun j => if j < i + 1 then v else σ.1 58 j) (fun q => by
        unfold upd
        by_cases e : q = i
        · rw [if_pos e, if_pos (by omega)]
        · rw [if_neg e]
          show (if q < i then v else _) = _
          by_cases e2 : q < i
          · rw [if_pos e2, if_pos (by omega)]
          · rw [if_neg e2, if_neg (by omega)])]
    · rintro a k ⟨i, hi, rfl⟩
      show wp (rX_fill_setsWith_5 (fun v1 v2 v3 σ => k (v1, v2, v3, σ)) v (I i) (I 6) _) _
      unfold rX_fill_setsWith_5
      rw [brc_t (show I 6 ≤ I i by rw [I_le (by omega) (by omega)]; omega), show i = 6 by omega]
      exact wp_some rfl
    · rw [setR_congr (σ := σ) (i := 58) (f := fun j => if j < 0 then v else σ.1 58 j) (g := σ.1 58) (fun q => if_neg (Nat.not_lt_zero _)), setR_id]
      rfl
  obtain ⟨τ, e, rfl⟩ := h
  exact e
theorem eM_copies {a b m : Nat} (ha : a ≤ 24) (hb : b ≤ 24) (hab : a ≠ b) (hm : m ≤ 240) (σ : St) : rM_copies (I a) (I b) (I m) σ = some (setR σ 16 (va_cpy (σ.1 16) (σ.1 16) (240 * a) (240 * b) m)) := by
  have h : wp (rM_copies (I a) (I b) (I m) σ) (fun τ => τ = setR σ 16 (va_cpy (σ.1 16) (σ.1 16) (240 * a) (240 * b) m)) := by
    unfold rM_copies
    rw [nmE]
    refine wp_for (fun n x => ∃ i : Nat, i + n = m ∧ x = (I a, I b, I m, I i, setR σ 16 (va_cpy (σ.1 16) (σ.1 16) (240 * a) (240 * b) i))) ?_ ?_ m fu _ ⟨0, by omega, ?_⟩ (by unfold fu; omega)
    · rintro n x k ⟨i, hi, rfl⟩ hk
      show wp (rM_copies_3 (fun v1 v2 v3 v4 σ => k (v1, v2, v3, v4, σ)) (I a) (I b) (I m) (I i) _) _
      unfold rM_copies_3
      rw [brc_f (show ¬ I m ≤ I i by rw [I_le (by omega) (by omega)]; omega)]
      simp only [litN, I_mul, I_add]
      rw [chk_t (ib_I (by omega) (by omega)), chk_t (ib_I (by omega) (by omega)), nmE, nmE, oi1, I_add, I_cl (by omega), I_cl (by omega), setI_setR, setR_same, cpy_off (k := 240 * a + i) (by omega)]
      refine hk _ ⟨i + 1, by omega, ?_⟩
      rw [setR_congr (σ := σ) (i := 16) (f := upd (va_cpy (σ.1 16) (σ.1 16) (240 * a) (240 * b) i) (240 * b + i) (σ.1 16 (240 * a + i))) (g := va_cpy (σ.1 16) (σ.1 16) (240 * a) (240 * b) (i + 1)) (fun q => by
        unfold upd
        by_cases e : q = 240 * b + i
        · rw [if_pos e, cpy_at (by omega) (by omega), show 240 * a + (q - 240 * b) = 240 * a + i by omega]
        · rw [if_neg e]
          by_cases e2 : 240 * b ≤ q ∧ q < 240 * b + i
          · rw [cpy_at e2.1 e2.2, cpy_at (by omega) (by omega)]
          · rw [cpy_off e2, cpy_off (by omega)])]
    · rintro x k ⟨i, hi, rfl⟩
      show wp (rM_copies_3 (fun v1 v2 v3 v4 σ => k (v1, v2, v3, v4, σ)) (I a) (I b) (I m) (I i) _) _
      unfold rM_copies_3
      rw [brc_t (show I m ≤ I i by rw [I_le (by omega) (by omega)]; omega), show i = m by omega]
      exact wp_some rfl
    · rw [setR_congr (σ := σ) (i := 16) (f := va_cpy (σ.1 16) (σ.1 16) (240 * a) (240 * b) 0) (g := σ.1 16) (fun q => cpy_off (by omega)), setR_id]
      rfl
  obtain ⟨τ, e, rfl⟩ := h
  exact e
