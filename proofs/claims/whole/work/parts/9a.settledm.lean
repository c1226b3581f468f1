/-! settled, in the reference -/
theorem eM_sumOf {T D : Vw} {σ : St} (hw : wfT T) (hT : MT T σ) (hD : ∀ q, q < 36 → σ.1 16 q = I (D 0 q)) {s : Nat} (hs : s < 64) : rM_sumOf (I s) σ = some (sm (blD D) s (T 0 2), σ) := by
  have h6 := hw.2.1
  have goal : wp (rM_sumOf (I s) σ) (fun r => r = (sm (blD D) s (T 0 2), σ)) := by
    unfold rM_sumOf
    rw [nmE, nmE]
    refine wp_for (fun n a => ∃ c : Nat, c + n = T 0 2 ∧ a = (I s, sm (blD D) s c, I c, σ)) ?_ ?_ (T 0 2) fu _ ⟨0, by omega, rfl⟩ (by unfold fu; omega)
    · rintro n a k ⟨c, hc, rfl⟩ hk
      have hc6 : c < 6 := by omega
      show wp (rM_sumOf_4 (fun v1 v2 v3 σ => k (v1, v2, v3, σ)) (I s) (sm (blD D) s c) (I c) σ) _
      unfold rM_sumOf_4 rM_sumOf_31
      rw [eM_carriers, bnd2_e, hT.2.2.1, brc_f (show ¬ I (T 0 2) ≤ I c by rw [I_le (by omega) (by omega)]; omega), show (I s >>> (I c &&& 31)) &&& (1 : Int32) = I (s / 2 ^ c % 2) from I_bit hs hc6, eM_debtOf _ hc6, bnd2_e, show balOf (σ.1 16) c = blD D c from balOf_congr hc6 hD, nmE, nmE, nmE, nmE, oi1, I_add]
      have hk' := hk _ ⟨c + 1, by omega, rfl⟩
      by_cases hb : s / 2 ^ c % 2 = 1
      · have e : sm (blD D) s (c + 1) = sm (blD D) s c + blD D c := if_pos hb
        rw [e] at hk'
        rw [brc_f (show ¬ ¬ I (s / 2 ^ c % 2) = 1 by rw [hb]; exact fun h => h rfl)]
        exact hk'
      · have e : sm (blD D) s (c + 1) = sm (blD D) s c := if_neg hb
        rw [e] at hk'
        rw [brc_t (show ¬ I (s / 2 ^ c % 2) = 1 by rw [I1, I_inj (by omega) (by omega)]; exact hb), Int32.add_zero]
        exact hk'
    · rintro a k ⟨c, hc, rfl⟩
      show wp (rM_sumOf_4 (fun v1 v2 v3 σ => k (v1, v2, v3, σ)) (I s) (sm (blD D) s c) (I c) σ) _
      unfold rM_sumOf_4
      rw [eM_carriers, bnd2_e, hT.2.2.1, brc_t (show I (T 0 2) ≤ I c by rw [I_le (by omega) (by omega)]; omega), show c = T 0 2 by omega]
      exact wp_some rfl
  obtain ⟨r, e, rfl⟩ := goal
  exact e
theorem fs_b {b : Nat → Int32} {n : Nat} {g : Nat → Nat} {s M : Nat} (h : ∀ t, g t + 1 ≤ M) : ∀ f sub acc, acc ≤ M → fs b n g s f sub acc ≤ M
  | 0, _, _, h' => h'
  | f + 1, sub, acc, h' => by
    unfold fs
    split
    · exact h'
    · refine fs_b h f _ _ ?_
      unfold fsS
      split
      · exact h _
      · exact h'
theorem ptT_b (b : Nat → Int32) (n : Nat) : ∀ k t, ptT b n k t ≤ k + 1
  | 0, _ => Nat.le_refl _
  | k + 1, t => by
    show updN (ptT b n k) (k + 1) (fs b n (ptT b n k) (k + 1) 64 (k + 1) 0) t ≤ _
    unfold updN
    split
    · exact fs_b (fun t => by have := ptT_b b n k t; omega) _ _ _ (Nat.zero_le _)
    · have := ptT_b b n k t; omega
theorem mst_b (b : Nat → Int32) (n : Nat) : ∀ k, mst b n k ≤ k
  | 0 => Nat.le_refl _
  | k + 1 => by
    have h1 := mst_b b n k
    have h2 : pt b n k ≤ k + 1 := ptT_b b n k k
    exact Nat.max_le.mpr ⟨by omega, by omega⟩
theorem sb_next {s m : Nat} (hm : ¬ m = 0) : (m - 1) &&& s < m ∧ ((m - 1) &&& s) &&& s = (m - 1) &&& s := by
  have h1 : (m - 1) &&& s ≤ m - 1 := Nat.and_le_left
  exact ⟨by omega, by rw [Nat.and_assoc, Nat.and_self]⟩
theorem eM_settled {T D : Vw} {σ : St} (hw : wfT T) (hT : MT T σ) (hD : ∀ q, q < 36 → σ.1 16 q = I (D 0 q)) : wp (lp rM_settled_9L fu (I 0, I 0, σ)) (fun r => r.1 = I (T 0 2) - I (mst (blD D) (T 0 2) (2 ^ T 0 2)) ∧ frO [25] 0 [] σ r.2) := by
  have h6 := hw.2.1
  obtain ⟨-, -, a3, a4, a5⟩ := sb_all h6 (Nat.two_pow_pos (T 0 2))
  refine wp_for (fun n a => ∃ (s : Nat) (τ : St), s + n = 2 ^ T 0 2 ∧ a = (I (mst (blD D) (T 0 2) s), I s, τ) ∧ (∀ t, t < s → τ.1 25 t = nz (pt (blD D) (T 0 2) t)) ∧ frO [25] 0 [] σ τ) ?_ ?_ (2 ^ T 0 2) fu _ ⟨0, σ, by omega, rfl, fun t h => absurd h (Nat.not_lt_zero _), frO_refl⟩ (by unfold fu; omega)
  · rintro n a k ⟨s, τ, hs, rfl, t1, f⟩ hk
    have hs64 : s < 64 := by omega
    have hTτ : MT T τ := MT_fr (f.1 6 (by decide) (by decide)) hT
    have hb1 := mst_b (blD D) (T 0 2) s
    have hb2 : pt (blD D) (T 0 2) s ≤ s + 1 := ptT_b (blD D) (T 0 2) s s
    show wp (rM_settled_9 (fun v1 v2 σ => k (v1, v2, σ)) (I (mst (blD D) (T 0 2) s)) (I s) τ) _
    unfold rM_settled_9
    rw [eM_carriers, bnd2_e, hTτ.2.2.1, shl_I h6, brc_f (show ¬ I (2 ^ T 0 2) ≤ I s by rw [I_le (by omega) (by omega)]; omega)]
    have inner : ∀ acc0 : Nat, acc0 ≤ 1 → (∃ f, s ≤ f ∧ fs (blD D) (T 0 2) (ptT (blD D) (T 0 2) (s - 1)) s f s acc0 = pt (blD D) (T 0 2) s) → wp (rM_settled_33 (fun v1 v2 σ => k (v1, v2, σ)) (I (mst (blD D) (T 0 2) s)) (I s) (nz acc0) (I s) τ) (fun r => r.1 = I (T 0 2) - I (mst (blD D) (T 0 2) (2 ^ T 0 2)) ∧ frO [25] 0 [] σ r.2) := by
      intro acc0 hacc0 ⟨f0, hf0, hfs0⟩
      unfold rM_settled_33
      rw [chk_t (ib_I hs64 (by omega)), nmE, nmE, I_cl (by omega)]
      refine wp_lp (fun m a2 => ∃ (f' acc : Nat) (υ : St), m ≤ f' ∧ m ≤ s ∧ m &&& s = m ∧ a2 = (I (mst (blD D) (T 0 2) s), I s, I m, υ) ∧ fs (blD D) (T 0 2) (ptT (blD D) (T 0 2) (s - 1)) s f' m acc = pt (blD D) (T 0 2) s ∧ acc ≤ 1000 ∧ (∀ t, ¬ t = s → υ.1 25 t = τ.1 25 t) ∧ υ.1 25 s = nz acc ∧ frO [25] 0 [] σ υ) ?_ fu s _ (by unfold fu; omega) ⟨f0, acc0, _, hf0, Nat.le_refl _, Nat.and_self s, rfl, hfs0, by omega, fun t ht => gI_ne2 _ _ _ ht, gI_same _ _ _ _, frO_c f _ (by decide) (by decide)⟩
      rintro m a2 k2 ⟨f', acc, υ, hmf, hms, hsub, rfl, hfs, hacc, u1, u2, fu2⟩ hk2
      have hTu : MT T υ := MT_fr (fu2.1 6 (by decide) (by decide)) hT
      show wp (rM_settled_36 (fun v1 v2 σ => k (v1, v2, σ)) (fun v1 v2 v3 σ => k2 (v1, v2, v3, σ)) (I (mst (blD D) (T 0 2) s)) (I s) (I m) υ) _
      unfold rM_settled_36
      by_cases hm : m = 0
      · rw [brc_t (show I m ≤ 0 by rw [hm]; decide), chk_t (ib_I hs64 (by omega)), I_cl (by omega), u2]
        have hacc' : acc = pt (blD D) (T 0 2) s := by
          rw [← hfs, hm]
          cases f' with
          | zero => rfl
          | succ f' => rw [fs, if_pos rfl]
        have em : mst (blD D) (T 0 2) (s + 1) = max (mst (blD D) (T 0 2) s) (pt (blD D) (T 0 2) s - 1) := rfl
        unfold rM_settled_129
        rw [nmE, nmE, nmE, nmE, oi1, I_add]
        have next : ∀ x, x = mst (blD D) (T 0 2) (s + 1) → wp (k (I x, I (s + 1), υ)) (fun r => r.1 = I (T 0 2) - I (mst (blD D) (T 0 2) (2 ^ T 0 2)) ∧ frO [25] 0 [] σ r.2) := by
          intro x hx
          refine hk _ ⟨s + 1, υ, by omega, by rw [hx], fun t ht => ?_, fu2⟩
          by_cases e : t = s
          · rw [e, u2, hacc']
          · rw [u1 t e]; exact t1 t (by omega)
        rw [hacc']
        by_cases hz : pt (blD D) (T 0 2) s = 0
        · rw [hz, nz0, brc_t (show (-1 : Int32) ≤ I (mst (blD D) (T 0 2) s) by rw [Int32.le_iff_toInt_le, I_toInt (by omega), show (-1 : Int32).toInt = -1 from rfl]; omega)]
          exact next _ (by rw [em, hz]; exact (Nat.max_eq_left (Nat.zero_le _)).symm)
        · have en : nz (pt (blD D) (T 0 2) s) = I (pt (blD D) (T 0 2) s - 1) := if_neg hz
          rw [en]
          by_cases hle : pt (blD D) (T 0 2) s - 1 ≤ mst (blD D) (T 0 2) s
          · rw [brc_t (show I (pt (blD D) (T 0 2) s - 1) ≤ I (mst (blD D) (T 0 2) s) by rw [I_le (by omega) (by omega)]; exact hle)]
            exact next _ (by rw [em, Nat.max_eq_left hle])
          · rw [brc_f (show ¬ I (pt (blD D) (T 0 2) s - 1) ≤ I (mst (blD D) (T 0 2) s) by rw [I_le (by omega) (by omega)]; exact hle), chk_t (ib_I hs64 (by omega))]
            exact next _ (by rw [em, Nat.max_eq_right (by omega)])
      · have hD' : ∀ q, q < 36 → υ.1 16 q = I (D 0 q) := fun q hq => by rw [fu2.1 16 (by decide) (by decide)]; exact hD q hq
        obtain ⟨x1, x2, x3, x4, x5⟩ := sb_x hs64 (show m < 64 by omega) hsub
        have hlt := x4 hm
        have ep : ptT (blD D) (T 0 2) (s - 1) (s ^^^ m) = pt (blD D) (T 0 2) (s ^^^ m) := ptT_st _ _ _ _ (by omega)
        have hpb : pt (blD D) (T 0 2) (s ^^^ m) ≤ (s ^^^ m) + 1 := ptT_b (blD D) (T 0 2) (s ^^^ m) (s ^^^ m)
        obtain ⟨f'', rfl⟩ : ∃ f'', f' = f'' + 1 := ⟨f' - 1, by omega⟩
        rw [fs, if_neg hm] at hfs
        have er : υ.1 25 (s ^^^ m) = nz (pt (blD D) (T 0 2) (s ^^^ m)) := by rw [u1 _ (by omega)]; exact t1 _ hlt
        rw [brc_f (show ¬ I m ≤ 0 by rw [I0, I_le (by omega) (by omega)]; omega), eM_sumOf hw hTu hD' (show m < 64 by omega), bnd2_e]
        obtain ⟨n1, n2⟩ := sb_next (s := s) hm
        have next : ∀ (ω : St) (acc' : Nat), acc' = fsS (blD D) (T 0 2) (ptT (blD D) (T 0 2) (s - 1)) s m acc → acc' ≤ 1000 → (∀ t, ¬ t = s → ω.1 25 t = τ.1 25 t) → ω.1 25 s = nz acc' → frO [25] 0 [] σ ω → wp (rM_settled_100 (fun v1 v2 σ => k (v1, v2, σ)) (fun v1 v2 v3 σ => k2 (v1, v2, v3, σ)) (I (mst (blD D) (T 0 2) s)) (I s) (I m) ω) (fun r => r.1 = I (T 0 2) - I (mst (blD D) (T 0 2) (2 ^ T 0 2)) ∧ frO [25] 0 [] σ r.2) := by
          intro ω acc' ha ha2 o1 o2 o3
          unfold rM_settled_100
          rw [I1, I_sub (by omega), and_I (by omega) hs64, nmE]
          exact hk2 _ _ n1 ⟨f'', acc', ω, by omega, by omega, n2, rfl, by rw [ha]; exact hfs, ha2, o1, o2, o3⟩
        rw [andnot_I hs64 (show m < 64 by omega) hsub]
        by_cases hz : sm (blD D) m (T 0 2) = 0
        · rw [brc_f (fun h => h hz), chk_t (ib_I x1 (by omega)), I_cl (by omega), er]
          by_cases hp : pt (blD D) (T 0 2) (s ^^^ m) = 0
          · rw [hp, nz0, brc_t (by decide)]
            exact next υ acc (by unfold fsS; rw [ep, if_neg (fun h => h.2.1 hp)]) hacc u1 u2 fu2
          · have en : nz (pt (blD D) (T 0 2) (s ^^^ m)) = I (pt (blD D) (T 0 2) (s ^^^ m) - 1) := if_neg hp
            rw [brc_f (show ¬ nz (pt (blD D) (T 0 2) (s ^^^ m)) < 0 from fun h => hp ((nz_neg (by omega)).mp h)), chk_t (ib_I x1 (by omega)), chk_t (ib_I hs64 (by omega)), I_cl (by omega), u2, en, I1, I_add, show pt (blD D) (T 0 2) (s ^^^ m) - 1 + 1 = pt (blD D) (T 0 2) (s ^^^ m) by omega]
            by_cases hle : acc < pt (blD D) (T 0 2) (s ^^^ m) + 1
            · rw [brc_f (show ¬ I (pt (blD D) (T 0 2) (s ^^^ m)) ≤ nz acc by rw [le_nz (by omega) (by omega)]; omega), chk_t (ib_I x1 (by omega)), chk_t (ib_I hs64 (by omega)), nmE]
              exact next _ (pt (blD D) (T 0 2) (s ^^^ m) + 1) (by unfold fsS; rw [ep, if_pos ⟨hz, hp, hle⟩]) (by omega) (fun t ht => by rw [gI_ne2 _ _ _ ht]; exact u1 t ht) (gI_same _ _ _ _) (frO_c fu2 _ (by decide) (by decide))
            · rw [brc_t (show I (pt (blD D) (T 0 2) (s ^^^ m)) ≤ nz acc by rw [le_nz (by omega) (by omega)]; omega)]
              exact next υ acc (by unfold fsS; rw [ep, if_neg (fun h => hle h.2.2)]) hacc u1 u2 fu2
        · rw [brc_t hz]
          exact next υ acc (by unfold fsS; rw [if_neg (fun h => hz h.1)]) hacc u1 u2 fu2
    by_cases h0 : s = 0
    · rw [brc_f (show ¬ ¬ I s = 0 by rw [h0]; exact fun h => h rfl)]
      exact inner 1 (Nat.le_refl _) ⟨0, by omega, by rw [h0]; rfl⟩
    · rw [brc_t (show ¬ I s = 0 by rw [I0, I_inj (by omega) (by omega)]; exact h0)]
      exact inner 0 (by omega) ⟨64, by omega, (pt_eq h0).symm⟩
  · rintro a k ⟨s, τ, hs, rfl, t1, f⟩
    have hTτ : MT T τ := MT_fr (f.1 6 (by decide) (by decide)) hT
    show wp (rM_settled_9 (fun v1 v2 σ => k (v1, v2, σ)) (I (mst (blD D) (T 0 2) s)) (I s) τ) _
    unfold rM_settled_9
    rw [eM_carriers, bnd2_e, hTτ.2.2.1, shl_I h6, brc_t (show I (2 ^ T 0 2) ≤ I s by rw [I_le (by omega) (by omega)]; omega), eM_carriers, bnd2_e, hTτ.2.2.1, show s = 2 ^ T 0 2 by omega]
    exact wp_some ⟨rfl, f⟩
theorem GX_z {T R D Mk U : Vw} {n : Nat} {tp : Nat → Nat} {LD LP : List Nat} {σ τ : St} (h : zX σ τ) (hx : GX T R D Mk U n tp LD LP σ) : GX T R D Mk U n tp LD LP τ :=
  GX_fr (fun i h1 h2 => h.1 i (fun h3 => h1 (by revert h3; simp [scX]; omega)) h2) (fun j _ _ => h.2.1 j (List.not_mem_nil)) (fun i _ => by rw [h.2.2]) (by rw [h.2.2]) hx
theorem po_settled : PO_settled Inv := by
  intro σx σm h
  obtain ⟨T, R, D, Mk, U, n, tp, LD, LP, hw, hx, hm⟩ := h
  have hm' := GM_0 hw 0 hm
  obtain ⟨⟨r, τ⟩, e1, x1, f1⟩ := eX_fewest hw.1 hx.1 hx.2.1.1
  obtain ⟨⟨r', υ⟩, e2, x2, f2⟩ := eM_settled hw.1 hm'.1 (MD0 hm'.2.1).1
  simp only at x1 f1 x2 f2
  refine ⟨r, τ, υ, ?_, ?_, T, R, D, Mk, U, n, tp, LD, LP, hw, GX_z f1 hx, GM_s hw (frO_mono (fun i h => by revert h; simp [scM]; omega) (fun i h => absurd h (List.not_mem_nil)) f2) hm'⟩
  · unfold rX_settled
    rw [e1, bnd2_e]
  · unfold rM_settled
    rw [nmE, nmE, nmE]
    have : r = r' := by rw [x1, x2, mst_gr hw.1.2.1]
    rw [this]
    exact e2
