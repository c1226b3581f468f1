theorem md_X11_init : mdOK yX11_init 0 := by unfold mdOK; decide +kernel
theorem md_X12_init : mdOK yX12_init 0 := by unfold mdOK; decide +kernel
theorem qx97 (qs : List Nat) (q : Nat) : (qxOf qs q).getD 97 0 = q := rfl
theorem cvt3 {X : CX} {qs : List Nat} {q : Nat} {S S' : (Nat → Prop) → State → Heap → Prop} (σ : St) (H : Heap) (h : va_at (wD (xw X)) vwCl (qs.getD 3 0, cel (wX (wD (xw X)) (wcT (xw X)) (wadW (xw X)) (wSt2 (xw X)) xLy qs S (fun _ => True) 0) σ 3) H) : va_at (wD (xw X)) vwCl ((qxOf qs q).getD 3 0, cel (wX (wD (xw X)) (wcT (xw X)) (wadW (xw X)) (wSt2 (xw X)) xLyO (qxOf qs q) S' (fun _ => True) 0) σ 3) H := by
  have h1 : H[qs.getD 3 0]? = some (vp_cell (wcT (xw X) 4) (4, .inr (.inr (.inr (.inr (fun j => some (qs.getD (61 + 9 * j) 0))))))) := h
  show H[qs.getD 3 0]? = some (vp_cell (wcT (xw X) 4) (4, .inr (.inr (.inr (.inr (fun j => some ((qxOf qs q).getD (61 + 9 * j) 0)))))))
  rw [h1, vp_cell_q, vp_cell_q]
  congr 1
set_option maxRecDepth 100000 in
theorem law_from {X : CX} {b L : Nat} {xs' : Nat → Int32} {Inv : St → St → Prop} {t0 t1 t2 : St} (hl : lawX X b L xs') (hL : L ≤ 3584) (hp : PO Inv) (h0 : rX_begin sX0 = some t0) (hJ : t0.2.1 97 = fun _ => 0) (hK : t0.2.2.2 = []) (h1 : rM_standsAsAlways 0 sM0 = some t1) (h2 : rM_rests t1 = some t2) (hI : Inv t0 t2)
    (hend : ∀ (qx qm : List Nat) (σx σm : St) (i : Int32) (k n : Nat), k ≤ 601024 → n ≤ 7293034 → Lj X 7 1207 (lawlv b 0 qx qm i) [] (lws X qx qm σx σm) k n) : Lj X 7 0 [(0, .ref b)] [] [] 0 0 := by
  obtain ⟨hG, hR, hl0, hs⟩ := id hl
  refine L_new [.null, .null, .null, .null, .null, .null, .null, .null, .null, .null, .null, .int 0, .null, .null] hG cls_X11 uw_1_26 uw_1_27 uw_1_1 (by decide) (by rw [hR]; exact ⟨by decide, by decide⟩) dL_law_0 (fun q0 => ?_)
  refine L_dup hG dL_law_3 rfl ?_
  refine L_callI [] hG (ci_X11 q0 h0) uw_1_28 uw_1_1 uw_1_29 uw_1_30 rfl md_X11_init (by rw [hR]; exact ⟨by decide, by decide⟩) (by rw [hR]; exact ⟨by decide, by decide⟩) rfl rfl (Nat.le_of_ble_eq_true rfl) dL_law_4 (fun qs0 => ?_)
  refine L_astore_n (lv' := [(1, .ref q0), (0, .ref b)]) hG dL_law_7 rfl (by decide) rfl ?_
  refine L_new [.int 0, .null, .int 0, .int 0, .null, .null, .null, .int 0, .int 0, .null, .null, .null, .null, .null, .int 0, .null, .null, .int 0, .int 0, .int 0, .null, .null, .null, .null, .null, .int 0, .null, .int 0, .null, .null, .int 0, .int 0, .int 0, .int 0, .int 0, .int 0, .null, .null, .null, .null, .null, .int 0, .int 0, .null] hG cls_X12 uw_6_4 uw_6_2 uw_1_16 (by decide) (by rw [hR]; exact ⟨by decide, by decide⟩) dL_law_8 (fun q1 => ?_)
  refine L_dup hG dL_law_11 rfl ?_
  refine L_callI [] hG (ci_X12 q1 h1 h2) uw_6_5 uw_1_16 uw_6_6 uw_6_7 rfl md_X12_init (by rw [hR]; exact ⟨by decide, by decide⟩) (by rw [hR]; exact ⟨by decide, by decide⟩) rfl rfl (Nat.le_of_ble_eq_true rfl) dL_law_12 (fun qs1 => ?_)
  refine L_astore_n (lv' := [(2, .ref q1), (1, .ref q0), (0, .ref b)]) hG dL_law_15 rfl (by decide) rfl ?_
  refine L_iconst (v := 1) hG dL_law_16 (by decide) ?_
  refine L_newa_long (N := 1) hG uw_1_186 (by decide) rfl (by decide) (by rw [hR]; exact ⟨by decide, by decide⟩) dL_law_17 (fun q2 => ?_)
  refine L_astore_n (lv' := [(3, .ref q2), (2, .ref q1), (1, .ref q0), (0, .ref b)]) hG dL_law_19 rfl (by decide) rfl ?_
  refine L_swap3 ?_
  rw [List.nil_append]
  refine L_eqv (ws' := lws X (qxOf (q0 :: qs0) q2) (q1 :: qs1) t0 t2) ?_ ?_ ?_
  · simp only [List.length_append, List.length_map, List.length_range, List.length_singleton, wws, wdy, hK, List.length_nil]
    rfl
  · intro i hi p q hp' hq'
    have hwl : ∀ (w : WT), w.1 = xLy → (wal w t0).length = 97 := fun w hw => by
      rw [List.length_append, wws_len, hw]; unfold wdy; rw [hK]; rfl
    have hwo : ∀ (w : WT), w.1 = xLyO → (wal w t0).length = 98 := fun w hw => by
      rw [List.length_append, wws_len, hw]; unfold wdy; rw [hK]; rfl
    by_cases h97 : i < 97
    · rw [List.getElem?_append_left (by rw [List.length_append, hwl _ rfl]; omega), List.getElem?_append_left (by rw [hwl _ rfl]; omega), wal_get t0 (show i < 97 from h97)] at hp'
      rw [List.getElem?_append_left (by rw [hwo _ rfl]; omega), wal_get t0 (show i < 98 by omega)] at hq'
      cases hp'; cases hq'
      have ea : (q0 :: qs0).getD i 0 = (qxOf (q0 :: qs0) q2).getD i 0 := by
        unfold qxOf
        simp [List.getD_eq_getElem?_getD, List.getElem?_append_left, h97]
      refine ⟨ea, fun H hh => ?_⟩
      by_cases h3 : i = 3
      · subst h3
        exact cvt3 (X := X) t0 H hh
      · rw [cel_cvt t0 i h97 h3] at hh
        have e2 : ∀ (z z' : Nat) (e : va_E), z = z' → va_at (wD (xw X)) vwCl (z, e) H → va_at (wD (xw X)) vwCl (z', e) H := fun z z' e ez h9 => ez ▸ h9
        exact e2 _ _ _ ea hh
    · by_cases h98 : i = 97
      · subst h98
        rw [List.getElem?_append_left (by rw [List.length_append, hwl _ rfl]; show 97 < 97 + 1; decide), List.getElem?_append_right (by rw [hwl _ rfl]; exact Nat.le_refl _), hwl _ rfl] at hp'
        rw [List.getElem?_append_left (by rw [hwo _ rfl]; show 97 < 98; decide), wal_get t0 (show 97 < 98 by decide)] at hq'
        cases hp'; cases hq'
        refine ⟨?_, fun H hh => ?_⟩
        · exact (qx97 (q0 :: qs0) q2).symm
        · have e9 : cel (wxL X (qxOf (q0 :: qs0) q2)) t0 97 = .inl (wcT (xw X) 1, 1, .inr (.inl (fun _ => 0))) := by
            show Sum.inl (wcT (xw X) 1, 1, Sum.inr (Sum.inl (t0.2.1 97))) = _
            rw [hJ]
          have ew : wad (wxL X (qxOf (q0 :: qs0) q2)) 97 = q2 := qx97 (q0 :: qs0) q2
          show va_at (wD (xw X)) vwCl (wad (wxL X (qxOf (q0 :: qs0) q2)) 97, cel (wxL X (qxOf (q0 :: qs0) q2)) t0 97) H
          rw [e9, ew]; exact hh
      · rw [List.getElem?_append_right (by rw [List.length_append, hwl _ rfl]; show 98 ≤ i; omega), List.length_append, hwl _ rfl] at hp'
        rw [List.getElem?_append_right (by rw [hwo _ rfl]; omega), hwo _ rfl] at hq'
        have e9 : some p = some q := hp'.symm.trans hq'
        cases e9
        exact ⟨rfl, fun _ h9 => h9⟩
  · refine L_iconst (v := 0) hG dL_law_20 (by decide) ?_
    have e97 : (qxOf (q0 :: qs0) q2).getD 97 0 = q2 := qx97 (q0 :: qs0) q2
    refine L_istore (lv' := lawlv b 0 (qxOf (q0 :: qs0) q2) (q1 :: qs1) (Int32.ofNat (7 * 0))) hG dL_law_21 (by decide) ?_ ?_
    · unfold lawlv
      rw [e97]
      rfl
    · exact law_loop hl hL hp (hend _ _) 513 0 _ _ t0 t2 rfl (by decide) (by decide) hI
