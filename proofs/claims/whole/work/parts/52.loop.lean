def PO (Inv : St → St → Prop) : Prop := PO_feed Inv ∧ PO_mountain Inv ∧ PO_station Inv ∧ PO_way Inv ∧ PO_carrier Inv ∧ PO_paths Inv ∧ PO_path Inv ∧ PO_trip Inv ∧ PO_send Inv ∧ PO_rest Inv ∧ PO_seed Inv ∧ PO_drank Inv ∧ PO_best Inv ∧ PO_plan Inv ∧ PO_relay Inv ∧ PO_owe Inv ∧ PO_owes Inv ∧ PO_debt Inv ∧ PO_settled Inv ∧ PO_missed Inv ∧ PO_odds Inv ∧ PO_patch Inv ∧ PO_undo Inv ∧ PO_mark Inv ∧ PO_count Inv
theorem law_switch {X : CX} {b L : Nat} {xs' : Nat → Int32} {qx qm : List Nat} {σx σm : St} {Inv : St → St → Prop} {i v : Int32} {k n : Nat} (hl : lawX X b L xs') (hp : PO Inv) (hi : Inv σx σm) (hin : lawin i L) (hk : k + 2 ≤ 601024 ∧ n + 2000 ≤ 7293034) (kk : ∀ (x m : St) (k' n' : Nat), Inv x m → k' ≤ k + 2 → n' ≤ n + 2000 → Lj X 7 1201 (lawlv b 0 qx qm i) [] (lws X qx qm x m) k' n') : Lj X 7 40 (lawlv b 0 qx qm i) [.int v] (lws X qx qm σx σm) k n := by
  have hX := hl.1
  have hv : (v.toInt < 0 ∨ 24 < v.toInt) ∨ v.toInt = 0 ∨ v.toInt = 1 ∨ v.toInt = 2 ∨ v.toInt = 3 ∨ v.toInt = 4 ∨ v.toInt = 5 ∨ v.toInt = 6 ∨ v.toInt = 7 ∨ v.toInt = 8 ∨ v.toInt = 9 ∨ v.toInt = 10 ∨ v.toInt = 11 ∨ v.toInt = 12 ∨ v.toInt = 13 ∨ v.toInt = 14 ∨ v.toInt = 15 ∨ v.toInt = 16 ∨ v.toInt = 17 ∨ v.toInt = 18 ∨ v.toInt = 19 ∨ v.toInt = 20 ∨ v.toInt = 21 ∨ v.toInt = 22 ∨ v.toInt = 23 ∨ v.toInt = 24 := by omega
  obtain ⟨p0, p1, p2, p3, p4, p5, p6, p7, p8, p9, p10, p11, p12, p13, p14, p15, p16, p17, p18, p19, p20, p21, p22, p23, p24⟩ := hp
  rcases hv with hv | hv | hv | hv | hv | hv | hv | hv | hv | hv | hv | hv | hv | hv | hv | hv | hv | hv | hv | hv | hv | hv | hv | hv | hv | hv
  · exact L_tabOut (tgt := 1201) hX dL_law_40 hv rfl (kk σx σm k n hi (by omega) (by omega))
  · exact L_tabIn (v := 0) (tgt := 156) hX dL_law_40 hv (by decide) (by decide) rfl rfl (law_0 hl p0 hi hin hk kk)
  · exact L_tabIn (v := 1) (tgt := 303) hX dL_law_40 hv (by decide) (by decide) rfl rfl (law_1 hl p1 hi hin hk kk)
  · exact L_tabIn (v := 2) (tgt := 316) hX dL_law_40 hv (by decide) (by decide) rfl rfl (law_2 hl p2 hi hin hk kk)
  · exact L_tabIn (v := 3) (tgt := 353) hX dL_law_40 hv (by decide) (by decide) rfl rfl (law_3 hl p3 hi hin hk kk)
  · exact L_tabIn (v := 4) (tgt := 402) hX dL_law_40 hv (by decide) (by decide) rfl rfl (law_4 hl p4 hi hin hk kk)
  · exact L_tabIn (v := 5) (tgt := 470) hX dL_law_40 hv (by decide) (by decide) rfl rfl (law_5 hl p5 hi hin hk kk)
  · exact L_tabIn (v := 6) (tgt := 483) hX dL_law_40 hv (by decide) (by decide) rfl rfl (law_6 hl p6 hi hin hk kk)
  · exact L_tabIn (v := 7) (tgt := 520) hX dL_law_40 hv (by decide) (by decide) rfl rfl (law_7 hl p7 hi hin hk kk)
  · exact L_tabIn (v := 8) (tgt := 581) hX dL_law_40 hv (by decide) (by decide) rfl rfl (law_8 hl p8 hi hin hk kk)
  · exact L_tabIn (v := 9) (tgt := 630) hX dL_law_40 hv (by decide) (by decide) rfl rfl (law_9 hl p9 hi hin hk kk)
  · exact L_tabIn (v := 10) (tgt := 643) hX dL_law_40 hv (by decide) (by decide) rfl rfl (law_10 hl p10 hi hin hk kk)
  · exact L_tabIn (v := 11) (tgt := 668) hX dL_law_40 hv (by decide) (by decide) rfl rfl (law_11 hl p11 hi hin hk kk)
  · exact L_tabIn (v := 12) (tgt := 705) hX dL_law_40 hv (by decide) (by decide) rfl rfl (law_12 hl p12 hi hin hk kk)
  · exact L_tabIn (v := 13) (tgt := 754) hX dL_law_40 hv (by decide) (by decide) rfl rfl (law_13 hl p13 hi hin hk kk)
  · exact L_tabIn (v := 14) (tgt := 779) hX dL_law_40 hv (by decide) (by decide) rfl rfl (law_14 hl p14 hi hin hk kk)
  · exact L_tabIn (v := 15) (tgt := 816) hX dL_law_40 hv (by decide) (by decide) rfl rfl (law_15 hl p15 hi hin hk kk)
  · exact L_tabIn (v := 16) (tgt := 865) hX dL_law_40 hv (by decide) (by decide) rfl rfl (law_16 hl p16 hi hin hk kk)
  · exact L_tabIn (v := 17) (tgt := 902) hX dL_law_40 hv (by decide) (by decide) rfl rfl (law_17 hl p17 hi hin hk kk)
  · exact L_tabIn (v := 18) (tgt := 958) hX dL_law_40 hv (by decide) (by decide) rfl rfl (law_18 hl p18 hi hin hk kk)
  · exact L_tabIn (v := 19) (tgt := 971) hX dL_law_40 hv (by decide) (by decide) rfl rfl (law_19 hl p19 hi hin hk kk)
  · exact L_tabIn (v := 20) (tgt := 1008) hX dL_law_40 hv (by decide) (by decide) rfl rfl (law_20 hl p20 hi hin hk kk)
  · exact L_tabIn (v := 21) (tgt := 1057) hX dL_law_40 hv (by decide) (by decide) rfl rfl (law_21 hl p21 hi hin hk kk)
  · exact L_tabIn (v := 22) (tgt := 1110) hX dL_law_40 hv (by decide) (by decide) rfl rfl (law_22 hl p22 hi hin hk kk)
  · exact L_tabIn (v := 23) (tgt := 1123) hX dL_law_40 hv (by decide) (by decide) rfl rfl (law_23 hl p23 hi hin hk kk)
  · exact L_tabIn (v := 24) (tgt := 1176) hX dL_law_40 hv (by decide) (by decide) rfl rfl (law_24 hl p24 hi hin hk kk)
theorem i32_toInt {n : Nat} (h : n < 2147483648) : (Int32.ofNat n).toInt = n := by
  rw [Int32.toInt_ofNat']
  exact Int.bmod_eq_of_le (by have : (Int32.size : Int) = 4294967296 := rfl; omega) (by have : (Int32.size : Int) = 4294967296 := rfl; omega)
theorem i32_clamp {n : Nat} (h : n < 2147483648) : (Int32.ofNat n).toNatClampNeg = n := by
  show (Int32.ofNat n).toInt.toNat = n
  rw [i32_toInt h]; rfl
theorem i32_in {n L : Nat} (h : n < L) (hL : L ≤ 3584) : vp_in (Int32.ofNat n) L := by
  rintro (h1 | h1)
  · have h2 := Int32.lt_iff_toInt_lt.mp h1
    rw [i32_toInt (by omega)] at h2
    have : (0 : Int32).toInt = 0 := rfl
    omega
  · rw [i32_clamp (by omega)] at h1
    omega
theorem lawin_of {j L : Nat} (h : 7 * j + 7 ≤ L) (hL : L ≤ 3584) : vp_in (Int32.ofNat (7 * j)) L ∧ lawin (Int32.ofNat (7 * j)) L := by
  have e : ∀ d : Nat, Int32.ofNat (7 * j) + Int32.ofNat d = Int32.ofNat (7 * j + d) := fun d => (Int32.ofNat_add _ _).symm
  refine ⟨i32_in (by omega) hL, ?_, ?_, ?_, ?_, ?_, ?_⟩
  · rw [show (1 : Int32) = Int32.ofNat 1 from rfl, e]; exact i32_in (by omega) hL
  · rw [show (2 : Int32) = Int32.ofNat 2 from rfl, e]; exact i32_in (by omega) hL
  · rw [show (3 : Int32) = Int32.ofNat 3 from rfl, e]; exact i32_in (by omega) hL
  · rw [show (4 : Int32) = Int32.ofNat 4 from rfl, e]; exact i32_in (by omega) hL
  · rw [show (5 : Int32) = Int32.ofNat 5 from rfl, e]; exact i32_in (by omega) hL
  · rw [show (6 : Int32) = Int32.ofNat 6 from rfl, e]; exact i32_in (by omega) hL
theorem i32_sub7 {L : Nat} (hL : L ≤ 3584) : (Int32.ofNat L - 7).toInt = (L : Int) - 7 := by
  rw [Int32.toInt_sub, i32_toInt (by omega), show (7 : Int32).toInt = 7 from rfl]
  exact Int.bmod_eq_of_le (by omega) (by omega)
set_option maxRecDepth 100000 in
theorem law_loop {X : CX} {b L : Nat} {xs' : Nat → Int32} {qx qm : List Nat} {Inv : St → St → Prop} (hl : lawX X b L xs') (hL : L ≤ 3584) (hp : PO Inv) (hend : ∀ (σx σm : St) (i : Int32) (k n : Nat), k ≤ 601024 → n ≤ 7293034 → Lj X 7 1207 (lawlv b 0 qx qm i) [] (lws X qx qm σx σm) k n) :
    ∀ (f j k n : Nat) (σx σm : St), j + f = 513 → k ≤ 200 + 2 * j → n ≤ 40000 + 2000 * j → Inv σx σm → Lj X 7 23 (lawlv b 0 qx qm (Int32.ofNat (7 * j))) [] (lws X qx qm σx σm) k n := by
  intro f
  induction f with
  | zero =>
    intro j k n σx σm hj hk hn hi
    have hX := hl.1
    refine L_iload (q := 0) hX dL_law_23 rfl ?_
    refine L_aload_n (q := 4) hX dL_law_25 rfl rfl ?_
    refine L_slen hX hl.2.2.2 dL_law_26 ?_
    refine L_bipush (v := 7) hX dL_law_27 (by decide) ?_
    refine L_isub hX dL_law_29 ?_
    refine L_icmp_gt (tgt := 1207) hX dL_law_30 rfl (fun _ => hend _ _ _ _ _ (by omega) (by omega)) (fun h => ?_)
    exfalso
    apply h
    rw [Int32.lt_iff_toInt_lt, i32_sub7 hL, i32_toInt (by omega)]
    omega
  | succ f ih =>
    intro j k n σx σm hj hk hn hi
    have hX := hl.1
    refine L_iload (q := 0) hX dL_law_23 rfl ?_
    refine L_aload_n (q := 4) hX dL_law_25 rfl rfl ?_
    refine L_slen hX hl.2.2.2 dL_law_26 ?_
    refine L_bipush (v := 7) hX dL_law_27 (by decide) ?_
    refine L_isub hX dL_law_29 ?_
    refine L_icmp_gt (tgt := 1207) hX dL_law_30 rfl (fun _ => hend _ _ _ _ _ (by omega) (by omega)) (fun h => ?_)
    have hle : 7 * j + 7 ≤ L := by
      rw [Int32.lt_iff_toInt_lt, i32_sub7 hL, i32_toInt (by omega)] at h
      omega
    obtain ⟨hin0, hin⟩ := lawin_of hle hL
    refine L_aload_n (q := 4) hX dL_law_33 rfl rfl ?_
    refine L_iload (q := 0) hX dL_law_34 rfl ?_
    refine L_sld hX hl.2.2.2 hin0 dL_law_36 ?_
    refine L_bipush (v := 31) hX dL_law_37 (by decide) ?_
    refine L_iand hX dL_law_39 ?_
    refine law_switch hl hp hi hin ⟨by omega, by omega⟩ (fun x m k' n' hi' hk' hn' => ?_)
    refine L_iinc (q := 0) (v := Int32.ofNat (7 * (j + 1))) (lv' := lawlv b 0 qx qm (Int32.ofNat (7 * (j + 1)))) hX dL_law_1201 rfl ?_ (by decide) rfl ?_
    · rw [show Int32.ofInt 7 = Int32.ofNat 7 from rfl, ← Int32.ofNat_add]; rfl
    refine L_goto (tgt := 23) hX dL_law_1204 rfl ?_
    exact ih (j + 1) k' n' x m (by omega) (by omega) (by omega) hi'
