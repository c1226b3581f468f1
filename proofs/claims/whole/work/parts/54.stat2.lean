theorem start_xSx {args : Array Value} {s : State} {A : Nat → Prop} (hA : ∀ a : Nat, a < s.heap.size → ¬ A a) (h : atStart args s) : ∃ (ad : Nat → Nat) (pp : Nat × Nat), xSx ad pp A s s.heap := by
  have hw : ∀ k : Nat, ∃ q : Nat × Nat × Nat, k < 42 → wordFact args s A k q := by
    intro k
    match k with
    | 0 => obtain ⟨q, hq⟩ := word_0 hA h; exact ⟨q, fun _ => hq⟩
    | 1 => obtain ⟨q, hq⟩ := word_1 hA h; exact ⟨q, fun _ => hq⟩
    | 2 => obtain ⟨q, hq⟩ := word_2 hA h; exact ⟨q, fun _ => hq⟩
    | 3 => obtain ⟨q, hq⟩ := word_3 hA h; exact ⟨q, fun _ => hq⟩
    | 4 => obtain ⟨q, hq⟩ := word_4 hA h; exact ⟨q, fun _ => hq⟩
    | 5 => obtain ⟨q, hq⟩ := word_5 hA h; exact ⟨q, fun _ => hq⟩
    | 6 => obtain ⟨q, hq⟩ := word_6 hA h; exact ⟨q, fun _ => hq⟩
    | 7 => obtain ⟨q, hq⟩ := word_7 hA h; exact ⟨q, fun _ => hq⟩
    | 8 => obtain ⟨q, hq⟩ := word_8 hA h; exact ⟨q, fun _ => hq⟩
    | 9 => obtain ⟨q, hq⟩ := word_9 hA h; exact ⟨q, fun _ => hq⟩
    | 10 => obtain ⟨q, hq⟩ := word_10 hA h; exact ⟨q, fun _ => hq⟩
    | 11 => obtain ⟨q, hq⟩ := word_11 hA h; exact ⟨q, fun _ => hq⟩
    | 12 => obtain ⟨q, hq⟩ := word_12 hA h; exact ⟨q, fun _ => hq⟩
    | 13 => obtain ⟨q, hq⟩ := word_13 hA h; exact ⟨q, fun _ => hq⟩
    | 14 => obtain ⟨q, hq⟩ := word_14 hA h; exact ⟨q, fun _ => hq⟩
    | 15 => obtain ⟨q, hq⟩ := word_15 hA h; exact ⟨q, fun _ => hq⟩
    | 16 => obtain ⟨q, hq⟩ := word_16 hA h; exact ⟨q, fun _ => hq⟩
    | 17 => obtain ⟨q, hq⟩ := word_17 hA h; exact ⟨q, fun _ => hq⟩
    | 18 => obtain ⟨q, hq⟩ := word_18 hA h; exact ⟨q, fun _ => hq⟩
    | 19 => obtain ⟨q, hq⟩ := word_19 hA h; exact ⟨q, fun _ => hq⟩
    | 20 => obtain ⟨q, hq⟩ := word_20 hA h; exact ⟨q, fun _ => hq⟩
    | 21 => obtain ⟨q, hq⟩ := word_21 hA h; exact ⟨q, fun _ => hq⟩
    | 22 => obtain ⟨q, hq⟩ := word_22 hA h; exact ⟨q, fun _ => hq⟩
    | 23 => obtain ⟨q, hq⟩ := word_23 hA h; exact ⟨q, fun _ => hq⟩
    | 24 => obtain ⟨q, hq⟩ := word_24 hA h; exact ⟨q, fun _ => hq⟩
    | 25 => obtain ⟨q, hq⟩ := word_25 hA h; exact ⟨q, fun _ => hq⟩
    | 26 => obtain ⟨q, hq⟩ := word_26 hA h; exact ⟨q, fun _ => hq⟩
    | 27 => obtain ⟨q, hq⟩ := word_27 hA h; exact ⟨q, fun _ => hq⟩
    | 28 => obtain ⟨q, hq⟩ := word_28 hA h; exact ⟨q, fun _ => hq⟩
    | 29 => obtain ⟨q, hq⟩ := word_29 hA h; exact ⟨q, fun _ => hq⟩
    | 30 => obtain ⟨q, hq⟩ := word_30 hA h; exact ⟨q, fun _ => hq⟩
    | 31 => obtain ⟨q, hq⟩ := word_31 hA h; exact ⟨q, fun _ => hq⟩
    | 32 => obtain ⟨q, hq⟩ := word_32 hA h; exact ⟨q, fun _ => hq⟩
    | 33 => obtain ⟨q, hq⟩ := word_33 hA h; exact ⟨q, fun _ => hq⟩
    | 34 => obtain ⟨q, hq⟩ := word_34 hA h; exact ⟨q, fun _ => hq⟩
    | 35 => obtain ⟨q, hq⟩ := word_35 hA h; exact ⟨q, fun _ => hq⟩
    | 36 => obtain ⟨q, hq⟩ := word_36 hA h; exact ⟨q, fun _ => hq⟩
    | 37 => obtain ⟨q, hq⟩ := word_37 hA h; exact ⟨q, fun _ => hq⟩
    | 38 => obtain ⟨q, hq⟩ := word_38 hA h; exact ⟨q, fun _ => hq⟩
    | 39 => obtain ⟨q, hq⟩ := word_39 hA h; exact ⟨q, fun _ => hq⟩
    | 40 => obtain ⟨q, hq⟩ := word_40 hA h; exact ⟨q, fun _ => hq⟩
    | 41 => obtain ⟨q, hq⟩ := word_41 hA h; exact ⟨q, fun _ => hq⟩
    | n + 42 => exact ⟨(0, 0, 0), fun hh => absurd hh (by omega)⟩
  obtain ⟨f, hf⟩ := Classical.axiomOfChoice hw
  obtain ⟨ta, ht, hT⟩ := va_Tof (tm := .static "SkinCarriers$Word" "ALL" "[LSkinCarriers$Word;") (ty := .object "SkinCarriers$Word") (N := 42) (f := fun k => .ref (f k).1) (A := A) (by decide) (h.2 _ (List.mem_of_getElem? (i := 24) (by decide +kernel))) (va_eqt (h.2 _ (List.mem_of_getElem? (i := 25) (by decide +kernel)))) (fun j hj => by
    match j, hj with
    | 0, _ => exact va_eqv (h.2 _ (List.mem_of_getElem? (i := 27) (by decide +kernel))) (hf 0 (by decide)).1.1
    | 1, _ => exact va_eqv (h.2 _ (List.mem_of_getElem? (i := 28) (by decide +kernel))) (hf 1 (by decide)).1.1
    | 2, _ => exact va_eqv (h.2 _ (List.mem_of_getElem? (i := 29) (by decide +kernel))) (hf 2 (by decide)).1.1
    | 3, _ => exact va_eqv (h.2 _ (List.mem_of_getElem? (i := 30) (by decide +kernel))) (hf 3 (by decide)).1.1
    | 4, _ => exact va_eqv (h.2 _ (List.mem_of_getElem? (i := 31) (by decide +kernel))) (hf 4 (by decide)).1.1
    | 5, _ => exact va_eqv (h.2 _ (List.mem_of_getElem? (i := 32) (by decide +kernel))) (hf 5 (by decide)).1.1
    | 6, _ => exact va_eqv (h.2 _ (List.mem_of_getElem? (i := 33) (by decide +kernel))) (hf 6 (by decide)).1.1
    | 7, _ => exact va_eqv (h.2 _ (List.mem_of_getElem? (i := 34) (by decide +kernel))) (hf 7 (by decide)).1.1
    | 8, _ => exact va_eqv (h.2 _ (List.mem_of_getElem? (i := 35) (by decide +kernel))) (hf 8 (by decide)).1.1
    | 9, _ => exact va_eqv (h.2 _ (List.mem_of_getElem? (i := 36) (by decide +kernel))) (hf 9 (by decide)).1.1
    | 10, _ => exact va_eqv (h.2 _ (List.mem_of_getElem? (i := 37) (by decide +kernel))) (hf 10 (by decide)).1.1
    | 11, _ => exact va_eqv (h.2 _ (List.mem_of_getElem? (i := 38) (by decide +kernel))) (hf 11 (by decide)).1.1
    | 12, _ => exact va_eqv (h.2 _ (List.mem_of_getElem? (i := 39) (by decide +kernel))) (hf 12 (by decide)).1.1
    | 13, _ => exact va_eqv (h.2 _ (List.mem_of_getElem? (i := 40) (by decide +kernel))) (hf 13 (by decide)).1.1
    | 14, _ => exact va_eqv (h.2 _ (List.mem_of_getElem? (i := 41) (by decide +kernel))) (hf 14 (by decide)).1.1
    | 15, _ => exact va_eqv (h.2 _ (List.mem_of_getElem? (i := 42) (by decide +kernel))) (hf 15 (by decide)).1.1
    | 16, _ => exact va_eqv (h.2 _ (List.mem_of_getElem? (i := 43) (by decide +kernel))) (hf 16 (by decide)).1.1
    | 17, _ => exact va_eqv (h.2 _ (List.mem_of_getElem? (i := 44) (by decide +kernel))) (hf 17 (by decide)).1.1
    | 18, _ => exact va_eqv (h.2 _ (List.mem_of_getElem? (i := 45) (by decide +kernel))) (hf 18 (by decide)).1.1
    | 19, _ => exact va_eqv (h.2 _ (List.mem_of_getElem? (i := 46) (by decide +kernel))) (hf 19 (by decide)).1.1
    | 20, _ => exact va_eqv (h.2 _ (List.mem_of_getElem? (i := 47) (by decide +kernel))) (hf 20 (by decide)).1.1
    | 21, _ => exact va_eqv (h.2 _ (List.mem_of_getElem? (i := 48) (by decide +kernel))) (hf 21 (by decide)).1.1
    | 22, _ => exact va_eqv (h.2 _ (List.mem_of_getElem? (i := 49) (by decide +kernel))) (hf 22 (by decide)).1.1
    | 23, _ => exact va_eqv (h.2 _ (List.mem_of_getElem? (i := 50) (by decide +kernel))) (hf 23 (by decide)).1.1
    | 24, _ => exact va_eqv (h.2 _ (List.mem_of_getElem? (i := 51) (by decide +kernel))) (hf 24 (by decide)).1.1
    | 25, _ => exact va_eqv (h.2 _ (List.mem_of_getElem? (i := 52) (by decide +kernel))) (hf 25 (by decide)).1.1
    | 26, _ => exact va_eqv (h.2 _ (List.mem_of_getElem? (i := 53) (by decide +kernel))) (hf 26 (by decide)).1.1
    | 27, _ => exact va_eqv (h.2 _ (List.mem_of_getElem? (i := 54) (by decide +kernel))) (hf 27 (by decide)).1.1
    | 28, _ => exact va_eqv (h.2 _ (List.mem_of_getElem? (i := 55) (by decide +kernel))) (hf 28 (by decide)).1.1
    | 29, _ => exact va_eqv (h.2 _ (List.mem_of_getElem? (i := 56) (by decide +kernel))) (hf 29 (by decide)).1.1
    | 30, _ => exact va_eqv (h.2 _ (List.mem_of_getElem? (i := 57) (by decide +kernel))) (hf 30 (by decide)).1.1
    | 31, _ => exact va_eqv (h.2 _ (List.mem_of_getElem? (i := 58) (by decide +kernel))) (hf 31 (by decide)).1.1
    | 32, _ => exact va_eqv (h.2 _ (List.mem_of_getElem? (i := 59) (by decide +kernel))) (hf 32 (by decide)).1.1
    | 33, _ => exact va_eqv (h.2 _ (List.mem_of_getElem? (i := 60) (by decide +kernel))) (hf 33 (by decide)).1.1
    | 34, _ => exact va_eqv (h.2 _ (List.mem_of_getElem? (i := 61) (by decide +kernel))) (hf 34 (by decide)).1.1
    | 35, _ => exact va_eqv (h.2 _ (List.mem_of_getElem? (i := 62) (by decide +kernel))) (hf 35 (by decide)).1.1
    | 36, _ => exact va_eqv (h.2 _ (List.mem_of_getElem? (i := 63) (by decide +kernel))) (hf 36 (by decide)).1.1
    | 37, _ => exact va_eqv (h.2 _ (List.mem_of_getElem? (i := 64) (by decide +kernel))) (hf 37 (by decide)).1.1
    | 38, _ => exact va_eqv (h.2 _ (List.mem_of_getElem? (i := 65) (by decide +kernel))) (hf 38 (by decide)).1.1
    | 39, _ => exact va_eqv (h.2 _ (List.mem_of_getElem? (i := 66) (by decide +kernel))) (hf 39 (by decide)).1.1
    | 40, _ => exact va_eqv (h.2 _ (List.mem_of_getElem? (i := 67) (by decide +kernel))) (hf 40 (by decide)).1.1
    | 41, _ => exact va_eqv (h.2 _ (List.mem_of_getElem? (i := 68) (by decide +kernel))) (hf 41 (by decide)).1.1
    | n + 42, hn => exact absurd hn (by omega)) hA
  obtain ⟨td, ed, Td⟩ := va_Tof (tm := .static "SkinCarriers$Mountain" "PLAIN_DRINK" "[I") (ty := .int) (N := 1) (f := fun _ => .int 10000) (A := A) (by decide) (h.2 _ (List.mem_of_getElem? (i := 10) (by decide +kernel))) (va_eqt (h.2 _ (List.mem_of_getElem? (i := 11) (by decide +kernel)))) (fun j hj => by
    match j, hj with
    | 0, _ => exact va_eqt (h.2 _ (List.mem_of_getElem? (i := 12) (by decide +kernel)))
    | n + 1, hn => exact absurd hn (by omega)) hA
  obtain ⟨tp, ep, Tp⟩ := va_Tof (tm := .static "SkinCarriers$Mountain" "PLAIN_PRICE" "[I") (ty := .int) (N := 1) (f := fun _ => .int 1) (A := A) (by decide) (h.2 _ (List.mem_of_getElem? (i := 14) (by decide +kernel))) (va_eqt (h.2 _ (List.mem_of_getElem? (i := 15) (by decide +kernel)))) (fun j hj => by
    match j, hj with
    | 0, _ => exact va_eqt (h.2 _ (List.mem_of_getElem? (i := 16) (by decide +kernel)))
    | n + 1, hn => exact absurd hn (by omega)) hA
  obtain ⟨s1, -, -, -, r1, -⟩ := Cond.exactly_spec (args := args) (first := s) (o := none) (s := s) (idx := []) (h.2 (Cond.exactly (.string "SkinCarriers" 152) "java/lang/String") (List.mem_of_getElem? (i := 289) (by decide +kernel)))
  obtain ⟨s2, -, -, -, r2, -⟩ := Cond.exactly_spec (args := args) (first := s) (o := none) (s := s) (idx := []) (h.2 (Cond.exactly (.string "SkinCarriers" 179) "java/lang/String") (List.mem_of_getElem? (i := 308) (by decide +kernel)))
  refine ⟨fun n => if n < 42 then (f n).1 else if n < 142 then (f (n - 100)).2.1 else if n < 242 then (f (n - 200)).2.2 else ta, (td, tp), fun k hk => ?_, fun i j hi hj e => ?_, ?_, ?_, va_Zref (h.1 _ (tb_1 (List.mem_of_getElem? (i := 85) rfl))) (h.1 _ (tb_1 (List.mem_of_getElem? (i := 6) rfl))) ed hA, Td, va_Zref (h.1 _ (tb_1 (List.mem_of_getElem? (i := 87) rfl))) (h.1 _ (tb_1 (List.mem_of_getElem? (i := 6) rfl))) ep hA, Tp, va_Zof (h.1 _ (tb_3 (List.mem_of_getElem? (i := 113) rfl))) (h.1 _ (tb_1 (List.mem_of_getElem? (i := 17) rfl))) (va_eqt (h.2 _ (List.mem_of_getElem? (i := 69) (by decide +kernel)))) hA, va_Zqof (h.1 _ (tb_3 (List.mem_of_getElem? (i := 129) rfl))) (h.1 _ (tb_1 (List.mem_of_getElem? (i := 19) rfl))) (h.2 _ (List.mem_of_getElem? (i := 70) (by decide +kernel))) hA, ⟨s1, vk_R.of (h.1 _ (tb_5 (List.mem_of_getElem? (i := 196) rfl))) r1⟩, ⟨s2, vk_R.of (h.1 _ (tb_5 (List.mem_of_getElem? (i := 222) rfl))) r2⟩, vx_Zqof (h.1 _ (tb_5 (List.mem_of_getElem? (i := 184) rfl))) (h.1 _ (tb_1 (List.mem_of_getElem? (i := 22) rfl))) (h.2 _ (List.mem_of_getElem? (i := 184) (by decide +kernel))) hA, vx_Zqof (h.1 _ (tb_5 (List.mem_of_getElem? (i := 186) rfl))) (h.1 _ (tb_1 (List.mem_of_getElem? (i := 22) rfl))) (h.2 _ (List.mem_of_getElem? (i := 185) (by decide +kernel))) hA, va_Nw.of rfl (h.1 _ (tb_5 (List.mem_of_getElem? (i := 159) rfl))), va_Nw.of rfl (h.1 _ (tb_5 (List.mem_of_getElem? (i := 161) rfl))), va_Nw.of rfl (h.1 _ (tb_5 (List.mem_of_getElem? (i := 163) rfl))), va_Nw.of rfl (h.1 _ (tb_5 (List.mem_of_getElem? (i := 165) rfl)))⟩
  · have hh := hf k hk
    have e1 : (if k < 42 then (f k).1 else if k < 142 then (f (k - 100)).2.1 else if k < 242 then (f (k - 200)).2.2 else ta) = (f k).1 := if_pos hk
    have e2 : (if 100 + k < 42 then (f (100 + k)).1 else if 100 + k < 142 then (f (100 + k - 100)).2.1 else if 100 + k < 242 then (f (100 + k - 200)).2.2 else ta) = (f k).2.1 := by
      rw [if_neg (by omega), if_pos (by omega), Nat.add_sub_cancel_left]
    have e3 : (if 200 + k < 42 then (f (200 + k)).1 else if 200 + k < 142 then (f (200 + k - 100)).2.1 else if 200 + k < 242 then (f (200 + k - 200)).2.2 else ta) = (f k).2.2 := by
      rw [if_neg (by omega), if_neg (by omega), if_pos (by omega), Nat.add_sub_cancel_left]
    unfold xSxW
    dsimp only
    rw [e1, e2, e3]
    exact hh.2
  · dsimp only at e
    rw [if_pos hi, if_pos hj] at e
    have h1 := (hf i hi).1.2
    rw [e, (hf j hj).1.2] at h1
    have h2 : Int32.ofNat j = Int32.ofNat i := Value.int.inj (Option.some.inj h1)
    have h3 := congrArg Int32.toInt h2
    rw [i32_toInt (by omega), i32_toInt (by omega)] at h3
    omega
  · exact va_Zref (h.1 _ (tb_3 (List.mem_of_getElem? (i := 103) rfl))) (h.1 _ (tb_1 (List.mem_of_getElem? (i := 4) rfl))) ht hA
  · obtain ⟨cell, c1, c2, c3, c4, c5, c6, c7⟩ := hT
    exact ⟨cell, c1, c2, c3, c4, c5, fun j hj => by rw [c6 j hj]; simp only [if_pos hj], c7⟩
theorem start_NOK {args : Array Value} {s : State} (h : ∀ w ∈ lw_tbl, w.before args s = true) : NOK s := by
  refine ⟨fun w hw => ?_, va_AO.of (h _ (tb_3 (List.mem_of_getElem? (i := 1) rfl)))⟩
  simp only [NestL, List.mem_cons, List.not_mem_nil, or_false] at hw
  rcases hw with rfl | rfl | rfl | rfl | rfl | rfl
  · exact va_Nw.of rfl (h _ (tb_1 (List.mem_of_getElem? (i := 36) rfl)))
  · exact va_Nw.of rfl (h _ (tb_1 (List.mem_of_getElem? (i := 80) rfl)))
  · exact va_Nw.of rfl (h _ (tb_2 (List.mem_of_getElem? (i := 3) rfl)))
  · exact va_Nw.of rfl (h _ (tb_2 (List.mem_of_getElem? (i := 6) rfl)))
  · exact va_Nw.of rfl (h _ (tb_2 (List.mem_of_getElem? (i := 69) rfl)))
  · exact va_Nw.of rfl (h _ (tb_2 (List.mem_of_getElem? (i := 219) rfl)))
theorem start_K {args : Array Value} {s : State} (h : ∀ w ∈ lw_tbl, w.before args s = true) : ∃ (D : va_G) (cT : Nat → ClassId), va_K D vwCl (tysL cT) s := by
  have hu : ∀ w ∈ U0, w.before args s = true := fun w hw => h w (U0_tbl hw)
  have hc : ∀ c : Nat, ∃ q : ClassId × (Nat → Nat), ∀ e : vw_C, vwCl[c]? = some e → u_Kn s e.1 e.2.1 e.2.2 q.1 q.2 := by
    intro c
    match c with
    | 0 => obtain ⟨a, b, hk⟩ := u_known (ws := U0) hu cls_X0.2.1 (hu _ uw_2_5); exact ⟨(a, b), fun e he => by cases he; exact hk⟩
    | 1 => obtain ⟨a, b, hk⟩ := u_known (ws := U0) hu cls_X1.2.1 (hu _ uw_2_178); exact ⟨(a, b), fun e he => by cases he; exact hk⟩
    | 2 => obtain ⟨a, b, hk⟩ := u_known (ws := U0) hu cls_X2.2.1 (hu _ uw_1_189); exact ⟨(a, b), fun e he => by cases he; exact hk⟩
    | 3 => obtain ⟨a, b, hk⟩ := u_known (ws := U0) hu cls_X3.2.1 (hu _ uw_1_79); exact ⟨(a, b), fun e he => by cases he; exact hk⟩
    | 4 => obtain ⟨a, b, hk⟩ := u_known (ws := U0) hu cls_X4.2.1 (hu _ uw_2_132); exact ⟨(a, b), fun e he => by cases he; exact hk⟩
    | 5 => obtain ⟨a, b, hk⟩ := u_known (ws := U0) hu cls_X5.2.1 (hu _ uw_1_73); exact ⟨(a, b), fun e he => by cases he; exact hk⟩
    | 6 => obtain ⟨a, b, hk⟩ := u_known (ws := U0) hu cls_X6.2.1 (hu _ uw_2_68); exact ⟨(a, b), fun e he => by cases he; exact hk⟩
    | 7 => obtain ⟨a, b, hk⟩ := u_known (ws := U0) hu cls_X7.2.1 (hu _ uw_2_218); exact ⟨(a, b), fun e he => by cases he; exact hk⟩
    | 8 => obtain ⟨a, b, hk⟩ := u_known (ws := U0) hu cls_X8.2.1 (hu _ uw_1_35); exact ⟨(a, b), fun e he => by cases he; exact hk⟩
    | 9 => obtain ⟨a, b, hk⟩ := u_known (ws := U0) hu cls_X9.2.1 (hu _ uw_2_90); exact ⟨(a, b), fun e he => by cases he; exact hk⟩
    | 10 => obtain ⟨a, b, hk⟩ := u_known (ws := U0) hu cls_X11.2.1 (hu _ uw_1_27); exact ⟨(a, b), fun e he => by cases he; exact hk⟩
    | 11 => obtain ⟨a, b, hk⟩ := u_known (ws := U0) hu cls_X12.2.1 (hu _ uw_6_2); exact ⟨(a, b), fun e he => by cases he; exact hk⟩
    | n + 12 => exact ⟨(0, fun _ => 0), fun e he => by cases he⟩
  obtain ⟨g, hg⟩ := Classical.axiomOfChoice hc
  obtain ⟨cI, kI, pI, nI, lI, dI⟩ := Cond.arrayClass_spec (h _ (tb_1 (List.mem_of_getElem? (i := 187) rfl)))
  obtain ⟨cJ, kJ, pJ, nJ, lJ, dJ⟩ := Cond.arrayClass_spec (h _ (tb_1 (List.mem_of_getElem? (i := 186) rfl)))
  obtain ⟨cB, kB, pB, nB, lB, dB⟩ := Cond.arrayClass_spec (h _ (tb_1 (List.mem_of_getElem? (i := 71) rfl)))
  obtain ⟨cZ, kZ, pZ, nZ, lZ, dZ⟩ := Cond.arrayClass_spec (h _ (tb_3 (List.mem_of_getElem? (i := 59) rfl)))
  obtain ⟨pD, cD, kD, fD, -, lD, dD, nD⟩ := Cond.arrayOver_spec (h _ (tb_3 (List.mem_of_getElem? (i := 1) rfl)))
  refine ⟨(fun c => (g c).1, fun c => (g c).2), fun t => match t with | 0 => cI | 1 => cJ | 2 => cB | 3 => cZ | _ => cD, fun c q hq => hg c q hq, fun k q hq => ?_⟩
  match k, hq with
  | 0, hq => cases hq; exact ⟨fun n z => ⟨fun k h => (by cases h), kI, lI, pI, dI⟩, nI⟩
  | 1, hq => cases hq; exact ⟨fun n z => ⟨fun k h => (by cases h), kJ, lJ, pJ, dJ⟩, nJ⟩
  | 2, hq => cases hq; exact ⟨fun n z => ⟨fun k h => (by cases h), kB, lB, pB, dB⟩, nB⟩
  | 3, hq => cases hq; exact ⟨fun n z => ⟨fun k h => (by cases h), kZ, lZ, pZ, dZ⟩, nZ⟩
  | 4, hq => cases hq; exact ⟨fun n z => ⟨fun k h => (by cases h), kD, lD, pD, dD⟩, kD, pD, lD, dD, fD, nD⟩
  | n + 5, hq => cases hq
