/-! what the Statement gives of the statics, as the worlds need it -/
theorem word_of {args : Array Value} {s : State} {A : Nat → Prop} (hA : ∀ a : Nat, a < s.heap.size → ¬ A a) {nm : String} {so nu od : Int32} {pi : Nat} {tx : List Int32} (hN : tx.length < 2 ^ 31)
    (hini : (Cond.initialized "SkinCarriers$Word").before args s = true) (hl : (Cond.laysStatic "SkinCarriers$Word" nm "LSkinCarriers$Word;").before args s = true) (hex : (Cond.exactly (.static "SkinCarriers$Word" nm "LSkinCarriers$Word;") "SkinCarriers$Word").before args s = true)
    (ho : (Cond.eq (.field (.static "SkinCarriers$Word" nm "LSkinCarriers$Word;") "java/lang/Enum" "ordinal" "I") (.int od)).before args s = true)
    (h1 : (Cond.eq (.field (.static "SkinCarriers$Word" nm "LSkinCarriers$Word;") "SkinCarriers$Word" "text" "Ljava/lang/String;") (.string "SkinCarriers$Word" pi)).before args s = true)
    (h2 : (Cond.eq (.field (.static "SkinCarriers$Word" nm "LSkinCarriers$Word;") "SkinCarriers$Word" "sort" "I") (.int so)).before args s = true)
    (h3 : (Cond.eq (.field (.static "SkinCarriers$Word" nm "LSkinCarriers$Word;") "SkinCarriers$Word" "number" "I") (.int nu)).before args s = true)
    (he2 : (Cond.exactly (.string "SkinCarriers$Word" pi) "java/lang/String").before args s = true) (h4 : (Cond.eq (.field (.string "SkinCarriers$Word" pi) "java/lang/String" "coder" "B") (.int 0)).before args s = true)
    (h5 : (Cond.arrayOf (.field (.string "SkinCarriers$Word" pi) "java/lang/String" "value" "[B") .byte).before args s = true) (h6 : (Cond.eq (.length (.field (.string "SkinCarriers$Word" pi) "java/lang/String" "value" "[B")) (.int (Int32.ofNat tx.length))).before args s = true)
    (h7 : ∀ j, j < tx.length → (Cond.eq (.elem (.field (.string "SkinCarriers$Word" pi) "java/lang/String" "value" "[B") (.int (Int32.ofNat j))) (.int (tx.getD j 0))).before args s = true) :
    ∃ a b c : Nat, ((Term.static "SkinCarriers$Word" nm "LSkinCarriers$Word;").eval args s none [] s = some (.ref a) ∧ s.fieldOf? a "java/lang/Enum" "ordinal" "I" = some (.int od)) ∧ va_Z "SkinCarriers$Word" nm "LSkinCarriers$Word;" (.ref a) A s s.heap ∧ va_O "SkinCarriers$Word" a A s s.heap ∧ va_OF "SkinCarriers$Word" "sort" "I" (.int so) a A s s.heap ∧ va_OF "SkinCarriers$Word" "number" "I" (.int nu) a A s s.heap ∧ va_OF "SkinCarriers$Word" "text" "Ljava/lang/String;" (.ref b) a A s s.heap ∧
      va_O "java/lang/String" b A s s.heap ∧ va_OF "java/lang/String" "coder" "B" (.int 0) b A s s.heap ∧ va_OF "java/lang/String" "value" "[B" (.ref c) b A s s.heap ∧ va_T .byte c tx.length (fun j => .int (tx.getD j 0)) A s s.heap := by
  obtain ⟨a, -, -, -, q1, -⟩ := Cond.exactly_spec (args := args) (first := s) (o := none) (s := s) (idx := []) hex
  obtain ⟨b, -, -, -, r1, -⟩ := Cond.exactly_spec (args := args) (first := s) (o := none) (s := s) (idx := []) he2
  obtain ⟨c, t1, t2⟩ := va_Tof (f := fun j => .int (tx.getD j 0)) (A := A) hN h5 (va_eqt h6) (fun j hj => va_eqt (h7 j hj)) hA
  refine ⟨a, b, c, ⟨q1, ?_⟩, va_Zref hl hini q1 hA, va_Oof hex q1 hA, vk_OFof q1 (va_eqt h2) hA, vk_OFof q1 (va_eqt h3) hA, vk_OFof q1 (va_eqv h1 r1) hA, va_Oof he2 r1 hA, vk_OFof r1 (va_eqt h4) hA, vk_OFof r1 t1 hA, t2⟩
  rw [← va_fe (t := .static "SkinCarriers$Word" nm "LSkinCarriers$Word;") q1]
  exact va_eqt ho
/-- the start of a run, as the worlds need it -/
def atStart (args : Array Value) (s : State) : Prop := (∀ w ∈ lw_tbl, w.before args s = true) ∧ (∀ c ∈ flatC (Jvm.Cond.and given_1 narrow_1), c.before args s = true)
def wdP : List Nat := [182, 188, 191, 194, 197, 200, 203, 206, 209, 212, 215, 218, 221, 224, 227, 230, 233, 236, 239, 242, 245, 248, 251, 254, 257, 260, 263, 266, 269, 272, 275, 278, 281, 284, 287, 290, 293, 296, 299, 299, 299, 299]
def wordFact (args : Array Value) (s : State) (A : Nat → Prop) (k : Nat) (q : Nat × Nat × Nat) : Prop := ((Term.static "SkinCarriers$Word" (wdN.getD k "") "LSkinCarriers$Word;").eval args s none [] s = some (.ref q.1) ∧ s.fieldOf? q.1 "java/lang/Enum" "ordinal" "I" = some (.int (Int32.ofNat k))) ∧ va_Z "SkinCarriers$Word" (wdN.getD k "") "LSkinCarriers$Word;" (.ref q.1) A s s.heap ∧ va_O "SkinCarriers$Word" q.1 A s s.heap ∧ va_OF "SkinCarriers$Word" "sort" "I" (.int (wdS.getD k 0)) q.1 A s s.heap ∧ va_OF "SkinCarriers$Word" "number" "I" (.int (wdM.getD k 0)) q.1 A s s.heap ∧ va_OF "SkinCarriers$Word" "text" "Ljava/lang/String;" (.ref q.2.1) q.1 A s s.heap ∧ va_O "java/lang/String" q.2.1 A s s.heap ∧ va_OF "java/lang/String" "coder" "B" (.int 0) q.2.1 A s s.heap ∧ va_OF "java/lang/String" "value" "[B" (.ref q.2.2) q.2.1 A s s.heap ∧ va_T .byte q.2.2 ((wdT.getD k []).length) (fun j => .int ((wdT.getD k []).getD j 0)) A s s.heap
theorem word_0 {args : Array Value} {s : State} {A : Nat → Prop} (hA : ∀ a : Nat, a < s.heap.size → ¬ A a) (h : atStart args s) : ∃ q, wordFact args s A 0 q := by
  obtain ⟨a, b, c, hh⟩ := word_of (nm := "STATION") (so := 0) (nu := (-1)) (od := 0) (pi := 182) (tx := [115, 116, 97, 116, 105, 111, 110]) hA (by decide) (h.1 _ (tb_1 (List.mem_of_getElem? (i := 4) rfl))) (h.1 _ (tb_3 (List.mem_of_getElem? (i := 166) rfl))) (h.2 _ (List.mem_of_getElem? (i := 84) (by decide +kernel))) (h.2 _ (List.mem_of_getElem? (i := 85) (by decide +kernel))) (h.2 _ (List.mem_of_getElem? (i := 86) (by decide +kernel))) (h.2 _ (List.mem_of_getElem? (i := 87) (by decide +kernel))) (h.2 _ (List.mem_of_getElem? (i := 88) (by decide +kernel))) (h.2 _ (List.mem_of_getElem? (i := 328) (by decide +kernel))) (h.2 _ (List.mem_of_getElem? (i := 329) (by decide +kernel))) (h.2 _ (List.mem_of_getElem? (i := 330) (by decide +kernel))) (h.2 _ (List.mem_of_getElem? (i := 331) (by decide +kernel))) (fun j hj => by
    match j, hj with
    | 0, _ => exact h.2 _ (List.mem_of_getElem? (i := 332) (by decide +kernel))
    | 1, _ => exact h.2 _ (List.mem_of_getElem? (i := 333) (by decide +kernel))
    | 2, _ => exact h.2 _ (List.mem_of_getElem? (i := 334) (by decide +kernel))
    | 3, _ => exact h.2 _ (List.mem_of_getElem? (i := 335) (by decide +kernel))
    | 4, _ => exact h.2 _ (List.mem_of_getElem? (i := 336) (by decide +kernel))
    | 5, _ => exact h.2 _ (List.mem_of_getElem? (i := 337) (by decide +kernel))
    | 6, _ => exact h.2 _ (List.mem_of_getElem? (i := 338) (by decide +kernel))
    | n + 7, hn => exact absurd hn (by show ¬ n + 7 < 7; omega))
  exact ⟨(a, b, c), hh⟩
theorem word_1 {args : Array Value} {s : State} {A : Nat → Prop} (hA : ∀ a : Nat, a < s.heap.size → ¬ A a) (h : atStart args s) : ∃ q, wordFact args s A 1 q := by
  obtain ⟨a, b, c, hh⟩ := word_of (nm := "HIGH") (so := 0) (nu := 2) (od := 1) (pi := 188) (tx := [104, 105, 103, 104]) hA (by decide) (h.1 _ (tb_1 (List.mem_of_getElem? (i := 4) rfl))) (h.1 _ (tb_3 (List.mem_of_getElem? (i := 189) rfl))) (h.2 _ (List.mem_of_getElem? (i := 89) (by decide +kernel))) (h.2 _ (List.mem_of_getElem? (i := 90) (by decide +kernel))) (h.2 _ (List.mem_of_getElem? (i := 91) (by decide +kernel))) (h.2 _ (List.mem_of_getElem? (i := 92) (by decide +kernel))) (h.2 _ (List.mem_of_getElem? (i := 93) (by decide +kernel))) (h.2 _ (List.mem_of_getElem? (i := 339) (by decide +kernel))) (h.2 _ (List.mem_of_getElem? (i := 340) (by decide +kernel))) (h.2 _ (List.mem_of_getElem? (i := 341) (by decide +kernel))) (h.2 _ (List.mem_of_getElem? (i := 342) (by decide +kernel))) (fun j hj => by
    match j, hj with
    | 0, _ => exact h.2 _ (List.mem_of_getElem? (i := 343) (by decide +kernel))
    | 1, _ => exact h.2 _ (List.mem_of_getElem? (i := 344) (by decide +kernel))
    | 2, _ => exact h.2 _ (List.mem_of_getElem? (i := 345) (by decide +kernel))
    | 3, _ => exact h.2 _ (List.mem_of_getElem? (i := 346) (by decide +kernel))
    | n + 4, hn => exact absurd hn (by show ¬ n + 4 < 4; omega))
  exact ⟨(a, b, c), hh⟩
theorem word_2 {args : Array Value} {s : State} {A : Nat → Prop} (hA : ∀ a : Nat, a < s.heap.size → ¬ A a) (h : atStart args s) : ∃ q, wordFact args s A 2 q := by
  obtain ⟨a, b, c, hh⟩ := word_of (nm := "FALL") (so := 0) (nu := (-1)) (od := 2) (pi := 191) (tx := [102, 97, 108, 108]) hA (by decide) (h.1 _ (tb_1 (List.mem_of_getElem? (i := 4) rfl))) (h.1 _ (tb_3 (List.mem_of_getElem? (i := 200) rfl))) (h.2 _ (List.mem_of_getElem? (i := 94) (by decide +kernel))) (h.2 _ (List.mem_of_getElem? (i := 95) (by decide +kernel))) (h.2 _ (List.mem_of_getElem? (i := 96) (by decide +kernel))) (h.2 _ (List.mem_of_getElem? (i := 97) (by decide +kernel))) (h.2 _ (List.mem_of_getElem? (i := 98) (by decide +kernel))) (h.2 _ (List.mem_of_getElem? (i := 347) (by decide +kernel))) (h.2 _ (List.mem_of_getElem? (i := 348) (by decide +kernel))) (h.2 _ (List.mem_of_getElem? (i := 349) (by decide +kernel))) (h.2 _ (List.mem_of_getElem? (i := 350) (by decide +kernel))) (fun j hj => by
    match j, hj with
    | 0, _ => exact h.2 _ (List.mem_of_getElem? (i := 351) (by decide +kernel))
    | 1, _ => exact h.2 _ (List.mem_of_getElem? (i := 352) (by decide +kernel))
    | 2, _ => exact h.2 _ (List.mem_of_getElem? (i := 353) (by decide +kernel))
    | 3, _ => exact h.2 _ (List.mem_of_getElem? (i := 354) (by decide +kernel))
    | n + 4, hn => exact absurd hn (by show ¬ n + 4 < 4; omega))
  exact ⟨(a, b, c), hh⟩
theorem word_3 {args : Array Value} {s : State} {A : Nat → Prop} (hA : ∀ a : Nat, a < s.heap.size → ¬ A a) (h : atStart args s) : ∃ q, wordFact args s A 3 q := by
  obtain ⟨a, b, c, hh⟩ := word_of (nm := "WAY") (so := 0) (nu := (-1)) (od := 3) (pi := 194) (tx := [119, 97, 121]) hA (by decide) (h.1 _ (tb_1 (List.mem_of_getElem? (i := 4) rfl))) (h.1 _ (tb_3 (List.mem_of_getElem? (i := 202) rfl))) (h.2 _ (List.mem_of_getElem? (i := 99) (by decide +kernel))) (h.2 _ (List.mem_of_getElem? (i := 100) (by decide +kernel))) (h.2 _ (List.mem_of_getElem? (i := 101) (by decide +kernel))) (h.2 _ (List.mem_of_getElem? (i := 102) (by decide +kernel))) (h.2 _ (List.mem_of_getElem? (i := 103) (by decide +kernel))) (h.2 _ (List.mem_of_getElem? (i := 355) (by decide +kernel))) (h.2 _ (List.mem_of_getElem? (i := 356) (by decide +kernel))) (h.2 _ (List.mem_of_getElem? (i := 357) (by decide +kernel))) (h.2 _ (List.mem_of_getElem? (i := 358) (by decide +kernel))) (fun j hj => by
    match j, hj with
    | 0, _ => exact h.2 _ (List.mem_of_getElem? (i := 359) (by decide +kernel))
    | 1, _ => exact h.2 _ (List.mem_of_getElem? (i := 360) (by decide +kernel))
    | 2, _ => exact h.2 _ (List.mem_of_getElem? (i := 361) (by decide +kernel))
    | n + 3, hn => exact absurd hn (by show ¬ n + 3 < 3; omega))
  exact ⟨(a, b, c), hh⟩
theorem word_4 {args : Array Value} {s : State} {A : Nat → Prop} (hA : ∀ a : Nat, a < s.heap.size → ¬ A a) (h : atStart args s) : ∃ q, wordFact args s A 4 q := by
  obtain ⟨a, b, c, hh⟩ := word_of (nm := "LONG") (so := 0) (nu := (-1)) (od := 4) (pi := 197) (tx := [108, 111, 110, 103]) hA (by decide) (h.1 _ (tb_1 (List.mem_of_getElem? (i := 4) rfl))) (h.1 _ (tb_3 (List.mem_of_getElem? (i := 220) rfl))) (h.2 _ (List.mem_of_getElem? (i := 104) (by decide +kernel))) (h.2 _ (List.mem_of_getElem? (i := 105) (by decide +kernel))) (h.2 _ (List.mem_of_getElem? (i := 106) (by decide +kernel))) (h.2 _ (List.mem_of_getElem? (i := 107) (by decide +kernel))) (h.2 _ (List.mem_of_getElem? (i := 108) (by decide +kernel))) (h.2 _ (List.mem_of_getElem? (i := 362) (by decide +kernel))) (h.2 _ (List.mem_of_getElem? (i := 363) (by decide +kernel))) (h.2 _ (List.mem_of_getElem? (i := 364) (by decide +kernel))) (h.2 _ (List.mem_of_getElem? (i := 365) (by decide +kernel))) (fun j hj => by
    match j, hj with
    | 0, _ => exact h.2 _ (List.mem_of_getElem? (i := 366) (by decide +kernel))
    | 1, _ => exact h.2 _ (List.mem_of_getElem? (i := 367) (by decide +kernel))
    | 2, _ => exact h.2 _ (List.mem_of_getElem? (i := 368) (by decide +kernel))
    | 3, _ => exact h.2 _ (List.mem_of_getElem? (i := 369) (by decide +kernel))
    | n + 4, hn => exact absurd hn (by show ¬ n + 4 < 4; omega))
  exact ⟨(a, b, c), hh⟩
theorem word_5 {args : Array Value} {s : State} {A : Nat → Prop} (hA : ∀ a : Nat, a < s.heap.size → ¬ A a) (h : atStart args s) : ∃ q, wordFact args s A 5 q := by
  obtain ⟨a, b, c, hh⟩ := word_of (nm := "THORNS") (so := 0) (nu := (-1)) (od := 5) (pi := 200) (tx := [116, 104, 111, 114, 110, 115]) hA (by decide) (h.1 _ (tb_1 (List.mem_of_getElem? (i := 4) rfl))) (h.1 _ (tb_3 (List.mem_of_getElem? (i := 222) rfl))) (h.2 _ (List.mem_of_getElem? (i := 109) (by decide +kernel))) (h.2 _ (List.mem_of_getElem? (i := 110) (by decide +kernel))) (h.2 _ (List.mem_of_getElem? (i := 111) (by decide +kernel))) (h.2 _ (List.mem_of_getElem? (i := 112) (by decide +kernel))) (h.2 _ (List.mem_of_getElem? (i := 113) (by decide +kernel))) (h.2 _ (List.mem_of_getElem? (i := 370) (by decide +kernel))) (h.2 _ (List.mem_of_getElem? (i := 371) (by decide +kernel))) (h.2 _ (List.mem_of_getElem? (i := 372) (by decide +kernel))) (h.2 _ (List.mem_of_getElem? (i := 373) (by decide +kernel))) (fun j hj => by
    match j, hj with
    | 0, _ => exact h.2 _ (List.mem_of_getElem? (i := 374) (by decide +kernel))
    | 1, _ => exact h.2 _ (List.mem_of_getElem? (i := 375) (by decide +kernel))
    | 2, _ => exact h.2 _ (List.mem_of_getElem? (i := 376) (by decide +kernel))
    | 3, _ => exact h.2 _ (List.mem_of_getElem? (i := 377) (by decide +kernel))
    | 4, _ => exact h.2 _ (List.mem_of_getElem? (i := 378) (by decide +kernel))
    | 5, _ => exact h.2 _ (List.mem_of_getElem? (i := 379) (by decide +kernel))
    | n + 6, hn => exact absurd hn (by show ¬ n + 6 < 6; omega))
  exact ⟨(a, b, c), hh⟩
theorem word_6 {args : Array Value} {s : State} {A : Nat → Prop} (hA : ∀ a : Nat, a < s.heap.size → ¬ A a) (h : atStart args s) : ∃ q, wordFact args s A 6 q := by
  obtain ⟨a, b, c, hh⟩ := word_of (nm := "CARRIER") (so := 0) (nu := (-1)) (od := 6) (pi := 203) (tx := [99, 97, 114, 114, 105, 101, 114]) hA (by decide) (h.1 _ (tb_1 (List.mem_of_getElem? (i := 4) rfl))) (h.1 _ (tb_3 (List.mem_of_getElem? (i := 228) rfl))) (h.2 _ (List.mem_of_getElem? (i := 114) (by decide +kernel))) (h.2 _ (List.mem_of_getElem? (i := 115) (by decide +kernel))) (h.2 _ (List.mem_of_getElem? (i := 116) (by decide +kernel))) (h.2 _ (List.mem_of_getElem? (i := 117) (by decide +kernel))) (h.2 _ (List.mem_of_getElem? (i := 118) (by decide +kernel))) (h.2 _ (List.mem_of_getElem? (i := 380) (by decide +kernel))) (h.2 _ (List.mem_of_getElem? (i := 381) (by decide +kernel))) (h.2 _ (List.mem_of_getElem? (i := 382) (by decide +kernel))) (h.2 _ (List.mem_of_getElem? (i := 383) (by decide +kernel))) (fun j hj => by
    match j, hj with
    | 0, _ => exact h.2 _ (List.mem_of_getElem? (i := 384) (by decide +kernel))
    | 1, _ => exact h.2 _ (List.mem_of_getElem? (i := 385) (by decide +kernel))
    | 2, _ => exact h.2 _ (List.mem_of_getElem? (i := 386) (by decide +kernel))
    | 3, _ => exact h.2 _ (List.mem_of_getElem? (i := 387) (by decide +kernel))
    | 4, _ => exact h.2 _ (List.mem_of_getElem? (i := 388) (by decide +kernel))
    | 5, _ => exact h.2 _ (List.mem_of_getElem? (i := 389) (by decide +kernel))
    | 6, _ => exact h.2 _ (List.mem_of_getElem? (i := 390) (by decide +kernel))
    | n + 7, hn => exact absurd hn (by show ¬ n + 7 < 7; omega))
  exact ⟨(a, b, c), hh⟩
theorem word_7 {args : Array Value} {s : State} {A : Nat → Prop} (hA : ∀ a : Nat, a < s.heap.size → ¬ A a) (h : atStart args s) : ∃ q, wordFact args s A 7 q := by
  obtain ⟨a, b, c, hh⟩ := word_of (nm := "SKIN") (so := 0) (nu := (-1)) (od := 7) (pi := 206) (tx := [115, 107, 105, 110]) hA (by decide) (h.1 _ (tb_1 (List.mem_of_getElem? (i := 4) rfl))) (h.1 _ (tb_3 (List.mem_of_getElem? (i := 234) rfl))) (h.2 _ (List.mem_of_getElem? (i := 119) (by decide +kernel))) (h.2 _ (List.mem_of_getElem? (i := 120) (by decide +kernel))) (h.2 _ (List.mem_of_getElem? (i := 121) (by decide +kernel))) (h.2 _ (List.mem_of_getElem? (i := 122) (by decide +kernel))) (h.2 _ (List.mem_of_getElem? (i := 123) (by decide +kernel))) (h.2 _ (List.mem_of_getElem? (i := 391) (by decide +kernel))) (h.2 _ (List.mem_of_getElem? (i := 392) (by decide +kernel))) (h.2 _ (List.mem_of_getElem? (i := 393) (by decide +kernel))) (h.2 _ (List.mem_of_getElem? (i := 394) (by decide +kernel))) (fun j hj => by
    match j, hj with
    | 0, _ => exact h.2 _ (List.mem_of_getElem? (i := 395) (by decide +kernel))
    | 1, _ => exact h.2 _ (List.mem_of_getElem? (i := 396) (by decide +kernel))
    | 2, _ => exact h.2 _ (List.mem_of_getElem? (i := 397) (by decide +kernel))
    | 3, _ => exact h.2 _ (List.mem_of_getElem? (i := 398) (by decide +kernel))
    | n + 4, hn => exact absurd hn (by show ¬ n + 4 < 4; omega))
  exact ⟨(a, b, c), hh⟩
theorem word_8 {args : Array Value} {s : State} {A : Nat → Prop} (hA : ∀ a : Nat, a < s.heap.size → ¬ A a) (h : atStart args s) : ∃ q, wordFact args s A 8 q := by
  obtain ⟨a, b, c, hh⟩ := word_of (nm := "LEAK") (so := 0) (nu := (-1)) (od := 8) (pi := 209) (tx := [108, 101, 97, 107]) hA (by decide) (h.1 _ (tb_1 (List.mem_of_getElem? (i := 4) rfl))) (h.1 _ (tb_3 (List.mem_of_getElem? (i := 236) rfl))) (h.2 _ (List.mem_of_getElem? (i := 124) (by decide +kernel))) (h.2 _ (List.mem_of_getElem? (i := 125) (by decide +kernel))) (h.2 _ (List.mem_of_getElem? (i := 126) (by decide +kernel))) (h.2 _ (List.mem_of_getElem? (i := 127) (by decide +kernel))) (h.2 _ (List.mem_of_getElem? (i := 128) (by decide +kernel))) (h.2 _ (List.mem_of_getElem? (i := 399) (by decide +kernel))) (h.2 _ (List.mem_of_getElem? (i := 400) (by decide +kernel))) (h.2 _ (List.mem_of_getElem? (i := 401) (by decide +kernel))) (h.2 _ (List.mem_of_getElem? (i := 402) (by decide +kernel))) (fun j hj => by
    match j, hj with
    | 0, _ => exact h.2 _ (List.mem_of_getElem? (i := 403) (by decide +kernel))
    | 1, _ => exact h.2 _ (List.mem_of_getElem? (i := 404) (by decide +kernel))
    | 2, _ => exact h.2 _ (List.mem_of_getElem? (i := 405) (by decide +kernel))
    | 3, _ => exact h.2 _ (List.mem_of_getElem? (i := 406) (by decide +kernel))
    | n + 4, hn => exact absurd hn (by show ¬ n + 4 < 4; omega))
  exact ⟨(a, b, c), hh⟩
theorem word_9 {args : Array Value} {s : State} {A : Nat → Prop} (hA : ∀ a : Nat, a < s.heap.size → ¬ A a) (h : atStart args s) : ∃ q, wordFact args s A 9 q := by
  obtain ⟨a, b, c, hh⟩ := word_of (nm := "THIRST") (so := 0) (nu := 0) (od := 9) (pi := 212) (tx := [116, 104, 105, 114, 115, 116]) hA (by decide) (h.1 _ (tb_1 (List.mem_of_getElem? (i := 4) rfl))) (h.1 _ (tb_3 (List.mem_of_getElem? (i := 238) rfl))) (h.2 _ (List.mem_of_getElem? (i := 129) (by decide +kernel))) (h.2 _ (List.mem_of_getElem? (i := 130) (by decide +kernel))) (h.2 _ (List.mem_of_getElem? (i := 131) (by decide +kernel))) (h.2 _ (List.mem_of_getElem? (i := 132) (by decide +kernel))) (h.2 _ (List.mem_of_getElem? (i := 133) (by decide +kernel))) (h.2 _ (List.mem_of_getElem? (i := 407) (by decide +kernel))) (h.2 _ (List.mem_of_getElem? (i := 408) (by decide +kernel))) (h.2 _ (List.mem_of_getElem? (i := 409) (by decide +kernel))) (h.2 _ (List.mem_of_getElem? (i := 410) (by decide +kernel))) (fun j hj => by
    match j, hj with
    | 0, _ => exact h.2 _ (List.mem_of_getElem? (i := 411) (by decide +kernel))
    | 1, _ => exact h.2 _ (List.mem_of_getElem? (i := 412) (by decide +kernel))
    | 2, _ => exact h.2 _ (List.mem_of_getElem? (i := 413) (by decide +kernel))
    | 3, _ => exact h.2 _ (List.mem_of_getElem? (i := 414) (by decide +kernel))
    | 4, _ => exact h.2 _ (List.mem_of_getElem? (i := 415) (by decide +kernel))
    | 5, _ => exact h.2 _ (List.mem_of_getElem? (i := 416) (by decide +kernel))
    | n + 6, hn => exact absurd hn (by show ¬ n + 6 < 6; omega))
  exact ⟨(a, b, c), hh⟩
theorem word_10 {args : Array Value} {s : State} {A : Nat → Prop} (hA : ∀ a : Nat, a < s.heap.size → ¬ A a) (h : atStart args s) : ∃ q, wordFact args s A 10 q := by
  obtain ⟨a, b, c, hh⟩ := word_of (nm := "OWES") (so := 0) (nu := (-1)) (od := 10) (pi := 215) (tx := [111, 119, 101, 115]) hA (by decide) (h.1 _ (tb_1 (List.mem_of_getElem? (i := 4) rfl))) (h.1 _ (tb_4 (List.mem_of_getElem? (i := 0) rfl))) (h.2 _ (List.mem_of_getElem? (i := 134) (by decide +kernel))) (h.2 _ (List.mem_of_getElem? (i := 135) (by decide +kernel))) (h.2 _ (List.mem_of_getElem? (i := 136) (by decide +kernel))) (h.2 _ (List.mem_of_getElem? (i := 137) (by decide +kernel))) (h.2 _ (List.mem_of_getElem? (i := 138) (by decide +kernel))) (h.2 _ (List.mem_of_getElem? (i := 417) (by decide +kernel))) (h.2 _ (List.mem_of_getElem? (i := 418) (by decide +kernel))) (h.2 _ (List.mem_of_getElem? (i := 419) (by decide +kernel))) (h.2 _ (List.mem_of_getElem? (i := 420) (by decide +kernel))) (fun j hj => by
    match j, hj with
    | 0, _ => exact h.2 _ (List.mem_of_getElem? (i := 421) (by decide +kernel))
    | 1, _ => exact h.2 _ (List.mem_of_getElem? (i := 422) (by decide +kernel))
    | 2, _ => exact h.2 _ (List.mem_of_getElem? (i := 423) (by decide +kernel))
    | 3, _ => exact h.2 _ (List.mem_of_getElem? (i := 424) (by decide +kernel))
    | n + 4, hn => exact absurd hn (by show ¬ n + 4 < 4; omega))
  exact ⟨(a, b, c), hh⟩
theorem word_11 {args : Array Value} {s : State} {A : Nat → Prop} (hA : ∀ a : Nat, a < s.heap.size → ¬ A a) (h : atStart args s) : ∃ q, wordFact args s A 11 q := by
  obtain ⟨a, b, c, hh⟩ := word_of (nm := "DRINK") (so := 0) (nu := (-1)) (od := 11) (pi := 218) (tx := [100, 114, 105, 110, 107]) hA (by decide) (h.1 _ (tb_1 (List.mem_of_getElem? (i := 4) rfl))) (h.1 _ (tb_4 (List.mem_of_getElem? (i := 6) rfl))) (h.2 _ (List.mem_of_getElem? (i := 139) (by decide +kernel))) (h.2 _ (List.mem_of_getElem? (i := 140) (by decide +kernel))) (h.2 _ (List.mem_of_getElem? (i := 141) (by decide +kernel))) (h.2 _ (List.mem_of_getElem? (i := 142) (by decide +kernel))) (h.2 _ (List.mem_of_getElem? (i := 143) (by decide +kernel))) (h.2 _ (List.mem_of_getElem? (i := 425) (by decide +kernel))) (h.2 _ (List.mem_of_getElem? (i := 426) (by decide +kernel))) (h.2 _ (List.mem_of_getElem? (i := 427) (by decide +kernel))) (h.2 _ (List.mem_of_getElem? (i := 428) (by decide +kernel))) (fun j hj => by
    match j, hj with
    | 0, _ => exact h.2 _ (List.mem_of_getElem? (i := 429) (by decide +kernel))
    | 1, _ => exact h.2 _ (List.mem_of_getElem? (i := 430) (by decide +kernel))
    | 2, _ => exact h.2 _ (List.mem_of_getElem? (i := 431) (by decide +kernel))
    | 3, _ => exact h.2 _ (List.mem_of_getElem? (i := 432) (by decide +kernel))
    | 4, _ => exact h.2 _ (List.mem_of_getElem? (i := 433) (by decide +kernel))
    | n + 5, hn => exact absurd hn (by show ¬ n + 5 < 5; omega))
  exact ⟨(a, b, c), hh⟩
theorem word_12 {args : Array Value} {s : State} {A : Nat → Prop} (hA : ∀ a : Nat, a < s.heap.size → ¬ A a) (h : atStart args s) : ∃ q, wordFact args s A 12 q := by
  obtain ⟨a, b, c, hh⟩ := word_of (nm := "PRICE") (so := 0) (nu := (-1)) (od := 12) (pi := 221) (tx := [112, 114, 105, 99, 101]) hA (by decide) (h.1 _ (tb_1 (List.mem_of_getElem? (i := 4) rfl))) (h.1 _ (tb_4 (List.mem_of_getElem? (i := 8) rfl))) (h.2 _ (List.mem_of_getElem? (i := 144) (by decide +kernel))) (h.2 _ (List.mem_of_getElem? (i := 145) (by decide +kernel))) (h.2 _ (List.mem_of_getElem? (i := 146) (by decide +kernel))) (h.2 _ (List.mem_of_getElem? (i := 147) (by decide +kernel))) (h.2 _ (List.mem_of_getElem? (i := 148) (by decide +kernel))) (h.2 _ (List.mem_of_getElem? (i := 434) (by decide +kernel))) (h.2 _ (List.mem_of_getElem? (i := 435) (by decide +kernel))) (h.2 _ (List.mem_of_getElem? (i := 436) (by decide +kernel))) (h.2 _ (List.mem_of_getElem? (i := 437) (by decide +kernel))) (fun j hj => by
    match j, hj with
    | 0, _ => exact h.2 _ (List.mem_of_getElem? (i := 438) (by decide +kernel))
    | 1, _ => exact h.2 _ (List.mem_of_getElem? (i := 439) (by decide +kernel))
    | 2, _ => exact h.2 _ (List.mem_of_getElem? (i := 440) (by decide +kernel))
    | 3, _ => exact h.2 _ (List.mem_of_getElem? (i := 441) (by decide +kernel))
    | 4, _ => exact h.2 _ (List.mem_of_getElem? (i := 442) (by decide +kernel))
    | n + 5, hn => exact absurd hn (by show ¬ n + 5 < 5; omega))
  exact ⟨(a, b, c), hh⟩
theorem word_13 {args : Array Value} {s : State} {A : Nat → Prop} (hA : ∀ a : Nat, a < s.heap.size → ¬ A a) (h : atStart args s) : ∃ q, wordFact args s A 13 q := by
  obtain ⟨a, b, c, hh⟩ := word_of (nm := "FOG") (so := 0) (nu := (-1)) (od := 13) (pi := 224) (tx := [102, 111, 103]) hA (by decide) (h.1 _ (tb_1 (List.mem_of_getElem? (i := 4) rfl))) (h.1 _ (tb_4 (List.mem_of_getElem? (i := 93) rfl))) (h.2 _ (List.mem_of_getElem? (i := 169) (by decide +kernel))) (h.2 _ (List.mem_of_getElem? (i := 170) (by decide +kernel))) (h.2 _ (List.mem_of_getElem? (i := 171) (by decide +kernel))) (h.2 _ (List.mem_of_getElem? (i := 172) (by decide +kernel))) (h.2 _ (List.mem_of_getElem? (i := 173) (by decide +kernel))) (h.2 _ (List.mem_of_getElem? (i := 465) (by decide +kernel))) (h.2 _ (List.mem_of_getElem? (i := 466) (by decide +kernel))) (h.2 _ (List.mem_of_getElem? (i := 467) (by decide +kernel))) (h.2 _ (List.mem_of_getElem? (i := 468) (by decide +kernel))) (fun j hj => by
    match j, hj with
    | 0, _ => exact h.2 _ (List.mem_of_getElem? (i := 469) (by decide +kernel))
    | 1, _ => exact h.2 _ (List.mem_of_getElem? (i := 470) (by decide +kernel))
    | 2, _ => exact h.2 _ (List.mem_of_getElem? (i := 471) (by decide +kernel))
    | n + 3, hn => exact absurd hn (by show ¬ n + 3 < 3; omega))
  exact ⟨(a, b, c), hh⟩
theorem word_14 {args : Array Value} {s : State} {A : Nat → Prop} (hA : ∀ a : Nat, a < s.heap.size → ¬ A a) (h : atStart args s) : ∃ q, wordFact args s A 14 q := by
  obtain ⟨a, b, c, hh⟩ := word_of (nm := "SPRING") (so := 0) (nu := (-1)) (od := 14) (pi := 227) (tx := [115, 112, 114, 105, 110, 103]) hA (by decide) (h.1 _ (tb_1 (List.mem_of_getElem? (i := 4) rfl))) (h.1 _ (tb_4 (List.mem_of_getElem? (i := 95) rfl))) (h.2 _ (List.mem_of_getElem? (i := 174) (by decide +kernel))) (h.2 _ (List.mem_of_getElem? (i := 175) (by decide +kernel))) (h.2 _ (List.mem_of_getElem? (i := 176) (by decide +kernel))) (h.2 _ (List.mem_of_getElem? (i := 177) (by decide +kernel))) (h.2 _ (List.mem_of_getElem? (i := 178) (by decide +kernel))) (h.2 _ (List.mem_of_getElem? (i := 472) (by decide +kernel))) (h.2 _ (List.mem_of_getElem? (i := 473) (by decide +kernel))) (h.2 _ (List.mem_of_getElem? (i := 474) (by decide +kernel))) (h.2 _ (List.mem_of_getElem? (i := 475) (by decide +kernel))) (fun j hj => by
    match j, hj with
    | 0, _ => exact h.2 _ (List.mem_of_getElem? (i := 476) (by decide +kernel))
    | 1, _ => exact h.2 _ (List.mem_of_getElem? (i := 477) (by decide +kernel))
    | 2, _ => exact h.2 _ (List.mem_of_getElem? (i := 478) (by decide +kernel))
    | 3, _ => exact h.2 _ (List.mem_of_getElem? (i := 479) (by decide +kernel))
    | 4, _ => exact h.2 _ (List.mem_of_getElem? (i := 480) (by decide +kernel))
    | 5, _ => exact h.2 _ (List.mem_of_getElem? (i := 481) (by decide +kernel))
    | n + 6, hn => exact absurd hn (by show ¬ n + 6 < 6; omega))
  exact ⟨(a, b, c), hh⟩
theorem word_15 {args : Array Value} {s : State} {A : Nat → Prop} (hA : ∀ a : Nat, a < s.heap.size → ¬ A a) (h : atStart args s) : ∃ q, wordFact args s A 15 q := by
  obtain ⟨a, b, c, hh⟩ := word_of (nm := "NOON") (so := 0) (nu := (-1)) (od := 15) (pi := 230) (tx := [110, 111, 111, 110]) hA (by decide) (h.1 _ (tb_1 (List.mem_of_getElem? (i := 4) rfl))) (h.1 _ (tb_4 (List.mem_of_getElem? (i := 97) rfl))) (h.2 _ (List.mem_of_getElem? (i := 179) (by decide +kernel))) (h.2 _ (List.mem_of_getElem? (i := 180) (by decide +kernel))) (h.2 _ (List.mem_of_getElem? (i := 181) (by decide +kernel))) (h.2 _ (List.mem_of_getElem? (i := 182) (by decide +kernel))) (h.2 _ (List.mem_of_getElem? (i := 183) (by decide +kernel))) (h.2 _ (List.mem_of_getElem? (i := 482) (by decide +kernel))) (h.2 _ (List.mem_of_getElem? (i := 483) (by decide +kernel))) (h.2 _ (List.mem_of_getElem? (i := 484) (by decide +kernel))) (h.2 _ (List.mem_of_getElem? (i := 485) (by decide +kernel))) (fun j hj => by
    match j, hj with
    | 0, _ => exact h.2 _ (List.mem_of_getElem? (i := 486) (by decide +kernel))
    | 1, _ => exact h.2 _ (List.mem_of_getElem? (i := 487) (by decide +kernel))
    | 2, _ => exact h.2 _ (List.mem_of_getElem? (i := 488) (by decide +kernel))
    | 3, _ => exact h.2 _ (List.mem_of_getElem? (i := 489) (by decide +kernel))
    | n + 4, hn => exact absurd hn (by show ¬ n + 4 < 4; omega))
  exact ⟨(a, b, c), hh⟩
theorem word_16 {args : Array Value} {s : State} {A : Nat → Prop} (hA : ∀ a : Nat, a < s.heap.size → ¬ A a) (h : atStart args s) : ∃ q, wordFact args s A 16 q := by
  obtain ⟨a, b, c, hh⟩ := word_of (nm := "PLAIN") (so := 1) (nu := 0) (od := 16) (pi := 233) (tx := [112, 108, 97, 105, 110]) hA (by decide) (h.1 _ (tb_1 (List.mem_of_getElem? (i := 4) rfl))) (h.1 _ (tb_8 (List.mem_of_getElem? (i := 91) rfl))) (h.2 _ (List.mem_of_getElem? (i := 186) (by decide +kernel))) (h.2 _ (List.mem_of_getElem? (i := 187) (by decide +kernel))) (h.2 _ (List.mem_of_getElem? (i := 188) (by decide +kernel))) (h.2 _ (List.mem_of_getElem? (i := 189) (by decide +kernel))) (h.2 _ (List.mem_of_getElem? (i := 190) (by decide +kernel))) (h.2 _ (List.mem_of_getElem? (i := 490) (by decide +kernel))) (h.2 _ (List.mem_of_getElem? (i := 491) (by decide +kernel))) (h.2 _ (List.mem_of_getElem? (i := 492) (by decide +kernel))) (h.2 _ (List.mem_of_getElem? (i := 493) (by decide +kernel))) (fun j hj => by
    match j, hj with
    | 0, _ => exact h.2 _ (List.mem_of_getElem? (i := 494) (by decide +kernel))
    | 1, _ => exact h.2 _ (List.mem_of_getElem? (i := 495) (by decide +kernel))
    | 2, _ => exact h.2 _ (List.mem_of_getElem? (i := 496) (by decide +kernel))
    | 3, _ => exact h.2 _ (List.mem_of_getElem? (i := 497) (by decide +kernel))
    | 4, _ => exact h.2 _ (List.mem_of_getElem? (i := 498) (by decide +kernel))
    | n + 5, hn => exact absurd hn (by show ¬ n + 5 < 5; omega))
  exact ⟨(a, b, c), hh⟩
theorem word_17 {args : Array Value} {s : State} {A : Nat → Prop} (hA : ∀ a : Nat, a < s.heap.size → ¬ A a) (h : atStart args s) : ∃ q, wordFact args s A 17 q := by
  obtain ⟨a, b, c, hh⟩ := word_of (nm := "GOAT") (so := 1) (nu := 1) (od := 17) (pi := 236) (tx := [103, 111, 97, 116]) hA (by decide) (h.1 _ (tb_1 (List.mem_of_getElem? (i := 4) rfl))) (h.1 _ (tb_8 (List.mem_of_getElem? (i := 92) rfl))) (h.2 _ (List.mem_of_getElem? (i := 191) (by decide +kernel))) (h.2 _ (List.mem_of_getElem? (i := 192) (by decide +kernel))) (h.2 _ (List.mem_of_getElem? (i := 193) (by decide +kernel))) (h.2 _ (List.mem_of_getElem? (i := 194) (by decide +kernel))) (h.2 _ (List.mem_of_getElem? (i := 195) (by decide +kernel))) (h.2 _ (List.mem_of_getElem? (i := 499) (by decide +kernel))) (h.2 _ (List.mem_of_getElem? (i := 500) (by decide +kernel))) (h.2 _ (List.mem_of_getElem? (i := 501) (by decide +kernel))) (h.2 _ (List.mem_of_getElem? (i := 502) (by decide +kernel))) (fun j hj => by
    match j, hj with
    | 0, _ => exact h.2 _ (List.mem_of_getElem? (i := 503) (by decide +kernel))
    | 1, _ => exact h.2 _ (List.mem_of_getElem? (i := 504) (by decide +kernel))
    | 2, _ => exact h.2 _ (List.mem_of_getElem? (i := 505) (by decide +kernel))
    | 3, _ => exact h.2 _ (List.mem_of_getElem? (i := 506) (by decide +kernel))
    | n + 4, hn => exact absurd hn (by show ¬ n + 4 < 4; omega))
  exact ⟨(a, b, c), hh⟩
theorem word_18 {args : Array Value} {s : State} {A : Nat → Prop} (hA : ∀ a : Nat, a < s.heap.size → ¬ A a) (h : atStart args s) : ∃ q, wordFact args s A 18 q := by
  obtain ⟨a, b, c, hh⟩ := word_of (nm := "MULE") (so := 1) (nu := 2) (od := 18) (pi := 239) (tx := [109, 117, 108, 101]) hA (by decide) (h.1 _ (tb_1 (List.mem_of_getElem? (i := 4) rfl))) (h.1 _ (tb_8 (List.mem_of_getElem? (i := 93) rfl))) (h.2 _ (List.mem_of_getElem? (i := 196) (by decide +kernel))) (h.2 _ (List.mem_of_getElem? (i := 197) (by decide +kernel))) (h.2 _ (List.mem_of_getElem? (i := 198) (by decide +kernel))) (h.2 _ (List.mem_of_getElem? (i := 199) (by decide +kernel))) (h.2 _ (List.mem_of_getElem? (i := 200) (by decide +kernel))) (h.2 _ (List.mem_of_getElem? (i := 507) (by decide +kernel))) (h.2 _ (List.mem_of_getElem? (i := 508) (by decide +kernel))) (h.2 _ (List.mem_of_getElem? (i := 509) (by decide +kernel))) (h.2 _ (List.mem_of_getElem? (i := 510) (by decide +kernel))) (fun j hj => by
    match j, hj with
    | 0, _ => exact h.2 _ (List.mem_of_getElem? (i := 511) (by decide +kernel))
    | 1, _ => exact h.2 _ (List.mem_of_getElem? (i := 512) (by decide +kernel))
    | 2, _ => exact h.2 _ (List.mem_of_getElem? (i := 513) (by decide +kernel))
    | 3, _ => exact h.2 _ (List.mem_of_getElem? (i := 514) (by decide +kernel))
    | n + 4, hn => exact absurd hn (by show ¬ n + 4 < 4; omega))
  exact ⟨(a, b, c), hh⟩
theorem word_19 {args : Array Value} {s : State} {A : Nat → Prop} (hA : ∀ a : Nat, a < s.heap.size → ¬ A a) (h : atStart args s) : ∃ q, wordFact args s A 19 q := by
  obtain ⟨a, b, c, hh⟩ := word_of (nm := "COUSIN") (so := 1) (nu := 3) (od := 19) (pi := 242) (tx := [99, 111, 117, 115, 105, 110]) hA (by decide) (h.1 _ (tb_1 (List.mem_of_getElem? (i := 4) rfl))) (h.1 _ (tb_8 (List.mem_of_getElem? (i := 94) rfl))) (h.2 _ (List.mem_of_getElem? (i := 201) (by decide +kernel))) (h.2 _ (List.mem_of_getElem? (i := 202) (by decide +kernel))) (h.2 _ (List.mem_of_getElem? (i := 203) (by decide +kernel))) (h.2 _ (List.mem_of_getElem? (i := 204) (by decide +kernel))) (h.2 _ (List.mem_of_getElem? (i := 205) (by decide +kernel))) (h.2 _ (List.mem_of_getElem? (i := 515) (by decide +kernel))) (h.2 _ (List.mem_of_getElem? (i := 516) (by decide +kernel))) (h.2 _ (List.mem_of_getElem? (i := 517) (by decide +kernel))) (h.2 _ (List.mem_of_getElem? (i := 518) (by decide +kernel))) (fun j hj => by
    match j, hj with
    | 0, _ => exact h.2 _ (List.mem_of_getElem? (i := 519) (by decide +kernel))
    | 1, _ => exact h.2 _ (List.mem_of_getElem? (i := 520) (by decide +kernel))
    | 2, _ => exact h.2 _ (List.mem_of_getElem? (i := 521) (by decide +kernel))
    | 3, _ => exact h.2 _ (List.mem_of_getElem? (i := 522) (by decide +kernel))
    | 4, _ => exact h.2 _ (List.mem_of_getElem? (i := 523) (by decide +kernel))
    | 5, _ => exact h.2 _ (List.mem_of_getElem? (i := 524) (by decide +kernel))
    | n + 6, hn => exact absurd hn (by show ¬ n + 6 < 6; omega))
  exact ⟨(a, b, c), hh⟩
theorem word_20 {args : Array Value} {s : State} {A : Nat → Prop} (hA : ∀ a : Nat, a < s.heap.size → ¬ A a) (h : atStart args s) : ∃ q, wordFact args s A 20 q := by
  obtain ⟨a, b, c, hh⟩ := word_of (nm := "PATCHED") (so := 1) (nu := 4) (od := 20) (pi := 245) (tx := [112, 97, 116, 99, 104, 101, 100]) hA (by decide) (h.1 _ (tb_1 (List.mem_of_getElem? (i := 4) rfl))) (h.1 _ (tb_8 (List.mem_of_getElem? (i := 95) rfl))) (h.2 _ (List.mem_of_getElem? (i := 206) (by decide +kernel))) (h.2 _ (List.mem_of_getElem? (i := 207) (by decide +kernel))) (h.2 _ (List.mem_of_getElem? (i := 208) (by decide +kernel))) (h.2 _ (List.mem_of_getElem? (i := 209) (by decide +kernel))) (h.2 _ (List.mem_of_getElem? (i := 210) (by decide +kernel))) (h.2 _ (List.mem_of_getElem? (i := 525) (by decide +kernel))) (h.2 _ (List.mem_of_getElem? (i := 526) (by decide +kernel))) (h.2 _ (List.mem_of_getElem? (i := 527) (by decide +kernel))) (h.2 _ (List.mem_of_getElem? (i := 528) (by decide +kernel))) (fun j hj => by
    match j, hj with
    | 0, _ => exact h.2 _ (List.mem_of_getElem? (i := 529) (by decide +kernel))
    | 1, _ => exact h.2 _ (List.mem_of_getElem? (i := 530) (by decide +kernel))
    | 2, _ => exact h.2 _ (List.mem_of_getElem? (i := 531) (by decide +kernel))
    | 3, _ => exact h.2 _ (List.mem_of_getElem? (i := 532) (by decide +kernel))
    | 4, _ => exact h.2 _ (List.mem_of_getElem? (i := 533) (by decide +kernel))
    | 5, _ => exact h.2 _ (List.mem_of_getElem? (i := 534) (by decide +kernel))
    | 6, _ => exact h.2 _ (List.mem_of_getElem? (i := 535) (by decide +kernel))
    | n + 7, hn => exact absurd hn (by show ¬ n + 7 < 7; omega))
  exact ⟨(a, b, c), hh⟩
theorem word_21 {args : Array Value} {s : State} {A : Nat → Prop} (hA : ∀ a : Nat, a < s.heap.size → ¬ A a) (h : atStart args s) : ∃ q, wordFact args s A 21 q := by
  obtain ⟨a, b, c, hh⟩ := word_of (nm := "LICKER") (so := 1) (nu := 5) (od := 21) (pi := 248) (tx := [108, 105, 99, 107, 101, 114]) hA (by decide) (h.1 _ (tb_1 (List.mem_of_getElem? (i := 4) rfl))) (h.1 _ (tb_8 (List.mem_of_getElem? (i := 96) rfl))) (h.2 _ (List.mem_of_getElem? (i := 211) (by decide +kernel))) (h.2 _ (List.mem_of_getElem? (i := 212) (by decide +kernel))) (h.2 _ (List.mem_of_getElem? (i := 213) (by decide +kernel))) (h.2 _ (List.mem_of_getElem? (i := 214) (by decide +kernel))) (h.2 _ (List.mem_of_getElem? (i := 215) (by decide +kernel))) (h.2 _ (List.mem_of_getElem? (i := 536) (by decide +kernel))) (h.2 _ (List.mem_of_getElem? (i := 537) (by decide +kernel))) (h.2 _ (List.mem_of_getElem? (i := 538) (by decide +kernel))) (h.2 _ (List.mem_of_getElem? (i := 539) (by decide +kernel))) (fun j hj => by
    match j, hj with
    | 0, _ => exact h.2 _ (List.mem_of_getElem? (i := 540) (by decide +kernel))
    | 1, _ => exact h.2 _ (List.mem_of_getElem? (i := 541) (by decide +kernel))
    | 2, _ => exact h.2 _ (List.mem_of_getElem? (i := 542) (by decide +kernel))
    | 3, _ => exact h.2 _ (List.mem_of_getElem? (i := 543) (by decide +kernel))
    | 4, _ => exact h.2 _ (List.mem_of_getElem? (i := 544) (by decide +kernel))
    | 5, _ => exact h.2 _ (List.mem_of_getElem? (i := 545) (by decide +kernel))
    | n + 6, hn => exact absurd hn (by show ¬ n + 6 < 6; omega))
  exact ⟨(a, b, c), hh⟩
theorem word_22 {args : Array Value} {s : State} {A : Nat → Prop} (hA : ∀ a : Nat, a < s.heap.size → ¬ A a) (h : atStart args s) : ∃ q, wordFact args s A 22 q := by
  obtain ⟨a, b, c, hh⟩ := word_of (nm := "NOT") (so := 2) (nu := (-2)) (od := 22) (pi := 251) (tx := [110, 111, 116]) hA (by decide) (h.1 _ (tb_1 (List.mem_of_getElem? (i := 4) rfl))) (h.1 _ (tb_4 (List.mem_of_getElem? (i := 26) rfl))) (h.2 _ (List.mem_of_getElem? (i := 149) (by decide +kernel))) (h.2 _ (List.mem_of_getElem? (i := 150) (by decide +kernel))) (h.2 _ (List.mem_of_getElem? (i := 151) (by decide +kernel))) (h.2 _ (List.mem_of_getElem? (i := 152) (by decide +kernel))) (h.2 _ (List.mem_of_getElem? (i := 153) (by decide +kernel))) (h.2 _ (List.mem_of_getElem? (i := 443) (by decide +kernel))) (h.2 _ (List.mem_of_getElem? (i := 444) (by decide +kernel))) (h.2 _ (List.mem_of_getElem? (i := 445) (by decide +kernel))) (h.2 _ (List.mem_of_getElem? (i := 446) (by decide +kernel))) (fun j hj => by
    match j, hj with
    | 0, _ => exact h.2 _ (List.mem_of_getElem? (i := 447) (by decide +kernel))
    | 1, _ => exact h.2 _ (List.mem_of_getElem? (i := 448) (by decide +kernel))
    | 2, _ => exact h.2 _ (List.mem_of_getElem? (i := 449) (by decide +kernel))
    | n + 3, hn => exact absurd hn (by show ¬ n + 3 < 3; omega))
  exact ⟨(a, b, c), hh⟩
theorem word_23 {args : Array Value} {s : State} {A : Nat → Prop} (hA : ∀ a : Nat, a < s.heap.size → ¬ A a) (h : atStart args s) : ∃ q, wordFact args s A 23 q := by
  obtain ⟨a, b, c, hh⟩ := word_of (nm := "AND") (so := 2) (nu := (-8)) (od := 23) (pi := 254) (tx := [97, 110, 100]) hA (by decide) (h.1 _ (tb_1 (List.mem_of_getElem? (i := 4) rfl))) (h.1 _ (tb_8 (List.mem_of_getElem? (i := 97) rfl))) (h.2 _ (List.mem_of_getElem? (i := 216) (by decide +kernel))) (h.2 _ (List.mem_of_getElem? (i := 217) (by decide +kernel))) (h.2 _ (List.mem_of_getElem? (i := 218) (by decide +kernel))) (h.2 _ (List.mem_of_getElem? (i := 219) (by decide +kernel))) (h.2 _ (List.mem_of_getElem? (i := 220) (by decide +kernel))) (h.2 _ (List.mem_of_getElem? (i := 546) (by decide +kernel))) (h.2 _ (List.mem_of_getElem? (i := 547) (by decide +kernel))) (h.2 _ (List.mem_of_getElem? (i := 548) (by decide +kernel))) (h.2 _ (List.mem_of_getElem? (i := 549) (by decide +kernel))) (fun j hj => by
    match j, hj with
    | 0, _ => exact h.2 _ (List.mem_of_getElem? (i := 550) (by decide +kernel))
    | 1, _ => exact h.2 _ (List.mem_of_getElem? (i := 551) (by decide +kernel))
    | 2, _ => exact h.2 _ (List.mem_of_getElem? (i := 552) (by decide +kernel))
    | n + 3, hn => exact absurd hn (by show ¬ n + 3 < 3; omega))
  exact ⟨(a, b, c), hh⟩
theorem word_24 {args : Array Value} {s : State} {A : Nat → Prop} (hA : ∀ a : Nat, a < s.heap.size → ¬ A a) (h : atStart args s) : ∃ q, wordFact args s A 24 q := by
  obtain ⟨a, b, c, hh⟩ := word_of (nm := "OR") (so := 2) (nu := (-9)) (od := 24) (pi := 257) (tx := [111, 114]) hA (by decide) (h.1 _ (tb_1 (List.mem_of_getElem? (i := 4) rfl))) (h.1 _ (tb_8 (List.mem_of_getElem? (i := 98) rfl))) (h.2 _ (List.mem_of_getElem? (i := 221) (by decide +kernel))) (h.2 _ (List.mem_of_getElem? (i := 222) (by decide +kernel))) (h.2 _ (List.mem_of_getElem? (i := 223) (by decide +kernel))) (h.2 _ (List.mem_of_getElem? (i := 224) (by decide +kernel))) (h.2 _ (List.mem_of_getElem? (i := 225) (by decide +kernel))) (h.2 _ (List.mem_of_getElem? (i := 553) (by decide +kernel))) (h.2 _ (List.mem_of_getElem? (i := 554) (by decide +kernel))) (h.2 _ (List.mem_of_getElem? (i := 555) (by decide +kernel))) (h.2 _ (List.mem_of_getElem? (i := 556) (by decide +kernel))) (fun j hj => by
    match j, hj with
    | 0, _ => exact h.2 _ (List.mem_of_getElem? (i := 557) (by decide +kernel))
    | 1, _ => exact h.2 _ (List.mem_of_getElem? (i := 558) (by decide +kernel))
    | n + 2, hn => exact absurd hn (by show ¬ n + 2 < 2; omega))
  exact ⟨(a, b, c), hh⟩
theorem word_25 {args : Array Value} {s : State} {A : Nat → Prop} (hA : ∀ a : Nat, a < s.heap.size → ¬ A a) (h : atStart args s) : ∃ q, wordFact args s A 25 q := by
  obtain ⟨a, b, c, hh⟩ := word_of (nm := "LESS") (so := 2) (nu := (-6)) (od := 25) (pi := 260) (tx := [60]) hA (by decide) (h.1 _ (tb_1 (List.mem_of_getElem? (i := 4) rfl))) (h.1 _ (tb_8 (List.mem_of_getElem? (i := 99) rfl))) (h.2 _ (List.mem_of_getElem? (i := 226) (by decide +kernel))) (h.2 _ (List.mem_of_getElem? (i := 227) (by decide +kernel))) (h.2 _ (List.mem_of_getElem? (i := 228) (by decide +kernel))) (h.2 _ (List.mem_of_getElem? (i := 229) (by decide +kernel))) (h.2 _ (List.mem_of_getElem? (i := 230) (by decide +kernel))) (h.2 _ (List.mem_of_getElem? (i := 559) (by decide +kernel))) (h.2 _ (List.mem_of_getElem? (i := 560) (by decide +kernel))) (h.2 _ (List.mem_of_getElem? (i := 561) (by decide +kernel))) (h.2 _ (List.mem_of_getElem? (i := 562) (by decide +kernel))) (fun j hj => by
    match j, hj with
    | 0, _ => exact h.2 _ (List.mem_of_getElem? (i := 563) (by decide +kernel))
    | n + 1, hn => exact absurd hn (by show ¬ n + 1 < 1; omega))
  exact ⟨(a, b, c), hh⟩
theorem word_26 {args : Array Value} {s : State} {A : Nat → Prop} (hA : ∀ a : Nat, a < s.heap.size → ¬ A a) (h : atStart args s) : ∃ q, wordFact args s A 26 q := by
  obtain ⟨a, b, c, hh⟩ := word_of (nm := "EQUAL") (so := 2) (nu := (-7)) (od := 26) (pi := 263) (tx := [61]) hA (by decide) (h.1 _ (tb_1 (List.mem_of_getElem? (i := 4) rfl))) (h.1 _ (tb_8 (List.mem_of_getElem? (i := 100) rfl))) (h.2 _ (List.mem_of_getElem? (i := 231) (by decide +kernel))) (h.2 _ (List.mem_of_getElem? (i := 232) (by decide +kernel))) (h.2 _ (List.mem_of_getElem? (i := 233) (by decide +kernel))) (h.2 _ (List.mem_of_getElem? (i := 234) (by decide +kernel))) (h.2 _ (List.mem_of_getElem? (i := 235) (by decide +kernel))) (h.2 _ (List.mem_of_getElem? (i := 564) (by decide +kernel))) (h.2 _ (List.mem_of_getElem? (i := 565) (by decide +kernel))) (h.2 _ (List.mem_of_getElem? (i := 566) (by decide +kernel))) (h.2 _ (List.mem_of_getElem? (i := 567) (by decide +kernel))) (fun j hj => by
    match j, hj with
    | 0, _ => exact h.2 _ (List.mem_of_getElem? (i := 568) (by decide +kernel))
    | n + 1, hn => exact absurd hn (by show ¬ n + 1 < 1; omega))
  exact ⟨(a, b, c), hh⟩
theorem word_27 {args : Array Value} {s : State} {A : Nat → Prop} (hA : ∀ a : Nat, a < s.heap.size → ¬ A a) (h : atStart args s) : ∃ q, wordFact args s A 27 q := by
  obtain ⟨a, b, c, hh⟩ := word_of (nm := "PLUS") (so := 2) (nu := (-4)) (od := 27) (pi := 266) (tx := [43]) hA (by decide) (h.1 _ (tb_1 (List.mem_of_getElem? (i := 4) rfl))) (h.1 _ (tb_8 (List.mem_of_getElem? (i := 101) rfl))) (h.2 _ (List.mem_of_getElem? (i := 236) (by decide +kernel))) (h.2 _ (List.mem_of_getElem? (i := 237) (by decide +kernel))) (h.2 _ (List.mem_of_getElem? (i := 238) (by decide +kernel))) (h.2 _ (List.mem_of_getElem? (i := 239) (by decide +kernel))) (h.2 _ (List.mem_of_getElem? (i := 240) (by decide +kernel))) (h.2 _ (List.mem_of_getElem? (i := 569) (by decide +kernel))) (h.2 _ (List.mem_of_getElem? (i := 570) (by decide +kernel))) (h.2 _ (List.mem_of_getElem? (i := 571) (by decide +kernel))) (h.2 _ (List.mem_of_getElem? (i := 572) (by decide +kernel))) (fun j hj => by
    match j, hj with
    | 0, _ => exact h.2 _ (List.mem_of_getElem? (i := 573) (by decide +kernel))
    | n + 1, hn => exact absurd hn (by show ¬ n + 1 < 1; omega))
  exact ⟨(a, b, c), hh⟩
theorem word_28 {args : Array Value} {s : State} {A : Nat → Prop} (hA : ∀ a : Nat, a < s.heap.size → ¬ A a) (h : atStart args s) : ∃ q, wordFact args s A 28 q := by
  obtain ⟨a, b, c, hh⟩ := word_of (nm := "MINUS") (so := 2) (nu := (-5)) (od := 28) (pi := 269) (tx := [45]) hA (by decide) (h.1 _ (tb_1 (List.mem_of_getElem? (i := 4) rfl))) (h.1 _ (tb_8 (List.mem_of_getElem? (i := 102) rfl))) (h.2 _ (List.mem_of_getElem? (i := 241) (by decide +kernel))) (h.2 _ (List.mem_of_getElem? (i := 242) (by decide +kernel))) (h.2 _ (List.mem_of_getElem? (i := 243) (by decide +kernel))) (h.2 _ (List.mem_of_getElem? (i := 244) (by decide +kernel))) (h.2 _ (List.mem_of_getElem? (i := 245) (by decide +kernel))) (h.2 _ (List.mem_of_getElem? (i := 574) (by decide +kernel))) (h.2 _ (List.mem_of_getElem? (i := 575) (by decide +kernel))) (h.2 _ (List.mem_of_getElem? (i := 576) (by decide +kernel))) (h.2 _ (List.mem_of_getElem? (i := 577) (by decide +kernel))) (fun j hj => by
    match j, hj with
    | 0, _ => exact h.2 _ (List.mem_of_getElem? (i := 578) (by decide +kernel))
    | n + 1, hn => exact absurd hn (by show ¬ n + 1 < 1; omega))
  exact ⟨(a, b, c), hh⟩
theorem word_29 {args : Array Value} {s : State} {A : Nat → Prop} (hA : ∀ a : Nat, a < s.heap.size → ¬ A a) (h : atStart args s) : ∃ q, wordFact args s A 29 q := by
  obtain ⟨a, b, c, hh⟩ := word_of (nm := "TIMES") (so := 2) (nu := (-3)) (od := 29) (pi := 272) (tx := [42]) hA (by decide) (h.1 _ (tb_1 (List.mem_of_getElem? (i := 4) rfl))) (h.1 _ (tb_8 (List.mem_of_getElem? (i := 103) rfl))) (h.2 _ (List.mem_of_getElem? (i := 246) (by decide +kernel))) (h.2 _ (List.mem_of_getElem? (i := 247) (by decide +kernel))) (h.2 _ (List.mem_of_getElem? (i := 248) (by decide +kernel))) (h.2 _ (List.mem_of_getElem? (i := 249) (by decide +kernel))) (h.2 _ (List.mem_of_getElem? (i := 250) (by decide +kernel))) (h.2 _ (List.mem_of_getElem? (i := 579) (by decide +kernel))) (h.2 _ (List.mem_of_getElem? (i := 580) (by decide +kernel))) (h.2 _ (List.mem_of_getElem? (i := 581) (by decide +kernel))) (h.2 _ (List.mem_of_getElem? (i := 582) (by decide +kernel))) (fun j hj => by
    match j, hj with
    | 0, _ => exact h.2 _ (List.mem_of_getElem? (i := 583) (by decide +kernel))
    | n + 1, hn => exact absurd hn (by show ¬ n + 1 < 1; omega))
  exact ⟨(a, b, c), hh⟩
theorem word_30 {args : Array Value} {s : State} {A : Nat → Prop} (hA : ∀ a : Nat, a < s.heap.size → ¬ A a) (h : atStart args s) : ∃ q, wordFact args s A 30 q := by
  obtain ⟨a, b, c, hh⟩ := word_of (nm := "OPEN") (so := 2) (nu := (-10)) (od := 30) (pi := 275) (tx := [40]) hA (by decide) (h.1 _ (tb_1 (List.mem_of_getElem? (i := 4) rfl))) (h.1 _ (tb_4 (List.mem_of_getElem? (i := 28) rfl))) (h.2 _ (List.mem_of_getElem? (i := 154) (by decide +kernel))) (h.2 _ (List.mem_of_getElem? (i := 155) (by decide +kernel))) (h.2 _ (List.mem_of_getElem? (i := 156) (by decide +kernel))) (h.2 _ (List.mem_of_getElem? (i := 157) (by decide +kernel))) (h.2 _ (List.mem_of_getElem? (i := 158) (by decide +kernel))) (h.2 _ (List.mem_of_getElem? (i := 450) (by decide +kernel))) (h.2 _ (List.mem_of_getElem? (i := 451) (by decide +kernel))) (h.2 _ (List.mem_of_getElem? (i := 452) (by decide +kernel))) (h.2 _ (List.mem_of_getElem? (i := 453) (by decide +kernel))) (fun j hj => by
    match j, hj with
    | 0, _ => exact h.2 _ (List.mem_of_getElem? (i := 454) (by decide +kernel))
    | n + 1, hn => exact absurd hn (by show ¬ n + 1 < 1; omega))
  exact ⟨(a, b, c), hh⟩
theorem word_31 {args : Array Value} {s : State} {A : Nat → Prop} (hA : ∀ a : Nat, a < s.heap.size → ¬ A a) (h : atStart args s) : ∃ q, wordFact args s A 31 q := by
  obtain ⟨a, b, c, hh⟩ := word_of (nm := "CLOSE") (so := 2) (nu := (-1)) (od := 31) (pi := 278) (tx := [41]) hA (by decide) (h.1 _ (tb_1 (List.mem_of_getElem? (i := 4) rfl))) (h.1 _ (tb_4 (List.mem_of_getElem? (i := 59) rfl))) (h.2 _ (List.mem_of_getElem? (i := 164) (by decide +kernel))) (h.2 _ (List.mem_of_getElem? (i := 165) (by decide +kernel))) (h.2 _ (List.mem_of_getElem? (i := 166) (by decide +kernel))) (h.2 _ (List.mem_of_getElem? (i := 167) (by decide +kernel))) (h.2 _ (List.mem_of_getElem? (i := 168) (by decide +kernel))) (h.2 _ (List.mem_of_getElem? (i := 460) (by decide +kernel))) (h.2 _ (List.mem_of_getElem? (i := 461) (by decide +kernel))) (h.2 _ (List.mem_of_getElem? (i := 462) (by decide +kernel))) (h.2 _ (List.mem_of_getElem? (i := 463) (by decide +kernel))) (fun j hj => by
    match j, hj with
    | 0, _ => exact h.2 _ (List.mem_of_getElem? (i := 464) (by decide +kernel))
    | n + 1, hn => exact absurd hn (by show ¬ n + 1 < 1; omega))
  exact ⟨(a, b, c), hh⟩
theorem word_32 {args : Array Value} {s : State} {A : Nat → Prop} (hA : ∀ a : Nat, a < s.heap.size → ¬ A a) (h : atStart args s) : ∃ q, wordFact args s A 32 q := by
  obtain ⟨a, b, c, hh⟩ := word_of (nm := "STOP") (so := 2) (nu := (-1)) (od := 32) (pi := 281) (tx := [59]) hA (by decide) (h.1 _ (tb_1 (List.mem_of_getElem? (i := 4) rfl))) (h.1 _ (tb_4 (List.mem_of_getElem? (i := 50) rfl))) (h.2 _ (List.mem_of_getElem? (i := 159) (by decide +kernel))) (h.2 _ (List.mem_of_getElem? (i := 160) (by decide +kernel))) (h.2 _ (List.mem_of_getElem? (i := 161) (by decide +kernel))) (h.2 _ (List.mem_of_getElem? (i := 162) (by decide +kernel))) (h.2 _ (List.mem_of_getElem? (i := 163) (by decide +kernel))) (h.2 _ (List.mem_of_getElem? (i := 455) (by decide +kernel))) (h.2 _ (List.mem_of_getElem? (i := 456) (by decide +kernel))) (h.2 _ (List.mem_of_getElem? (i := 457) (by decide +kernel))) (h.2 _ (List.mem_of_getElem? (i := 458) (by decide +kernel))) (fun j hj => by
    match j, hj with
    | 0, _ => exact h.2 _ (List.mem_of_getElem? (i := 459) (by decide +kernel))
    | n + 1, hn => exact absurd hn (by show ¬ n + 1 < 1; omega))
  exact ⟨(a, b, c), hh⟩
theorem word_33 {args : Array Value} {s : State} {A : Nat → Prop} (hA : ∀ a : Nat, a < s.heap.size → ¬ A a) (h : atStart args s) : ∃ q, wordFact args s A 33 q := by
  obtain ⟨a, b, c, hh⟩ := word_of (nm := "LEFT") (so := 3) (nu := 1) (od := 33) (pi := 284) (tx := [108, 101, 102, 116]) hA (by decide) (h.1 _ (tb_1 (List.mem_of_getElem? (i := 4) rfl))) (h.1 _ (tb_8 (List.mem_of_getElem? (i := 104) rfl))) (h.2 _ (List.mem_of_getElem? (i := 251) (by decide +kernel))) (h.2 _ (List.mem_of_getElem? (i := 252) (by decide +kernel))) (h.2 _ (List.mem_of_getElem? (i := 253) (by decide +kernel))) (h.2 _ (List.mem_of_getElem? (i := 254) (by decide +kernel))) (h.2 _ (List.mem_of_getElem? (i := 255) (by decide +kernel))) (h.2 _ (List.mem_of_getElem? (i := 584) (by decide +kernel))) (h.2 _ (List.mem_of_getElem? (i := 585) (by decide +kernel))) (h.2 _ (List.mem_of_getElem? (i := 586) (by decide +kernel))) (h.2 _ (List.mem_of_getElem? (i := 587) (by decide +kernel))) (fun j hj => by
    match j, hj with
    | 0, _ => exact h.2 _ (List.mem_of_getElem? (i := 588) (by decide +kernel))
    | 1, _ => exact h.2 _ (List.mem_of_getElem? (i := 589) (by decide +kernel))
    | 2, _ => exact h.2 _ (List.mem_of_getElem? (i := 590) (by decide +kernel))
    | 3, _ => exact h.2 _ (List.mem_of_getElem? (i := 591) (by decide +kernel))
    | n + 4, hn => exact absurd hn (by show ¬ n + 4 < 4; omega))
  exact ⟨(a, b, c), hh⟩
theorem word_34 {args : Array Value} {s : State} {A : Nat → Prop} (hA : ∀ a : Nat, a < s.heap.size → ¬ A a) (h : atStart args s) : ∃ q, wordFact args s A 34 q := by
  obtain ⟨a, b, c, hh⟩ := word_of (nm := "MINUTE") (so := 3) (nu := 3) (od := 34) (pi := 287) (tx := [109, 105, 110, 117, 116, 101]) hA (by decide) (h.1 _ (tb_1 (List.mem_of_getElem? (i := 4) rfl))) (h.1 _ (tb_8 (List.mem_of_getElem? (i := 105) rfl))) (h.2 _ (List.mem_of_getElem? (i := 256) (by decide +kernel))) (h.2 _ (List.mem_of_getElem? (i := 257) (by decide +kernel))) (h.2 _ (List.mem_of_getElem? (i := 258) (by decide +kernel))) (h.2 _ (List.mem_of_getElem? (i := 259) (by decide +kernel))) (h.2 _ (List.mem_of_getElem? (i := 260) (by decide +kernel))) (h.2 _ (List.mem_of_getElem? (i := 592) (by decide +kernel))) (h.2 _ (List.mem_of_getElem? (i := 593) (by decide +kernel))) (h.2 _ (List.mem_of_getElem? (i := 594) (by decide +kernel))) (h.2 _ (List.mem_of_getElem? (i := 595) (by decide +kernel))) (fun j hj => by
    match j, hj with
    | 0, _ => exact h.2 _ (List.mem_of_getElem? (i := 596) (by decide +kernel))
    | 1, _ => exact h.2 _ (List.mem_of_getElem? (i := 597) (by decide +kernel))
    | 2, _ => exact h.2 _ (List.mem_of_getElem? (i := 598) (by decide +kernel))
    | 3, _ => exact h.2 _ (List.mem_of_getElem? (i := 599) (by decide +kernel))
    | 4, _ => exact h.2 _ (List.mem_of_getElem? (i := 600) (by decide +kernel))
    | 5, _ => exact h.2 _ (List.mem_of_getElem? (i := 601) (by decide +kernel))
    | n + 6, hn => exact absurd hn (by show ¬ n + 6 < 6; omega))
  exact ⟨(a, b, c), hh⟩
theorem word_35 {args : Array Value} {s : State} {A : Nat → Prop} (hA : ∀ a : Nat, a < s.heap.size → ¬ A a) (h : atStart args s) : ∃ q, wordFact args s A 35 q := by
  obtain ⟨a, b, c, hh⟩ := word_of (nm := "DEBT") (so := 3) (nu := 4) (od := 35) (pi := 290) (tx := [100, 101, 98, 116]) hA (by decide) (h.1 _ (tb_1 (List.mem_of_getElem? (i := 4) rfl))) (h.1 _ (tb_8 (List.mem_of_getElem? (i := 106) rfl))) (h.2 _ (List.mem_of_getElem? (i := 261) (by decide +kernel))) (h.2 _ (List.mem_of_getElem? (i := 262) (by decide +kernel))) (h.2 _ (List.mem_of_getElem? (i := 263) (by decide +kernel))) (h.2 _ (List.mem_of_getElem? (i := 264) (by decide +kernel))) (h.2 _ (List.mem_of_getElem? (i := 265) (by decide +kernel))) (h.2 _ (List.mem_of_getElem? (i := 602) (by decide +kernel))) (h.2 _ (List.mem_of_getElem? (i := 603) (by decide +kernel))) (h.2 _ (List.mem_of_getElem? (i := 604) (by decide +kernel))) (h.2 _ (List.mem_of_getElem? (i := 605) (by decide +kernel))) (fun j hj => by
    match j, hj with
    | 0, _ => exact h.2 _ (List.mem_of_getElem? (i := 606) (by decide +kernel))
    | 1, _ => exact h.2 _ (List.mem_of_getElem? (i := 607) (by decide +kernel))
    | 2, _ => exact h.2 _ (List.mem_of_getElem? (i := 608) (by decide +kernel))
    | 3, _ => exact h.2 _ (List.mem_of_getElem? (i := 609) (by decide +kernel))
    | n + 4, hn => exact absurd hn (by show ¬ n + 4 < 4; omega))
  exact ⟨(a, b, c), hh⟩
theorem word_36 {args : Array Value} {s : State} {A : Nat → Prop} (hA : ∀ a : Nat, a < s.heap.size → ¬ A a) (h : atStart args s) : ∃ q, wordFact args s A 36 q := by
  obtain ⟨a, b, c, hh⟩ := word_of (nm := "ABOVE") (so := 3) (nu := 5) (od := 36) (pi := 293) (tx := [97, 98, 111, 118, 101]) hA (by decide) (h.1 _ (tb_1 (List.mem_of_getElem? (i := 4) rfl))) (h.1 _ (tb_8 (List.mem_of_getElem? (i := 107) rfl))) (h.2 _ (List.mem_of_getElem? (i := 266) (by decide +kernel))) (h.2 _ (List.mem_of_getElem? (i := 267) (by decide +kernel))) (h.2 _ (List.mem_of_getElem? (i := 268) (by decide +kernel))) (h.2 _ (List.mem_of_getElem? (i := 269) (by decide +kernel))) (h.2 _ (List.mem_of_getElem? (i := 270) (by decide +kernel))) (h.2 _ (List.mem_of_getElem? (i := 610) (by decide +kernel))) (h.2 _ (List.mem_of_getElem? (i := 611) (by decide +kernel))) (h.2 _ (List.mem_of_getElem? (i := 612) (by decide +kernel))) (h.2 _ (List.mem_of_getElem? (i := 613) (by decide +kernel))) (fun j hj => by
    match j, hj with
    | 0, _ => exact h.2 _ (List.mem_of_getElem? (i := 614) (by decide +kernel))
    | 1, _ => exact h.2 _ (List.mem_of_getElem? (i := 615) (by decide +kernel))
    | 2, _ => exact h.2 _ (List.mem_of_getElem? (i := 616) (by decide +kernel))
    | 3, _ => exact h.2 _ (List.mem_of_getElem? (i := 617) (by decide +kernel))
    | 4, _ => exact h.2 _ (List.mem_of_getElem? (i := 618) (by decide +kernel))
    | n + 5, hn => exact absurd hn (by show ¬ n + 5 < 5; omega))
  exact ⟨(a, b, c), hh⟩
theorem word_37 {args : Array Value} {s : State} {A : Nat → Prop} (hA : ∀ a : Nat, a < s.heap.size → ¬ A a) (h : atStart args s) : ∃ q, wordFact args s A 37 q := by
  obtain ⟨a, b, c, hh⟩ := word_of (nm := "CAME") (so := 3) (nu := 6) (od := 37) (pi := 296) (tx := [99, 97, 109, 101]) hA (by decide) (h.1 _ (tb_1 (List.mem_of_getElem? (i := 4) rfl))) (h.1 _ (tb_8 (List.mem_of_getElem? (i := 108) rfl))) (h.2 _ (List.mem_of_getElem? (i := 271) (by decide +kernel))) (h.2 _ (List.mem_of_getElem? (i := 272) (by decide +kernel))) (h.2 _ (List.mem_of_getElem? (i := 273) (by decide +kernel))) (h.2 _ (List.mem_of_getElem? (i := 274) (by decide +kernel))) (h.2 _ (List.mem_of_getElem? (i := 275) (by decide +kernel))) (h.2 _ (List.mem_of_getElem? (i := 619) (by decide +kernel))) (h.2 _ (List.mem_of_getElem? (i := 620) (by decide +kernel))) (h.2 _ (List.mem_of_getElem? (i := 621) (by decide +kernel))) (h.2 _ (List.mem_of_getElem? (i := 622) (by decide +kernel))) (fun j hj => by
    match j, hj with
    | 0, _ => exact h.2 _ (List.mem_of_getElem? (i := 623) (by decide +kernel))
    | 1, _ => exact h.2 _ (List.mem_of_getElem? (i := 624) (by decide +kernel))
    | 2, _ => exact h.2 _ (List.mem_of_getElem? (i := 625) (by decide +kernel))
    | 3, _ => exact h.2 _ (List.mem_of_getElem? (i := 626) (by decide +kernel))
    | n + 4, hn => exact absurd hn (by show ¬ n + 4 < 4; omega))
  exact ⟨(a, b, c), hh⟩
theorem word_38 {args : Array Value} {s : State} {A : Nat → Prop} (hA : ∀ a : Nat, a < s.heap.size → ¬ A a) (h : atStart args s) : ∃ q, wordFact args s A 38 q := by
  obtain ⟨a, b, c, hh⟩ := word_of (nm := "NAME") (so := 3) (nu := (-1)) (od := 38) (pi := 299) (tx := []) hA (by decide) (h.1 _ (tb_1 (List.mem_of_getElem? (i := 4) rfl))) (h.1 _ (tb_3 (List.mem_of_getElem? (i := 153) rfl))) (h.2 _ (List.mem_of_getElem? (i := 74) (by decide +kernel))) (h.2 _ (List.mem_of_getElem? (i := 75) (by decide +kernel))) (h.2 _ (List.mem_of_getElem? (i := 76) (by decide +kernel))) (h.2 _ (List.mem_of_getElem? (i := 77) (by decide +kernel))) (h.2 _ (List.mem_of_getElem? (i := 78) (by decide +kernel))) (h.2 _ (List.mem_of_getElem? (i := 324) (by decide +kernel))) (h.2 _ (List.mem_of_getElem? (i := 325) (by decide +kernel))) (h.2 _ (List.mem_of_getElem? (i := 326) (by decide +kernel))) (h.2 _ (List.mem_of_getElem? (i := 327) (by decide +kernel))) (fun j hj => absurd hj (Nat.not_lt_zero _))
  exact ⟨(a, b, c), hh⟩
theorem word_39 {args : Array Value} {s : State} {A : Nat → Prop} (hA : ∀ a : Nat, a < s.heap.size → ¬ A a) (h : atStart args s) : ∃ q, wordFact args s A 39 q := by
  obtain ⟨a, b, c, hh⟩ := word_of (nm := "NUMBER") (so := 4) (nu := (-1)) (od := 39) (pi := 299) (tx := []) hA (by decide) (h.1 _ (tb_1 (List.mem_of_getElem? (i := 4) rfl))) (h.1 _ (tb_3 (List.mem_of_getElem? (i := 162) rfl))) (h.2 _ (List.mem_of_getElem? (i := 79) (by decide +kernel))) (h.2 _ (List.mem_of_getElem? (i := 80) (by decide +kernel))) (h.2 _ (List.mem_of_getElem? (i := 81) (by decide +kernel))) (h.2 _ (List.mem_of_getElem? (i := 82) (by decide +kernel))) (h.2 _ (List.mem_of_getElem? (i := 83) (by decide +kernel))) (h.2 _ (List.mem_of_getElem? (i := 324) (by decide +kernel))) (h.2 _ (List.mem_of_getElem? (i := 325) (by decide +kernel))) (h.2 _ (List.mem_of_getElem? (i := 326) (by decide +kernel))) (h.2 _ (List.mem_of_getElem? (i := 327) (by decide +kernel))) (fun j hj => absurd hj (Nat.not_lt_zero _))
  exact ⟨(a, b, c), hh⟩
theorem word_40 {args : Array Value} {s : State} {A : Nat → Prop} (hA : ∀ a : Nat, a < s.heap.size → ¬ A a) (h : atStart args s) : ∃ q, wordFact args s A 40 q := by
  obtain ⟨a, b, c, hh⟩ := word_of (nm := "END") (so := 4) (nu := (-1)) (od := 40) (pi := 299) (tx := []) hA (by decide) (h.1 _ (tb_1 (List.mem_of_getElem? (i := 4) rfl))) (h.1 _ (tb_1 (List.mem_of_getElem? (i := 41) rfl))) (h.2 _ (List.mem_of_getElem? (i := 4) (by decide +kernel))) (h.2 _ (List.mem_of_getElem? (i := 5) (by decide +kernel))) (h.2 _ (List.mem_of_getElem? (i := 6) (by decide +kernel))) (h.2 _ (List.mem_of_getElem? (i := 7) (by decide +kernel))) (h.2 _ (List.mem_of_getElem? (i := 8) (by decide +kernel))) (h.2 _ (List.mem_of_getElem? (i := 324) (by decide +kernel))) (h.2 _ (List.mem_of_getElem? (i := 325) (by decide +kernel))) (h.2 _ (List.mem_of_getElem? (i := 326) (by decide +kernel))) (h.2 _ (List.mem_of_getElem? (i := 327) (by decide +kernel))) (fun j hj => absurd hj (Nat.not_lt_zero _))
  exact ⟨(a, b, c), hh⟩
theorem word_41 {args : Array Value} {s : State} {A : Nat → Prop} (hA : ∀ a : Nat, a < s.heap.size → ¬ A a) (h : atStart args s) : ∃ q, wordFact args s A 41 q := by
  obtain ⟨a, b, c, hh⟩ := word_of (nm := "NOTHING") (so := 4) (nu := (-1)) (od := 41) (pi := 299) (tx := []) hA (by decide) (h.1 _ (tb_1 (List.mem_of_getElem? (i := 4) rfl))) (h.1 _ (tb_3 (List.mem_of_getElem? (i := 98) rfl))) (h.2 _ (List.mem_of_getElem? (i := 17) (by decide +kernel))) (h.2 _ (List.mem_of_getElem? (i := 18) (by decide +kernel))) (h.2 _ (List.mem_of_getElem? (i := 19) (by decide +kernel))) (h.2 _ (List.mem_of_getElem? (i := 20) (by decide +kernel))) (h.2 _ (List.mem_of_getElem? (i := 21) (by decide +kernel))) (h.2 _ (List.mem_of_getElem? (i := 324) (by decide +kernel))) (h.2 _ (List.mem_of_getElem? (i := 325) (by decide +kernel))) (h.2 _ (List.mem_of_getElem? (i := 326) (by decide +kernel))) (h.2 _ (List.mem_of_getElem? (i := 327) (by decide +kernel))) (fun j hj => absurd hj (Nat.not_lt_zero _))
  exact ⟨(a, b, c), hh⟩
