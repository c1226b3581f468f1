def xO_0 : List (Nat × Nat) := [(2, 5), (2, 7), (2, 23), (2, 33), (2, 42), (2, 46), (2, 49), (2, 54), (2, 57), (2, 1), (2, 2), (0, 0), (2, 3), (2, 4)]
def xO_5 : List (Nat × Nat) := [(2, 6), (0, 0), (0, 0), (3, 0), (0, 0), (0, 0), (1, 0)]
def xO_7 : List (Nat × Nat) := [(2, 5), (2, 20), (2, 8), (2, 9), (0, 0), (0, 0), (0, 0), (2, 10)]
def xO_10 : List (Nat × Nat) := [(0, 0), (0, 0), (0, 0), (2, 11), (2, 12), (2, 13), (2, 14), (2, 15), (2, 16), (2, 17), (2, 18), (2, 19), (4, 0), (4, 0), (0, 0), (0, 0), (0, 0)]
def xO_20 : List (Nat × Nat) := [(2, 5), (2, 21), (2, 22), (0, 0), (0, 0), (0, 0), (0, 0)]
def xO_23 : List (Nat × Nat) := [(0, 0), (0, 0), (0, 0), (2, 24), (2, 25), (2, 26), (2, 27), (2, 28), (2, 29), (2, 30), (2, 31), (2, 32), (4, 0), (4, 0), (0, 0), (0, 0), (0, 0)]
def xO_33 : List (Nat × Nat) := [(0, 0), (0, 0), (0, 0), (1, 0), (0, 0), (2, 34), (2, 35), (2, 36), (2, 37), (2, 38), (2, 39), (2, 40), (2, 41)]
def xO_42 : List (Nat × Nat) := [(2, 43), (2, 44), (2, 45), (0, 0)]
def xO_46 : List (Nat × Nat) := [(2, 23), (2, 33), (2, 42), (2, 47), (2, 48), (0, 0), (0, 0), (0, 0), (0, 0)]
def xO_49 : List (Nat × Nat) := [(2, 23), (2, 42), (2, 46), (2, 50), (2, 51), (2, 52), (2, 53), (0, 0), (0, 0), (0, 0), (0, 0)]
def xO_54 : List (Nat × Nat) := [(2, 23), (2, 42), (2, 46), (2, 55), (2, 56), (0, 0), (0, 0), (0, 0), (0, 0), (0, 0)]
def xO_57 : List (Nat × Nat) := [(2, 58), (2, 59), (2, 60), (0, 0), (0, 0)]
def xO_61 : List (Nat × Nat) := [(0, 0), (0, 0), (0, 0), (1, 0), (0, 0), (2, 62), (2, 63), (2, 64), (2, 65), (2, 66), (2, 67), (2, 68), (2, 69)]
def xO_70 : List (Nat × Nat) := [(0, 0), (0, 0), (0, 0), (1, 0), (0, 0), (2, 71), (2, 72), (2, 73), (2, 74), (2, 75), (2, 76), (2, 77), (2, 78)]
def xO_79 : List (Nat × Nat) := [(0, 0), (0, 0), (0, 0), (1, 0), (0, 0), (2, 80), (2, 81), (2, 82), (2, 83), (2, 84), (2, 85), (2, 86), (2, 87)]
def xO_88 : List (Nat × Nat) := [(0, 0), (0, 0), (0, 0), (1, 0), (0, 0), (2, 89), (2, 90), (2, 91), (2, 92), (2, 93), (2, 94), (2, 95), (2, 96)]
def xLyL : List ((Nat × Nat) ⊕ (Nat × Nat × (Nat → Nat × Nat))) := [.inr (10, 14, fun k => xO_0.getD k (0, 0)), .inl (0, 20), .inl (0, 20), .inl (4, 4), .inl (3, 4), .inr (8, 7, fun k => xO_5.getD k (0, 0)), .inl (2, 1000), .inr (5, 8, fun k => xO_7.getD k (0, 0)), .inl (1, 7), .inl (1, 6), .inr (3, 17, fun k => xO_10.getD k (0, 0)), .inl (0, 7), .inl (0, 7), .inl (0, 49), .inl (0, 49), .inl (0, 6), .inl (0, 6), .inl (0, 6), .inl (0, 6), .inl (0, 36), .inr (2, 7, fun k => xO_20.getD k (0, 0)), .inl (0, 1000), .inl (0, 64), .inr (3, 17, fun k => xO_23.getD k (0, 0)), .inl (0, 7), .inl (0, 7), .inl (0, 49), .inl (0, 49), .inl (0, 6), .inl (0, 6), .inl (0, 6), .inl (0, 6), .inl (0, 36), .inr (0, 13, fun k => xO_33.getD k (0, 0)), .inl (0, 7), .inl (0, 6), .inl (0, 6), .inl (0, 6), .inl (0, 36), .inl (0, 60), .inl (0, 60), .inl (0, 60), .inr (6, 4, fun k => xO_42.getD k (0, 0)), .inl (0, 259), .inl (0, 37), .inl (0, 7), .inr (9, 9, fun k => xO_46.getD k (0, 0)), .inl (0, 7), .inl (0, 64), .inr (4, 11, fun k => xO_49.getD k (0, 0)), .inl (0, 726), .inl (0, 1407), .inl (0, 6), .inl (0, 6), .inr (1, 10, fun k => xO_54.getD k (0, 0)), .inl (0, 7), .inl (0, 7), .inr (7, 5, fun k => xO_57.getD k (0, 0)), .inl (0, 6), .inl (0, 64), .inl (0, 64), .inr (0, 13, fun k => xO_61.getD k (0, 0)), .inl (0, 7), .inl (0, 6), .inl (0, 6), .inl (0, 6), .inl (0, 36), .inl (0, 60), .inl (0, 60), .inl (0, 60), .inr (0, 13, fun k => xO_70.getD k (0, 0)), .inl (0, 7), .inl (0, 6), .inl (0, 6), .inl (0, 6), .inl (0, 36), .inl (0, 60), .inl (0, 60), .inl (0, 60), .inr (0, 13, fun k => xO_79.getD k (0, 0)), .inl (0, 7), .inl (0, 6), .inl (0, 6), .inl (0, 6), .inl (0, 36), .inl (0, 60), .inl (0, 60), .inl (0, 60), .inr (0, 13, fun k => xO_88.getD k (0, 0)), .inl (0, 7), .inl (0, 6), .inl (0, 6), .inl (0, 6), .inl (0, 36), .inl (0, 60), .inl (0, 60), .inl (0, 60), .inl (1, 1)]
def xLy : LyT := (97, fun i => xLyL.getD i (.inl (0, 0)), fun j => 61 + 9 * j)
def xLyO : LyT := (98, fun i => xLyL.getD i (.inl (0, 0)), fun j => 61 + 9 * j)
/-! the world of the class: the constants of Word, their texts, the rows that are there from the start; the four days of the marks -/
def wdN : List String := ["STATION", "HIGH", "FALL", "WAY", "LONG", "THORNS", "CARRIER", "SKIN", "LEAK", "THIRST", "OWES", "DRINK", "PRICE", "FOG", "SPRING", "NOON", "PLAIN", "GOAT", "MULE", "COUSIN", "PATCHED", "LICKER", "NOT", "AND", "OR", "LESS", "EQUAL", "PLUS", "MINUS", "TIMES", "OPEN", "CLOSE", "STOP", "LEFT", "MINUTE", "DEBT", "ABOVE", "CAME", "NAME", "NUMBER", "END", "NOTHING"]
def wdS : List Int32 := [0, 0, 0, 0, 0, 0, 0, 0, 0, 0, 0, 0, 0, 0, 0, 0, 1, 1, 1, 1, 1, 1, 2, 2, 2, 2, 2, 2, 2, 2, 2, 2, 2, 3, 3, 3, 3, 3, 3, 4, 4, 4]
def wdM : List Int32 := [(-1), 2, (-1), (-1), (-1), (-1), (-1), (-1), (-1), 0, (-1), (-1), (-1), (-1), (-1), (-1), 0, 1, 2, 3, 4, 5, (-2), (-8), (-9), (-6), (-7), (-4), (-5), (-3), (-10), (-1), (-1), 1, 3, 4, 5, 6, (-1), (-1), (-1), (-1)]
def wdT : List (List Int32) := [[115, 116, 97, 116, 105, 111, 110], [104, 105, 103, 104], [102, 97, 108, 108], [119, 97, 121], [108, 111, 110, 103], [116, 104, 111, 114, 110, 115], [99, 97, 114, 114, 105, 101, 114], [115, 107, 105, 110], [108, 101, 97, 107], [116, 104, 105, 114, 115, 116], [111, 119, 101, 115], [100, 114, 105, 110, 107], [112, 114, 105, 99, 101], [102, 111, 103], [115, 112, 114, 105, 110, 103], [110, 111, 111, 110], [112, 108, 97, 105, 110], [103, 111, 97, 116], [109, 117, 108, 101], [99, 111, 117, 115, 105, 110], [112, 97, 116, 99, 104, 101, 100], [108, 105, 99, 107, 101, 114], [110, 111, 116], [97, 110, 100], [111, 114], [60], [61], [43], [45], [42], [40], [41], [59], [108, 101, 102, 116], [109, 105, 110, 117, 116, 101], [100, 101, 98, 116], [97, 98, 111, 118, 101], [99, 97, 109, 101], [], [], [], []]
/-- what is known of the statics: by the constants' numbers k: at wadW k the constant, at wadW (100 + k) its text, at wadW (200 + k) the text's bytes; at wadW 300 all of them -/
def xSxW (ad : Nat → Nat) (A : Nat → Prop) (U : State) (H : Heap) (k : Nat) : Prop :=
  va_Z "SkinCarriers$Word" (wdN.getD k "") "LSkinCarriers$Word;" (.ref (ad k)) A U H ∧ va_O "SkinCarriers$Word" (ad k) A U H ∧ va_OF "SkinCarriers$Word" "sort" "I" (.int (wdS.getD k 0)) (ad k) A U H ∧ va_OF "SkinCarriers$Word" "number" "I" (.int (wdM.getD k 0)) (ad k) A U H ∧ va_OF "SkinCarriers$Word" "text" "Ljava/lang/String;" (.ref (ad (100 + k))) (ad k) A U H ∧
  va_O "java/lang/String" (ad (100 + k)) A U H ∧ va_OF "java/lang/String" "coder" "B" (.int 0) (ad (100 + k)) A U H ∧ va_OF "java/lang/String" "value" "[B" (.ref (ad (200 + k))) (ad (100 + k)) A U H ∧ va_T .byte (ad (200 + k)) ((wdT.getD k []).length) (fun j => .int ((wdT.getD k []).getD j 0)) A U H
abbrev xNS : String := "java/util/NoSuchElementException"
/-- what a throw needs -/
def xSxT (A : Nat → Prop) (U : State) (H : Heap) : Prop :=
  (∃ a, vk_R "SkinCarriers" 152 "no such carrier" a U) ∧ (∃ a, vk_R "SkinCarriers" 179 "no such what" a U) ∧ vx_Zq Bundle.tN "UNASSIGNED_STACK" Bundle.steD A U H ∧ vx_Zq Bundle.tN "SUPPRESSED_SENTINEL" Bundle.listD A U H ∧ va_Nw (.castable xNS xNS) U ∧ va_Nw (.declares (Bundle.initS "java/lang/RuntimeException")) U ∧ va_Nw (.declares (Bundle.initS "java/lang/Exception")) U ∧ va_Nw (.declares (Bundle.initS Bundle.tN)) U
def xSx (ad : Nat → Nat) (pp : Nat × Nat) (A : Nat → Prop) (U : State) (H : Heap) : Prop :=
  (∀ k, k < 42 → xSxW ad A U H k) ∧ (∀ i j, i < 42 → j < 42 → ad i = ad j → i = j) ∧ va_Z "SkinCarriers$Word" "ALL" "[LSkinCarriers$Word;" (.ref (ad 300)) A U H ∧ va_T (.object "SkinCarriers$Word") (ad 300) 42 (fun k => .ref (ad k)) A U H ∧
  va_Z "SkinCarriers$Mountain" "PLAIN_DRINK" "[I" (.ref pp.1) A U H ∧ va_T .int pp.1 1 (fun _ => .int 10000) A U H ∧ va_Z "SkinCarriers$Mountain" "PLAIN_PRICE" "[I" (.ref pp.2) A U H ∧ va_T .int pp.2 1 (fun _ => .int 1) A U H ∧
  va_Z "java/lang/String" "COMPACT_STRINGS" "Z" (.int 1) A U H ∧ va_Zq "jdk/internal/util/Preconditions" "SIOOBE_FORMATTER" "Ljava/util/function/BiFunction;" A U H ∧ xSxT A U H
def isX (w : WT) : Prop := (w.1 = xLy ∨ w.1 = xLyO) ∧ wSx w = xSx (wadW w) (wSt2 w) (wReg w)
theorem xc_0 {w : WT} (hw : isX w) : isC w 0 (.inr (10, 14, fun k => xO_0.getD k (0, 0))) := by
  rcases hw.1 with e | e <;> exact ⟨by rw [e]; decide, by show w.1.2.1 0 = _; rw [e]; rfl⟩
theorem xc_1 {w : WT} (hw : isX w) : isC w 1 (.inl (0, 20)) := by
  rcases hw.1 with e | e <;> exact ⟨by rw [e]; decide, by show w.1.2.1 1 = _; rw [e]; rfl⟩
theorem xc_2 {w : WT} (hw : isX w) : isC w 2 (.inl (0, 20)) := by
  rcases hw.1 with e | e <;> exact ⟨by rw [e]; decide, by show w.1.2.1 2 = _; rw [e]; rfl⟩
theorem xc_3 {w : WT} (hw : isX w) : isC w 3 (.inl (4, 4)) := by
  rcases hw.1 with e | e <;> exact ⟨by rw [e]; decide, by show w.1.2.1 3 = _; rw [e]; rfl⟩
theorem xc_4 {w : WT} (hw : isX w) : isC w 4 (.inl (3, 4)) := by
  rcases hw.1 with e | e <;> exact ⟨by rw [e]; decide, by show w.1.2.1 4 = _; rw [e]; rfl⟩
theorem xc_5 {w : WT} (hw : isX w) : isC w 5 (.inr (8, 7, fun k => xO_5.getD k (0, 0))) := by
  rcases hw.1 with e | e <;> exact ⟨by rw [e]; decide, by show w.1.2.1 5 = _; rw [e]; rfl⟩
theorem xc_6 {w : WT} (hw : isX w) : isC w 6 (.inl (2, 1000)) := by
  rcases hw.1 with e | e <;> exact ⟨by rw [e]; decide, by show w.1.2.1 6 = _; rw [e]; rfl⟩
theorem xc_7 {w : WT} (hw : isX w) : isC w 7 (.inr (5, 8, fun k => xO_7.getD k (0, 0))) := by
  rcases hw.1 with e | e <;> exact ⟨by rw [e]; decide, by show w.1.2.1 7 = _; rw [e]; rfl⟩
theorem xc_8 {w : WT} (hw : isX w) : isC w 8 (.inl (1, 7)) := by
  rcases hw.1 with e | e <;> exact ⟨by rw [e]; decide, by show w.1.2.1 8 = _; rw [e]; rfl⟩
theorem xc_9 {w : WT} (hw : isX w) : isC w 9 (.inl (1, 6)) := by
  rcases hw.1 with e | e <;> exact ⟨by rw [e]; decide, by show w.1.2.1 9 = _; rw [e]; rfl⟩
theorem xc_10 {w : WT} (hw : isX w) : isC w 10 (.inr (3, 17, fun k => xO_10.getD k (0, 0))) := by
  rcases hw.1 with e | e <;> exact ⟨by rw [e]; decide, by show w.1.2.1 10 = _; rw [e]; rfl⟩
theorem xc_11 {w : WT} (hw : isX w) : isC w 11 (.inl (0, 7)) := by
  rcases hw.1 with e | e <;> exact ⟨by rw [e]; decide, by show w.1.2.1 11 = _; rw [e]; rfl⟩
theorem xc_12 {w : WT} (hw : isX w) : isC w 12 (.inl (0, 7)) := by
  rcases hw.1 with e | e <;> exact ⟨by rw [e]; decide, by show w.1.2.1 12 = _; rw [e]; rfl⟩
theorem xc_13 {w : WT} (hw : isX w) : isC w 13 (.inl (0, 49)) := by
  rcases hw.1 with e | e <;> exact ⟨by rw [e]; decide, by show w.1.2.1 13 = _; rw [e]; rfl⟩
theorem xc_14 {w : WT} (hw : isX w) : isC w 14 (.inl (0, 49)) := by
  rcases hw.1 with e | e <;> exact ⟨by rw [e]; decide, by show w.1.2.1 14 = _; rw [e]; rfl⟩
theorem xc_15 {w : WT} (hw : isX w) : isC w 15 (.inl (0, 6)) := by
  rcases hw.1 with e | e <;> exact ⟨by rw [e]; decide, by show w.1.2.1 15 = _; rw [e]; rfl⟩
theorem xc_16 {w : WT} (hw : isX w) : isC w 16 (.inl (0, 6)) := by
  rcases hw.1 with e | e <;> exact ⟨by rw [e]; decide, by show w.1.2.1 16 = _; rw [e]; rfl⟩
theorem xc_17 {w : WT} (hw : isX w) : isC w 17 (.inl (0, 6)) := by
  rcases hw.1 with e | e <;> exact ⟨by rw [e]; decide, by show w.1.2.1 17 = _; rw [e]; rfl⟩
theorem xc_18 {w : WT} (hw : isX w) : isC w 18 (.inl (0, 6)) := by
  rcases hw.1 with e | e <;> exact ⟨by rw [e]; decide, by show w.1.2.1 18 = _; rw [e]; rfl⟩
theorem xc_19 {w : WT} (hw : isX w) : isC w 19 (.inl (0, 36)) := by
  rcases hw.1 with e | e <;> exact ⟨by rw [e]; decide, by show w.1.2.1 19 = _; rw [e]; rfl⟩
theorem xc_20 {w : WT} (hw : isX w) : isC w 20 (.inr (2, 7, fun k => xO_20.getD k (0, 0))) := by
  rcases hw.1 with e | e <;> exact ⟨by rw [e]; decide, by show w.1.2.1 20 = _; rw [e]; rfl⟩
theorem xc_21 {w : WT} (hw : isX w) : isC w 21 (.inl (0, 1000)) := by
  rcases hw.1 with e | e <;> exact ⟨by rw [e]; decide, by show w.1.2.1 21 = _; rw [e]; rfl⟩
theorem xc_22 {w : WT} (hw : isX w) : isC w 22 (.inl (0, 64)) := by
  rcases hw.1 with e | e <;> exact ⟨by rw [e]; decide, by show w.1.2.1 22 = _; rw [e]; rfl⟩
theorem xc_23 {w : WT} (hw : isX w) : isC w 23 (.inr (3, 17, fun k => xO_23.getD k (0, 0))) := by
  rcases hw.1 with e | e <;> exact ⟨by rw [e]; decide, by show w.1.2.1 23 = _; rw [e]; rfl⟩
theorem xc_24 {w : WT} (hw : isX w) : isC w 24 (.inl (0, 7)) := by
  rcases hw.1 with e | e <;> exact ⟨by rw [e]; decide, by show w.1.2.1 24 = _; rw [e]; rfl⟩
theorem xc_25 {w : WT} (hw : isX w) : isC w 25 (.inl (0, 7)) := by
  rcases hw.1 with e | e <;> exact ⟨by rw [e]; decide, by show w.1.2.1 25 = _; rw [e]; rfl⟩
theorem xc_26 {w : WT} (hw : isX w) : isC w 26 (.inl (0, 49)) := by
  rcases hw.1 with e | e <;> exact ⟨by rw [e]; decide, by show w.1.2.1 26 = _; rw [e]; rfl⟩
theorem xc_27 {w : WT} (hw : isX w) : isC w 27 (.inl (0, 49)) := by
  rcases hw.1 with e | e <;> exact ⟨by rw [e]; decide, by show w.1.2.1 27 = _; rw [e]; rfl⟩
theorem xc_28 {w : WT} (hw : isX w) : isC w 28 (.inl (0, 6)) := by
  rcases hw.1 with e | e <;> exact ⟨by rw [e]; decide, by show w.1.2.1 28 = _; rw [e]; rfl⟩
theorem xc_29 {w : WT} (hw : isX w) : isC w 29 (.inl (0, 6)) := by
  rcases hw.1 with e | e <;> exact ⟨by rw [e]; decide, by show w.1.2.1 29 = _; rw [e]; rfl⟩
theorem xc_30 {w : WT} (hw : isX w) : isC w 30 (.inl (0, 6)) := by
  rcases hw.1 with e | e <;> exact ⟨by rw [e]; decide, by show w.1.2.1 30 = _; rw [e]; rfl⟩
theorem xc_31 {w : WT} (hw : isX w) : isC w 31 (.inl (0, 6)) := by
  rcases hw.1 with e | e <;> exact ⟨by rw [e]; decide, by show w.1.2.1 31 = _; rw [e]; rfl⟩
theorem xc_32 {w : WT} (hw : isX w) : isC w 32 (.inl (0, 36)) := by
  rcases hw.1 with e | e <;> exact ⟨by rw [e]; decide, by show w.1.2.1 32 = _; rw [e]; rfl⟩
theorem xc_33 {w : WT} (hw : isX w) : isC w 33 (.inr (0, 13, fun k => xO_33.getD k (0, 0))) := by
  rcases hw.1 with e | e <;> exact ⟨by rw [e]; decide, by show w.1.2.1 33 = _; rw [e]; rfl⟩
theorem xc_34 {w : WT} (hw : isX w) : isC w 34 (.inl (0, 7)) := by
  rcases hw.1 with e | e <;> exact ⟨by rw [e]; decide, by show w.1.2.1 34 = _; rw [e]; rfl⟩
theorem xc_35 {w : WT} (hw : isX w) : isC w 35 (.inl (0, 6)) := by
  rcases hw.1 with e | e <;> exact ⟨by rw [e]; decide, by show w.1.2.1 35 = _; rw [e]; rfl⟩
theorem xc_36 {w : WT} (hw : isX w) : isC w 36 (.inl (0, 6)) := by
  rcases hw.1 with e | e <;> exact ⟨by rw [e]; decide, by show w.1.2.1 36 = _; rw [e]; rfl⟩
theorem xc_37 {w : WT} (hw : isX w) : isC w 37 (.inl (0, 6)) := by
  rcases hw.1 with e | e <;> exact ⟨by rw [e]; decide, by show w.1.2.1 37 = _; rw [e]; rfl⟩
theorem xc_38 {w : WT} (hw : isX w) : isC w 38 (.inl (0, 36)) := by
  rcases hw.1 with e | e <;> exact ⟨by rw [e]; decide, by show w.1.2.1 38 = _; rw [e]; rfl⟩
theorem xc_39 {w : WT} (hw : isX w) : isC w 39 (.inl (0, 60)) := by
  rcases hw.1 with e | e <;> exact ⟨by rw [e]; decide, by show w.1.2.1 39 = _; rw [e]; rfl⟩
theorem xc_40 {w : WT} (hw : isX w) : isC w 40 (.inl (0, 60)) := by
  rcases hw.1 with e | e <;> exact ⟨by rw [e]; decide, by show w.1.2.1 40 = _; rw [e]; rfl⟩
theorem xc_41 {w : WT} (hw : isX w) : isC w 41 (.inl (0, 60)) := by
  rcases hw.1 with e | e <;> exact ⟨by rw [e]; decide, by show w.1.2.1 41 = _; rw [e]; rfl⟩
theorem xc_42 {w : WT} (hw : isX w) : isC w 42 (.inr (6, 4, fun k => xO_42.getD k (0, 0))) := by
  rcases hw.1 with e | e <;> exact ⟨by rw [e]; decide, by show w.1.2.1 42 = _; rw [e]; rfl⟩
theorem xc_43 {w : WT} (hw : isX w) : isC w 43 (.inl (0, 259)) := by
  rcases hw.1 with e | e <;> exact ⟨by rw [e]; decide, by show w.1.2.1 43 = _; rw [e]; rfl⟩
theorem xc_44 {w : WT} (hw : isX w) : isC w 44 (.inl (0, 37)) := by
  rcases hw.1 with e | e <;> exact ⟨by rw [e]; decide, by show w.1.2.1 44 = _; rw [e]; rfl⟩
theorem xc_45 {w : WT} (hw : isX w) : isC w 45 (.inl (0, 7)) := by
  rcases hw.1 with e | e <;> exact ⟨by rw [e]; decide, by show w.1.2.1 45 = _; rw [e]; rfl⟩
theorem xc_46 {w : WT} (hw : isX w) : isC w 46 (.inr (9, 9, fun k => xO_46.getD k (0, 0))) := by
  rcases hw.1 with e | e <;> exact ⟨by rw [e]; decide, by show w.1.2.1 46 = _; rw [e]; rfl⟩
theorem xc_47 {w : WT} (hw : isX w) : isC w 47 (.inl (0, 7)) := by
  rcases hw.1 with e | e <;> exact ⟨by rw [e]; decide, by show w.1.2.1 47 = _; rw [e]; rfl⟩
theorem xc_48 {w : WT} (hw : isX w) : isC w 48 (.inl (0, 64)) := by
  rcases hw.1 with e | e <;> exact ⟨by rw [e]; decide, by show w.1.2.1 48 = _; rw [e]; rfl⟩
theorem xc_49 {w : WT} (hw : isX w) : isC w 49 (.inr (4, 11, fun k => xO_49.getD k (0, 0))) := by
  rcases hw.1 with e | e <;> exact ⟨by rw [e]; decide, by show w.1.2.1 49 = _; rw [e]; rfl⟩
theorem xc_50 {w : WT} (hw : isX w) : isC w 50 (.inl (0, 726)) := by
  rcases hw.1 with e | e <;> exact ⟨by rw [e]; decide, by show w.1.2.1 50 = _; rw [e]; rfl⟩
theorem xc_51 {w : WT} (hw : isX w) : isC w 51 (.inl (0, 1407)) := by
  rcases hw.1 with e | e <;> exact ⟨by rw [e]; decide, by show w.1.2.1 51 = _; rw [e]; rfl⟩
theorem xc_52 {w : WT} (hw : isX w) : isC w 52 (.inl (0, 6)) := by
  rcases hw.1 with e | e <;> exact ⟨by rw [e]; decide, by show w.1.2.1 52 = _; rw [e]; rfl⟩
theorem xc_53 {w : WT} (hw : isX w) : isC w 53 (.inl (0, 6)) := by
  rcases hw.1 with e | e <;> exact ⟨by rw [e]; decide, by show w.1.2.1 53 = _; rw [e]; rfl⟩
theorem xc_54 {w : WT} (hw : isX w) : isC w 54 (.inr (1, 10, fun k => xO_54.getD k (0, 0))) := by
  rcases hw.1 with e | e <;> exact ⟨by rw [e]; decide, by show w.1.2.1 54 = _; rw [e]; rfl⟩
theorem xc_55 {w : WT} (hw : isX w) : isC w 55 (.inl (0, 7)) := by
  rcases hw.1 with e | e <;> exact ⟨by rw [e]; decide, by show w.1.2.1 55 = _; rw [e]; rfl⟩
theorem xc_56 {w : WT} (hw : isX w) : isC w 56 (.inl (0, 7)) := by
  rcases hw.1 with e | e <;> exact ⟨by rw [e]; decide, by show w.1.2.1 56 = _; rw [e]; rfl⟩
theorem xc_57 {w : WT} (hw : isX w) : isC w 57 (.inr (7, 5, fun k => xO_57.getD k (0, 0))) := by
  rcases hw.1 with e | e <;> exact ⟨by rw [e]; decide, by show w.1.2.1 57 = _; rw [e]; rfl⟩
theorem xc_58 {w : WT} (hw : isX w) : isC w 58 (.inl (0, 6)) := by
  rcases hw.1 with e | e <;> exact ⟨by rw [e]; decide, by show w.1.2.1 58 = _; rw [e]; rfl⟩
theorem xc_59 {w : WT} (hw : isX w) : isC w 59 (.inl (0, 64)) := by
  rcases hw.1 with e | e <;> exact ⟨by rw [e]; decide, by show w.1.2.1 59 = _; rw [e]; rfl⟩
theorem xc_60 {w : WT} (hw : isX w) : isC w 60 (.inl (0, 64)) := by
  rcases hw.1 with e | e <;> exact ⟨by rw [e]; decide, by show w.1.2.1 60 = _; rw [e]; rfl⟩
theorem xc_61 {w : WT} (hw : isX w) : isC w 61 (.inr (0, 13, fun k => xO_61.getD k (0, 0))) := by
  rcases hw.1 with e | e <;> exact ⟨by rw [e]; decide, by show w.1.2.1 61 = _; rw [e]; rfl⟩
theorem xc_62 {w : WT} (hw : isX w) : isC w 62 (.inl (0, 7)) := by
  rcases hw.1 with e | e <;> exact ⟨by rw [e]; decide, by show w.1.2.1 62 = _; rw [e]; rfl⟩
theorem xc_63 {w : WT} (hw : isX w) : isC w 63 (.inl (0, 6)) := by
  rcases hw.1 with e | e <;> exact ⟨by rw [e]; decide, by show w.1.2.1 63 = _; rw [e]; rfl⟩
theorem xc_64 {w : WT} (hw : isX w) : isC w 64 (.inl (0, 6)) := by
  rcases hw.1 with e | e <;> exact ⟨by rw [e]; decide, by show w.1.2.1 64 = _; rw [e]; rfl⟩
theorem xc_65 {w : WT} (hw : isX w) : isC w 65 (.inl (0, 6)) := by
  rcases hw.1 with e | e <;> exact ⟨by rw [e]; decide, by show w.1.2.1 65 = _; rw [e]; rfl⟩
theorem xc_66 {w : WT} (hw : isX w) : isC w 66 (.inl (0, 36)) := by
  rcases hw.1 with e | e <;> exact ⟨by rw [e]; decide, by show w.1.2.1 66 = _; rw [e]; rfl⟩
theorem xc_67 {w : WT} (hw : isX w) : isC w 67 (.inl (0, 60)) := by
  rcases hw.1 with e | e <;> exact ⟨by rw [e]; decide, by show w.1.2.1 67 = _; rw [e]; rfl⟩
theorem xc_68 {w : WT} (hw : isX w) : isC w 68 (.inl (0, 60)) := by
  rcases hw.1 with e | e <;> exact ⟨by rw [e]; decide, by show w.1.2.1 68 = _; rw [e]; rfl⟩
theorem xc_69 {w : WT} (hw : isX w) : isC w 69 (.inl (0, 60)) := by
  rcases hw.1 with e | e <;> exact ⟨by rw [e]; decide, by show w.1.2.1 69 = _; rw [e]; rfl⟩
theorem xc_70 {w : WT} (hw : isX w) : isC w 70 (.inr (0, 13, fun k => xO_70.getD k (0, 0))) := by
  rcases hw.1 with e | e <;> exact ⟨by rw [e]; decide, by show w.1.2.1 70 = _; rw [e]; rfl⟩
theorem xc_71 {w : WT} (hw : isX w) : isC w 71 (.inl (0, 7)) := by
  rcases hw.1 with e | e <;> exact ⟨by rw [e]; decide, by show w.1.2.1 71 = _; rw [e]; rfl⟩
theorem xc_72 {w : WT} (hw : isX w) : isC w 72 (.inl (0, 6)) := by
  rcases hw.1 with e | e <;> exact ⟨by rw [e]; decide, by show w.1.2.1 72 = _; rw [e]; rfl⟩
theorem xc_73 {w : WT} (hw : isX w) : isC w 73 (.inl (0, 6)) := by
  rcases hw.1 with e | e <;> exact ⟨by rw [e]; decide, by show w.1.2.1 73 = _; rw [e]; rfl⟩
theorem xc_74 {w : WT} (hw : isX w) : isC w 74 (.inl (0, 6)) := by
  rcases hw.1 with e | e <;> exact ⟨by rw [e]; decide, by show w.1.2.1 74 = _; rw [e]; rfl⟩
theorem xc_75 {w : WT} (hw : isX w) : isC w 75 (.inl (0, 36)) := by
  rcases hw.1 with e | e <;> exact ⟨by rw [e]; decide, by show w.1.2.1 75 = _; rw [e]; rfl⟩
theorem xc_76 {w : WT} (hw : isX w) : isC w 76 (.inl (0, 60)) := by
  rcases hw.1 with e | e <;> exact ⟨by rw [e]; decide, by show w.1.2.1 76 = _; rw [e]; rfl⟩
theorem xc_77 {w : WT} (hw : isX w) : isC w 77 (.inl (0, 60)) := by
  rcases hw.1 with e | e <;> exact ⟨by rw [e]; decide, by show w.1.2.1 77 = _; rw [e]; rfl⟩
theorem xc_78 {w : WT} (hw : isX w) : isC w 78 (.inl (0, 60)) := by
  rcases hw.1 with e | e <;> exact ⟨by rw [e]; decide, by show w.1.2.1 78 = _; rw [e]; rfl⟩
theorem xc_79 {w : WT} (hw : isX w) : isC w 79 (.inr (0, 13, fun k => xO_79.getD k (0, 0))) := by
  rcases hw.1 with e | e <;> exact ⟨by rw [e]; decide, by show w.1.2.1 79 = _; rw [e]; rfl⟩
theorem xc_80 {w : WT} (hw : isX w) : isC w 80 (.inl (0, 7)) := by
  rcases hw.1 with e | e <;> exact ⟨by rw [e]; decide, by show w.1.2.1 80 = _; rw [e]; rfl⟩
theorem xc_81 {w : WT} (hw : isX w) : isC w 81 (.inl (0, 6)) := by
  rcases hw.1 with e | e <;> exact ⟨by rw [e]; decide, by show w.1.2.1 81 = _; rw [e]; rfl⟩
theorem xc_82 {w : WT} (hw : isX w) : isC w 82 (.inl (0, 6)) := by
  rcases hw.1 with e | e <;> exact ⟨by rw [e]; decide, by show w.1.2.1 82 = _; rw [e]; rfl⟩
theorem xc_83 {w : WT} (hw : isX w) : isC w 83 (.inl (0, 6)) := by
  rcases hw.1 with e | e <;> exact ⟨by rw [e]; decide, by show w.1.2.1 83 = _; rw [e]; rfl⟩
theorem xc_84 {w : WT} (hw : isX w) : isC w 84 (.inl (0, 36)) := by
  rcases hw.1 with e | e <;> exact ⟨by rw [e]; decide, by show w.1.2.1 84 = _; rw [e]; rfl⟩
theorem xc_85 {w : WT} (hw : isX w) : isC w 85 (.inl (0, 60)) := by
  rcases hw.1 with e | e <;> exact ⟨by rw [e]; decide, by show w.1.2.1 85 = _; rw [e]; rfl⟩
theorem xc_86 {w : WT} (hw : isX w) : isC w 86 (.inl (0, 60)) := by
  rcases hw.1 with e | e <;> exact ⟨by rw [e]; decide, by show w.1.2.1 86 = _; rw [e]; rfl⟩
theorem xc_87 {w : WT} (hw : isX w) : isC w 87 (.inl (0, 60)) := by
  rcases hw.1 with e | e <;> exact ⟨by rw [e]; decide, by show w.1.2.1 87 = _; rw [e]; rfl⟩
theorem xc_88 {w : WT} (hw : isX w) : isC w 88 (.inr (0, 13, fun k => xO_88.getD k (0, 0))) := by
  rcases hw.1 with e | e <;> exact ⟨by rw [e]; decide, by show w.1.2.1 88 = _; rw [e]; rfl⟩
theorem xc_89 {w : WT} (hw : isX w) : isC w 89 (.inl (0, 7)) := by
  rcases hw.1 with e | e <;> exact ⟨by rw [e]; decide, by show w.1.2.1 89 = _; rw [e]; rfl⟩
theorem xc_90 {w : WT} (hw : isX w) : isC w 90 (.inl (0, 6)) := by
  rcases hw.1 with e | e <;> exact ⟨by rw [e]; decide, by show w.1.2.1 90 = _; rw [e]; rfl⟩
theorem xc_91 {w : WT} (hw : isX w) : isC w 91 (.inl (0, 6)) := by
  rcases hw.1 with e | e <;> exact ⟨by rw [e]; decide, by show w.1.2.1 91 = _; rw [e]; rfl⟩
theorem xc_92 {w : WT} (hw : isX w) : isC w 92 (.inl (0, 6)) := by
  rcases hw.1 with e | e <;> exact ⟨by rw [e]; decide, by show w.1.2.1 92 = _; rw [e]; rfl⟩
theorem xc_93 {w : WT} (hw : isX w) : isC w 93 (.inl (0, 36)) := by
  rcases hw.1 with e | e <;> exact ⟨by rw [e]; decide, by show w.1.2.1 93 = _; rw [e]; rfl⟩
theorem xc_94 {w : WT} (hw : isX w) : isC w 94 (.inl (0, 60)) := by
  rcases hw.1 with e | e <;> exact ⟨by rw [e]; decide, by show w.1.2.1 94 = _; rw [e]; rfl⟩
theorem xc_95 {w : WT} (hw : isX w) : isC w 95 (.inl (0, 60)) := by
  rcases hw.1 with e | e <;> exact ⟨by rw [e]; decide, by show w.1.2.1 95 = _; rw [e]; rfl⟩
theorem xc_96 {w : WT} (hw : isX w) : isC w 96 (.inl (0, 60)) := by
  rcases hw.1 with e | e <;> exact ⟨by rw [e]; decide, by show w.1.2.1 96 = _; rw [e]; rfl⟩
theorem xc_97 {w : WT} (hw : w.1 = xLyO) : isC w 97 (.inl (1, 1)) := ⟨by rw [hw]; decide, by show w.1.2.1 97 = _; rw [hw]; rfl⟩
def mkO (h : Nat) : List (Nat × Nat) := [(0, 0), (0, 0), (0, 0), (1, 0), (0, 0), (2, h + 1), (2, h + 2), (2, h + 3), (2, h + 4), (2, h + 5), (2, h + 6), (2, h + 7), (2, h + 8)]
def isMk (h : Nat) : Prop := h = 61 ∨ h = 70 ∨ h = 79 ∨ h = 88
theorem xmk_0 {w : WT} (hw : isX w) {h : Nat} (hm : isMk h) : isC w (h + 0) (.inr (0, 13, fun k => (mkO h).getD k (0, 0))) := by
  rcases hm with rfl | rfl | rfl | rfl
  · exact xc_61 hw
  · exact xc_70 hw
  · exact xc_79 hw
  · exact xc_88 hw
theorem xmk_1 {w : WT} (hw : isX w) {h : Nat} (hm : isMk h) : isC w (h + 1) (.inl (0, 7)) := by
  rcases hm with rfl | rfl | rfl | rfl
  · exact xc_62 hw
  · exact xc_71 hw
  · exact xc_80 hw
  · exact xc_89 hw
theorem xmk_2 {w : WT} (hw : isX w) {h : Nat} (hm : isMk h) : isC w (h + 2) (.inl (0, 6)) := by
  rcases hm with rfl | rfl | rfl | rfl
  · exact xc_63 hw
  · exact xc_72 hw
  · exact xc_81 hw
  · exact xc_90 hw
theorem xmk_3 {w : WT} (hw : isX w) {h : Nat} (hm : isMk h) : isC w (h + 3) (.inl (0, 6)) := by
  rcases hm with rfl | rfl | rfl | rfl
  · exact xc_64 hw
  · exact xc_73 hw
  · exact xc_82 hw
  · exact xc_91 hw
theorem xmk_4 {w : WT} (hw : isX w) {h : Nat} (hm : isMk h) : isC w (h + 4) (.inl (0, 6)) := by
  rcases hm with rfl | rfl | rfl | rfl
  · exact xc_65 hw
  · exact xc_74 hw
  · exact xc_83 hw
  · exact xc_92 hw
theorem xmk_5 {w : WT} (hw : isX w) {h : Nat} (hm : isMk h) : isC w (h + 5) (.inl (0, 36)) := by
  rcases hm with rfl | rfl | rfl | rfl
  · exact xc_66 hw
  · exact xc_75 hw
  · exact xc_84 hw
  · exact xc_93 hw
theorem xmk_6 {w : WT} (hw : isX w) {h : Nat} (hm : isMk h) : isC w (h + 6) (.inl (0, 60)) := by
  rcases hm with rfl | rfl | rfl | rfl
  · exact xc_67 hw
  · exact xc_76 hw
  · exact xc_85 hw
  · exact xc_94 hw
theorem xmk_7 {w : WT} (hw : isX w) {h : Nat} (hm : isMk h) : isC w (h + 7) (.inl (0, 60)) := by
  rcases hm with rfl | rfl | rfl | rfl
  · exact xc_68 hw
  · exact xc_77 hw
  · exact xc_86 hw
  · exact xc_95 hw
theorem xmk_8 {w : WT} (hw : isX w) {h : Nat} (hm : isMk h) : isC w (h + 8) (.inl (0, 60)) := by
  rcases hm with rfl | rfl | rfl | rfl
  · exact xc_69 hw
  · exact xc_78 hw
  · exact xc_87 hw
  · exact xc_96 hw
