/-! the same token in the class and in the reference -/
theorem tkF_all {p : Nat → Bool} {n : Nat} : ∀ (f i j : Nat), i ≤ j → j < tkF p n f i → p j = true
  | 0, i, j, h1, h2 => absurd h2 (by show ¬ j < i; omega)
  | f + 1, i, j, h1, h2 => by
    have h2' : j < (if i < n ∧ p i = true then tkF p n f (i + 1) else i) := h2
    by_cases e : i < n ∧ p i = true
    · rw [if_pos e] at h2'
      by_cases e2 : j = i
      · rw [e2]; exact e.2
      · exact tkF_all f (i + 1) j (by omega) h2'
    · rw [if_neg e] at h2'; omega
theorem tkR_all {p : Nat → Bool} {n i j : Nat} (h1 : i ≤ j) (h2 : j < tkR p n i) : p j = true := tkF_all _ _ _ h1 h2
abbrev tkM (n : Nat) (tp : Nat → Nat) (i : Nat) : Nat := tkR (pL tp) n i - i
def sgo (b : Nat) : Nat := if b = 60 then 25 else if b = 61 then 26 else if b = 43 then 27 else if b = 45 then 28 else if b = 42 then 29 else if b = 40 then 30 else if b = 41 then 31 else 32
theorem wfd_sg {b : Nat} (hb : b < 200) : wfd [I b] = if sgn b = true then sgo b else 38 := by
  have h : ∀ b, b < 200 → wfd [I b] = if sgn b = true then sgo b else 38 := by decide +kernel
  exact h b hb
theorem sgo_b (b : Nat) : 25 ≤ sgo b ∧ sgo b ≤ 32 := by
  unfold sgo
  repeat (first | omega | split)
theorem tkM_let {n : Nat} {tp : Nat → Nat} {i q : Nat} (hq : q < tkM n tp i) : 97 ≤ tp (i + q) ∧ tp (i + q) ≤ 122 := by
  have h : pL tp (i + q) = true := tkR_all (n := n) (i := i) (by omega) (by unfold tkM at hq; omega)
  exact of_decide_eq_true h
theorem tkM_pos {n : Nat} {tp : Nat → Nat} {i : Nat} (hi : i < n) (h : pL tp i = true) : 1 ≤ tkM n tp i := by
  unfold tkM
  rw [tkR_in hi h]
  have := (tkR_b (p := pL tp) (n := n) (i := i + 1) (by omega)).1
  omega
theorem tk_cases {n : Nat} {tp : Nat → Nat} (hw : wfP n tp) {i : Nat} (hi : i ≤ n) :
    (i = n ∧ tkS n tp i = 0 ∧ tkW n tp i = 40) ∨
    (tkS n tp i = 1 ∧ i < n ∧ pL tp i = true ∧ tkM n tp i ≤ 8 ∧ tkW n tp i = wfd (lts tp i (tkM n tp i)) ∧ tkV n tp i = cdF 37 (fun q => tp q - 96) i (tkM n tp i)) ∨
    (tkS n tp i = 2 ∧ i < n ∧ pL tp i = false ∧ pD tp i = true ∧ tkW n tp i = 39 ∧ tkR (pD tp) n i - i ≤ 4 ∧ tkV n tp i = cdF 10 (fun q => tp q - 48) i (tkR (pD tp) n i - i)) ∨
    (tkS n tp i = 3 ∧ i < n ∧ sgn (tp i) = true ∧ tkV n tp i = tp i ∧ tkW n tp i = sgo (tp i)) ∨
    (tkS n tp i = 4 ∧ i < n ∧ tkW n tp i = 41) := by
  by_cases h : i < n
  · right
    by_cases hl : pL tp i = true
    · by_cases h8 : tkM n tp i ≤ 8
      · left
        refine ⟨?_, h, hl, h8, ?_, ?_⟩
        · unfold tkS; rw [if_pos h, if_pos hl, if_pos h8]
        · unfold tkW; rw [if_pos h, if_pos hl, if_pos h8]
        · unfold tkV; rw [if_pos hl, Nat.min_eq_left h8]
      · right; right; right
        refine ⟨?_, h, ?_⟩
        · unfold tkS; rw [if_pos h, if_pos hl, if_neg h8]
        · unfold tkW; rw [if_pos h, if_pos hl, if_neg h8]
    · by_cases hd : pD tp i = true
      · by_cases h4 : tkR (pD tp) n i - i ≤ 4
        · right; left
          refine ⟨?_, h, by simpa using hl, hd, ?_, h4, ?_⟩
          · unfold tkS; rw [if_pos h, if_neg hl, if_pos hd, if_pos h4]
          · unfold tkW; rw [if_pos h, if_neg hl, if_pos hd, if_pos h4]
          · unfold tkV; rw [if_neg hl, if_pos hd, Nat.min_eq_left h4]
        · right; right; right
          refine ⟨?_, h, ?_⟩
          · unfold tkS; rw [if_pos h, if_neg hl, if_pos hd, if_neg h4]
          · unfold tkW; rw [if_pos h, if_neg hl, if_pos hd, if_neg h4]
      · right; right
        have e1 : lts tp i 1 = [I (tp i)] := by simp [lts]
        have e2 := wfd_sg (tp_lt hw h)
        by_cases hs : sgn (tp i) = true
        · left
          have hb := sgo_b (tp i)
          rw [if_pos hs] at e2
          refine ⟨?_, h, hs, ?_, ?_⟩
          · unfold tkS; rw [if_pos h, if_neg hl, if_neg hd, if_pos hs]
          · unfold tkV; rw [if_neg hl, if_neg hd]
          · unfold tkW; rw [if_pos h, if_neg hl, if_neg hd, e1, e2, if_neg (by omega)]
        · right
          rw [if_neg hs] at e2
          refine ⟨?_, h, ?_⟩
          · unfold tkS; rw [if_pos h, if_neg hl, if_neg hd, if_neg hs]
          · unfold tkW; rw [if_pos h, if_neg hl, if_neg hd, e1, e2, if_pos rfl]
  · left
    refine ⟨by omega, ?_, ?_⟩
    · unfold tkS; rw [if_neg h]
    · unfold tkW; rw [if_neg h]
theorem c37_lt {g : Nat → Nat} {i m : Nat} (hm : m ≤ 8) (h : ∀ q, q < m → g (i + q) < 37) : cdF 37 g i m < 9223372036854775808 := by
  have h1 := cdF_lt m h
  have h2 : 37 ^ m ≤ 37 ^ 8 := Nat.pow_le_pow_right (by omega) hm
  omega
theorem c128_lt {g : Nat → Nat} {i m : Nat} (hm : m ≤ 8) (h : ∀ q, q < m → g (i + q) < 128) : cdF 128 g i m < 9223372036854775808 := by
  have h1 := cdF_lt m h
  have h2 : 128 ^ m ≤ 128 ^ 8 := Nat.pow_le_pow_right (by omega) hm
  omega
/-- which word -/
theorem tk_word {n : Nat} {tp : Nat → Nat} {i w : Nat} (h8 : tkM n tp i ≤ 8) (hw : w < 30) : Int64.ofNat (cdF 37 (fun q => tp q - 96) i (tkM n tp i)) = sM0.2.1 5 w ↔ wfd (lts tp i (tkM n tp i)) = wcl w := by
  have hl := wd_len (v := wcl w) (by have := wcl_lt hw; omega)
  rw [J5_eq hw, J_inj (c37_lt h8 (fun q hq => by have := tkM_let hq; show tp (i + q) - 96 < 37; omega)) (c37_lt hl (fun q hq => by rw [Nat.zero_add]; have := gw_let hw hq; show gw w q - 96 < 37; omega)), wfd_iff (wcl_lt hw), lts_eq]
  constructor
  · intro h
    have h1 := cdF_inj (by omega) _ _ (fun q hq => by have := tkM_let hq; show 1 ≤ tp (i + q) - 96 ∧ tp (i + q) - 96 < 37; omega) (fun q hq => by rw [Nat.zero_add]; have := gw_let hw hq; show 1 ≤ gw w q - 96 ∧ gw w q - 96 < 37; omega) h
    refine ⟨h1.1.symm, fun q hq => ?_⟩
    have h2 : tp (i + q) - 96 = gw w (0 + q) - 96 := h1.2 q hq
    rw [Nat.zero_add] at h2
    have h3 := gw_let hw (show q < (wdT.getD (wcl w) []).length by omega)
    have h4 := tkM_let hq
    rw [h3.2.2, show gw w q = tp (i + q) by omega]
  · rintro ⟨h1, h2⟩
    rw [h1]
    refine cdF_congr _ (fun q hq => ?_)
    show tp (i + q) - 96 = gw w (0 + q) - 96
    rw [Nat.zero_add]
    have h3 := gw_let hw (show q < (wdT.getD (wcl w) []).length by omega)
    have h4 := tkM_let hq
    have h5 := h3.2.2.symm.trans (h2 q hq)
    rw [I_inj (by omega) (by omega)] at h5
    omega
/-- the same name -/
theorem tk_same {n : Nat} {tp : Nat → Nat} {i j : Nat} (hi : tkM n tp i ≤ 8) (hj : tkM n tp j ≤ 8) : Int64.ofNat (cdF 37 (fun q => tp q - 96) i (tkM n tp i)) = Int64.ofNat (cdF 37 (fun q => tp q - 96) j (tkM n tp j)) ↔ Int64.ofNat (cdF 128 tp i (tkM n tp i)) = Int64.ofNat (cdF 128 tp j (tkM n tp j)) := by
  rw [J_inj (c37_lt hi (fun q hq => by have := tkM_let hq; show tp (i + q) - 96 < 37; omega)) (c37_lt hj (fun q hq => by have := tkM_let hq; show tp (j + q) - 96 < 37; omega)), J_inj (c128_lt hi (fun q hq => by have := tkM_let hq; omega)) (c128_lt hj (fun q hq => by have := tkM_let hq; omega))]
  constructor
  · intro h
    have h1 := cdF_inj (by omega) _ _ (fun q hq => by have := tkM_let hq; show 1 ≤ tp (i + q) - 96 ∧ tp (i + q) - 96 < 37; omega) (fun q hq => by have := tkM_let hq; show 1 ≤ tp (j + q) - 96 ∧ tp (j + q) - 96 < 37; omega) h
    rw [← h1.1]
    refine cdF_congr _ (fun q hq => ?_)
    have h2 : tp (i + q) - 96 = tp (j + q) - 96 := h1.2 q hq
    have h3 := tkM_let hq
    have h4 := tkM_let (n := n) (tp := tp) (i := j) (q := q) (by omega)
    omega
  · intro h
    have h1 := cdF_inj (by omega) _ _ (fun q hq => by have := tkM_let hq; omega) (fun q hq => by have := tkM_let hq; omega) h
    rw [← h1.1]
    refine cdF_congr _ (fun q hq => ?_)
    have h2 : tp (i + q) = tp (j + q) := h1.2 q hq
    show tp (i + q) - 96 = tp (j + q) - 96
    rw [h2]
/-- a word of letters is no sign -/
theorem tk_letw {n : Nat} {tp : Nat → Nat} {i : Nat} (hi : i < n) (hl : pL tp i = true) : wfd (lts tp i (tkM n tp i)) < 25 ∨ (33 ≤ wfd (lts tp i (tkM n tp i)) ∧ wfd (lts tp i (tkM n tp i)) ≤ 38) := by
  have hp := tkM_pos hi hl
  have hne : lts tp i (tkM n tp i) ≠ [] := by
    intro h
    have := (lts_eq.mp h.symm).1
    simp at this
    omega
  have hle := wfd_le hne
  by_cases h : 25 ≤ wfd (lts tp i (tkM n tp i)) ∧ wfd (lts tp i (tkM n tp i)) ≤ 32
  · have h1 := (wfd_iff (L := lts tp i (tkM n tp i)) (v := wfd (lts tp i (tkM n tp i))) (by omega)).mp rfl
    have h2 := (lts_eq.mp h1).2 0 (by omega)
    have h3 := tkM_let (n := n) (tp := tp) (i := i) (q := 0) (by omega)
    have hd : ∀ v, v < 33 → 25 ≤ v → ∀ b, b < 123 → 97 ≤ b → ¬ (wdT.getD v []).getD 0 0 = I b := by decide +kernel
    exact absurd h2 (hd _ (by omega) h.1 _ (by omega) h3.1)
  · omega
