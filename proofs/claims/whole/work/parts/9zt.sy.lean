/-! laws: the class's way of reading, as a machine over lists -/
def jnC (W : Nat) : Nat := if W = 23 then 20008 else if W = 24 then 20009 else if W = 25 then 20006 else if W = 26 then 20007 else if W = 27 then 20004 else if W = 28 then 20005 else if W = 29 then 20003 else 0
def rkC (c : Nat) : Nat := if c = 20003 then 4 else if c = 20004 ∨ c = 20005 then 3 else if c = 20006 ∨ c = 20007 then 2 else if c = 20008 ∨ c = 20009 then 1 else 0
def fcC (W : Nat) : Nat := if W = 9 then 10000 else if W = 33 then 10001 else if W = 1 then 10002 else if W = 34 then 10003 else if W = 35 then 10004 else if W = 36 then 10005 else if W = 37 then 10006 else 0
def hiB (b : Nat) : Nat := if b = 0 then 5 else 7
def bgP (b W : Nat) : Bool := decide (W = 39 ∨ W = 22 ∨ W = 30 ∨ (10000 + b ≤ fcC W ∧ fcC W < 10000 + hiB b))
def atC (W v : Nat) : Nat := if W = 39 then v else fcC W
def popR (r : Nat) : List Nat → List Nat × List Nat
  | [] => ([], [])
  | c :: W => if r ≤ rkC c then (c :: (popR r W).1, (popR r W).2) else ([], c :: W)
def popN : List Nat → List Nat × List Nat
  | [] => ([], [])
  | c :: W => if c = 20002 then (c :: (popN W).1, (popN W).2) else ([], c :: W)
def dpW : List Nat → Nat
  | [] => 0
  | c :: W => (if c = 20002 ∨ c = 20010 then 1 else 0) + dpW W
def brW : List Nat → Nat
  | [] => 0
  | c :: W => (if c = 20010 then 1 else 0) + brW W
def tpR : List Nat → Nat
  | [] => 0
  | c :: _ => rkC c
abbrev Cfg : Type := Nat × Bool × List Nat × List Nat
def fin (k : Nat) (W out : List Nat) : Cfg := (k, false, (popN W).2, out ++ (popN W).1)
def syW (w v : Nat → Nat) (b k : Nat) (W out : List Nat) : Cfg ⊕ (Nat × Nat × List Nat) := if bgP b (w k) = true then (if 5 ≤ dpW W then .inr (5, k, out) else if w k = 22 then .inl (k + 1, true, 20002 :: W, out) else if w k = 30 then .inl (k + 1, true, 20010 :: W, out) else .inl (fin (k + 1) W (out ++ [atC (w k) (v k)]))) else .inr (1, k, out)
def syJ (k j r : Nat) (W out : List Nat) : Cfg ⊕ (Nat × Nat × List Nat) := if r = 2 then (if tpR (popR 3 W).2 = 2 then .inr (1, k, out) else .inl (k + 1, true, j :: (popR 3 W).2, out ++ (popR 3 W).1)) else .inl (k + 1, true, j :: (popR r W).2, out ++ (popR r W).1)
def syE (w : Nat → Nat) (k : Nat) (W out : List Nat) : Cfg ⊕ (Nat × Nat × List Nat) := if w k = 32 ∧ brW W = 0 then .inr (0, k, out ++ (popR 1 W).1) else if w k = 31 ∧ 0 < brW W then .inl (fin (k + 1) (popR 1 W).2.tail (out ++ (popR 1 W).1)) else if jnC (w k) = 0 then .inr (1, k, out) else syJ k (jnC (w k)) (rkC (jnC (w k))) W out
def syS (w v : Nat → Nat) (b : Nat) (c : Cfg) : Cfg ⊕ (Nat × Nat × List Nat) := if c.2.1 = true then syW w v b c.1 c.2.2.1 c.2.2.2 else syE w c.1 c.2.2.1 c.2.2.2
def syR (w v : Nat → Nat) (b : Nat) : Nat → Cfg → Cfg ⊕ (Nat × Nat × List Nat)
  | 0, c => .inl c
  | n + 1, c => match syS w v b c with
    | .inl c' => syR w v b n c'
    | .inr r => .inr r
theorem syR_l {w v : Nat → Nat} {b n : Nat} {c c' : Cfg} (h : syS w v b c = .inl c') : syR w v b (n + 1) c = syR w v b n c' := by
  show (match syS w v b c with | .inl c' => syR w v b n c' | .inr r => .inr r) = _
  rw [h]
theorem syR_r {w v : Nat → Nat} {b n : Nat} {c : Cfg} {r : Nat × Nat × List Nat} (h : syS w v b c = .inr r) : syR w v b (n + 1) c = .inr r := by
  show (match syS w v b c with | .inl c' => syR w v b n c' | .inr r => .inr r) = _
  rw [h]
def Rch (w v : Nat → Nat) (b : Nat) (c c' : Cfg) : Prop := ∃ n, ∀ m, syR w v b (n + m) c = syR w v b m c'
def Fls (w v : Nat → Nat) (b : Nat) (c : Cfg) (f k : Nat) : Prop := ∃ n out, syR w v b n c = .inr (f, k, out)
theorem Rch_refl {w v : Nat → Nat} {b : Nat} {c : Cfg} : Rch w v b c c := ⟨0, fun m => by rw [Nat.zero_add]⟩
theorem Rch_1 {w v : Nat → Nat} {b : Nat} {c c' : Cfg} (h : syS w v b c = .inl c') : Rch w v b c c' := ⟨1, fun m => by rw [Nat.add_comm]; exact syR_l h⟩
theorem Rch_tr {w v : Nat → Nat} {b : Nat} {c c' c'' : Cfg} (h1 : Rch w v b c c') (h2 : Rch w v b c' c'') : Rch w v b c c'' := by
  obtain ⟨n, hn⟩ := h1
  obtain ⟨m, hm⟩ := h2
  exact ⟨n + m, fun q => by rw [Nat.add_assoc, hn, hm]⟩
theorem Rch_F {w v : Nat → Nat} {b : Nat} {c c' : Cfg} {f k : Nat} (h1 : Rch w v b c c') (h2 : Fls w v b c' f k) : Fls w v b c f k := by
  obtain ⟨n, hn⟩ := h1
  obtain ⟨m, out, hm⟩ := h2
  exact ⟨n + m, out, by rw [hn, hm]⟩
theorem Fls_1 {w v : Nat → Nat} {b : Nat} {c : Cfg} {f k : Nat} {out : List Nat} (h : syS w v b c = .inr (f, k, out)) : Fls w v b c f k := ⟨1, out, syR_r h⟩
theorem popR_app {r : Nat} {W : List Nat} (hW : tpR W < r) : ∀ P : List Nat, (∀ x, x ∈ P → r ≤ rkC x) → popR r (P ++ W) = (P, W)
  | [], _ => by
    cases W with
    | nil => rfl
    | cons c W =>
      show (if r ≤ rkC c then (c :: (popR r W).1, (popR r W).2) else ([], c :: W)) = _
      have : rkC c < r := hW
      rw [if_neg (by omega)]
  | x :: P, h => by
    show (if r ≤ rkC x then (x :: (popR r (P ++ W)).1, (popR r (P ++ W)).2) else ([], x :: (P ++ W))) = _
    rw [if_pos (h x (List.mem_cons_self)), popR_app hW P (fun y hy => h y (List.mem_cons_of_mem _ hy))]
def tOK (lv : Nat) (W : List Nat) : Prop := tpR W < lv ∧ ¬ W.head? = some 20002
theorem popN_n {W : List Nat} (h : ¬ W.head? = some 20002) : popN W = ([], W) := by
  cases W with
  | nil => rfl
  | cons c W =>
    show (if c = 20002 then (c :: (popN W).1, (popN W).2) else ([], c :: W)) = _
    rw [if_neg (fun h9 => h (by rw [h9]; rfl))]
theorem dpW_app : ∀ (P W : List Nat), (∀ x, x ∈ P → 1 ≤ rkC x) → dpW (P ++ W) = dpW W
  | [], _, _ => rfl
  | x :: P, W, h => by
    have hx := h x (List.mem_cons_self)
    show (if x = 20002 ∨ x = 20010 then 1 else 0) + dpW (P ++ W) = _
    rw [dpW_app P W (fun y hy => h y (List.mem_cons_of_mem _ hy)), if_neg, Nat.zero_add]
    rintro (h9 | h9) <;> rw [h9] at hx <;> exact absurd hx (by decide)
theorem brW_app : ∀ (P W : List Nat), (∀ x, x ∈ P → 1 ≤ rkC x) → brW (P ++ W) = brW W
  | [], _, _ => rfl
  | x :: P, W, h => by
    have hx := h x (List.mem_cons_self)
    show (if x = 20010 then 1 else 0) + brW (P ++ W) = _
    rw [brW_app P W (fun y hy => h y (List.mem_cons_of_mem _ hy)), if_neg, Nat.zero_add]
    intro h9
    rw [h9] at hx
    exact absurd hx (by decide)
def has2 (P : List Nat) : Prop := ∃ P1 x P2, P = P1 ++ x :: P2 ∧ (∀ y, y ∈ P1 → 3 ≤ rkC y) ∧ rkC x = 2
/-- the machine goes from k to k' and has E in all; level lv -/
def MG (w v : Nat → Nat) (b lv d k k' : Nat) (E : List Nat) : Prop := ∀ W out, dpW W = d → tOK lv W → ∃ P out', Rch w v b (k, true, W, out) (k', false, P ++ W, out') ∧ out' ++ P = out ++ E ∧ (∀ x, x ∈ P → lv ≤ rkC x) ∧ (lv ≤ 2 → w k' = 25 ∨ w k' = 26 → has2 P)
def MB (w v : Nat → Nat) (b lv d k f kf : Nat) : Prop := ∀ W out, dpW W = d → tOK lv W → Fls w v b (k, true, W, out) f kf
def MGp (w v : Nat → Nat) (b d k k' : Nat) (E : List Nat) : Prop := ∀ W out, dpW W = d → Rch w v b (k, true, W, out) (fin k' W (out ++ E))
def MBp (w v : Nat → Nat) (b d k f kf : Nat) : Prop := ∀ W out, dpW W = d → Fls w v b (k, true, W, out) f kf
theorem MG_p {w v : Nat → Nat} {b lv d k k' : Nat} {E : List Nat} (hlv : 3 ≤ lv) (h : MGp w v b d k k' E) : MG w v b lv d k k' E := by
  intro W out hd ht
  refine ⟨[], out ++ E, ?_, by rw [List.append_nil], fun x hx => absurd hx (List.not_mem_nil), fun h9 => absurd h9 (by omega)⟩
  have h1 := h W out hd
  unfold fin at h1
  rw [popN_n ht.2, List.append_nil] at h1
  exact h1
theorem MB_p {w v : Nat → Nat} {b lv d k f kf : Nat} (h : MBp w v b d k f kf) : MB w v b lv d k f kf := fun W out hd _ => h W out hd
theorem MB_w {w v : Nat → Nat} {b lv d k f kf : Nat} (h : MB w v b (lv + 1) d k f kf) : MB w v b lv d k f kf := fun W out hd ht => h W out hd ⟨Nat.lt_succ_of_lt ht.1, ht.2⟩
theorem MG_w {w v : Nat → Nat} {b lv d k k' : Nat} {E : List Nat} (h2 : lv = 2 → ¬ (w k' = 25 ∨ w k' = 26)) (h : MG w v b (lv + 1) d k k' E) : MG w v b lv d k k' E := by
  intro W out hd ht
  obtain ⟨P, out', a, a2, a3, a4⟩ := h W out hd ⟨Nat.lt_succ_of_lt ht.1, ht.2⟩
  refine ⟨P, out', a, a2, fun x hx => Nat.le_of_succ_le (a3 x hx), fun h9 h8 => ?_⟩
  by_cases e : lv = 2
  · exact absurd h8 (h2 e)
  · exact a4 (by omega) h8
theorem jn_rk {W : Nat} (h : ¬ jnC W = 0) : 23 ≤ W ∧ W ≤ 29 := by
  unfold jnC at h
  apply Classical.byContradiction
  intro h9
  apply h
  rw [if_neg (by omega), if_neg (by omega), if_neg (by omega), if_neg (by omega), if_neg (by omega), if_neg (by omega), if_neg (by omega)]
theorem jnC_0 {W : Nat} (h : ¬ (23 ≤ W ∧ W ≤ 29)) : jnC W = 0 := by
  apply Classical.byContradiction
  intro h9
  exact h (jn_rk h9)
theorem sy_join {w v : Nat → Nat} {b lv k' : Nat} {P W out' : List Nat} (hj : ¬ jnC (w k') = 0) (hr : rkC (jnC (w k')) = lv) (h2 : lv ≠ 2) (hW : tpR W < lv) (hP : ∀ x, x ∈ P → lv ≤ rkC x) : syS w v b (k', false, P ++ W, out') = .inl (k' + 1, true, jnC (w k') :: W, out' ++ P) := by
  have hk := jn_rk hj
  show syE w k' (P ++ W) out' = _
  unfold syE
  rw [if_neg (by omega), if_neg (by omega), if_neg hj]
  unfold syJ
  rw [hr, if_neg h2, popR_app hW P hP]
theorem sy_join2 {w v : Nat → Nat} {b k' : Nat} {P W out' : List Nat} (hj : ¬ jnC (w k') = 0) (hr : rkC (jnC (w k')) = 2) (hW : tpR W < 2) (hP : ∀ x, x ∈ P → 3 ≤ rkC x) : syS w v b (k', false, P ++ W, out') = .inl (k' + 1, true, jnC (w k') :: W, out' ++ P) := by
  have hk := jn_rk hj
  show syE w k' (P ++ W) out' = _
  unfold syE
  rw [if_neg (by omega), if_neg (by omega), if_neg hj]
  unfold syJ
  rw [hr, if_pos rfl, popR_app (by omega) P hP, if_neg (by show ¬ tpR W = 2; omega)]
theorem tOK_j {lv j : Nat} {W : List Nat} (h0 : 0 < lv) (hr : rkC j = lv) : tOK (lv + 1) (j :: W) := by
  refine ⟨by show rkC j < lv + 1; omega, fun h => ?_⟩
  have h1 : j = 20002 := by
    have : some j = some 20002 := h
    exact Option.some.inj this
  have h2 : rkC 20002 = 0 := by decide
  rw [h1, h2] at hr
  omega
theorem dp_j {j : Nat} {W : List Nat} (hr : 1 ≤ rkC j) : dpW (j :: W) = dpW W := dpW_app [j] W (fun x hx => by rw [List.mem_singleton.mp hx]; exact hr)
theorem MG_j {w v : Nat → Nat} {b lv d k k' k'' : Nat} {E E2 : List Nat} (h0 : 0 < lv) (h : MG w v b lv d k k' E) (hj : ¬ jnC (w k') = 0) (hr : rkC (jnC (w k')) = lv) (h2 : lv ≠ 2) (hs : MG w v b (lv + 1) d (k' + 1) k'' E2) : MG w v b lv d k k'' (E ++ E2 ++ [jnC (w k')]) := by
  intro W out hd ht
  obtain ⟨P, out', a, a2, a3, a4⟩ := h W out hd ht
  obtain ⟨P2, out2, c, c2, c3, c4⟩ := hs (jnC (w k') :: W) (out' ++ P) (by rw [dp_j (by omega)]; exact hd) (tOK_j h0 hr)
  refine ⟨P2 ++ [jnC (w k')], out2, ?_, ?_, fun x hx => ?_, fun h9 h8 => ?_⟩
  · rw [List.append_assoc]
    exact Rch_tr a (Rch_tr (Rch_1 (sy_join hj hr h2 ht.1 a3)) c)
  · rw [← List.append_assoc, c2, a2]
    simp only [List.append_assoc]
  · rcases List.mem_append.mp hx with h9 | h9
    · exact Nat.le_of_succ_le (c3 x h9)
    · rw [List.mem_singleton.mp h9]; omega
  · obtain ⟨Q1, x, Q2, q1, q2, q3⟩ := c4 (by omega) h8
    exact ⟨Q1, x, Q2 ++ [jnC (w k')], by rw [q1]; simp, q2, q3⟩
theorem MG_j2 {w v : Nat → Nat} {b d k k' k'' : Nat} {E E2 : List Nat} (h : MG w v b 3 d k k' E) (hj : ¬ jnC (w k') = 0) (hr : rkC (jnC (w k')) = 2) (hs : MG w v b 3 d (k' + 1) k'' E2) : MG w v b 2 d k k'' (E ++ E2 ++ [jnC (w k')]) := by
  intro W out hd ht
  obtain ⟨P, out', a, a2, a3, a4⟩ := h W out hd ⟨by have := ht.1; omega, ht.2⟩
  obtain ⟨P2, out2, c, c2, c3, c4⟩ := hs (jnC (w k') :: W) (out' ++ P) (by rw [dp_j (by omega)]; exact hd) (tOK_j (by omega) hr)
  refine ⟨P2 ++ [jnC (w k')], out2, ?_, ?_, fun x hx => ?_, fun h9 h8 => ?_⟩
  · rw [List.append_assoc]
    exact Rch_tr a (Rch_tr (Rch_1 (sy_join2 hj hr ht.1 a3)) c)
  · rw [← List.append_assoc, c2, a2]
    simp only [List.append_assoc]
  · rcases List.mem_append.mp hx with h9 | h9
    · exact Nat.le_of_succ_le (c3 x h9)
    · rw [List.mem_singleton.mp h9]; omega
  · exact ⟨P2, jnC (w k'), [], rfl, c3, hr⟩
theorem MB_j {w v : Nat → Nat} {b lv d k k' f kf : Nat} {E : List Nat} (h0 : 0 < lv) (h : MG w v b lv d k k' E) (hj : ¬ jnC (w k') = 0) (hr : rkC (jnC (w k')) = lv) (h2 : lv ≠ 2) (hs : MB w v b (lv + 1) d (k' + 1) f kf) : MB w v b lv d k f kf := by
  intro W out hd ht
  obtain ⟨P, out', a, a2, a3, a4⟩ := h W out hd ht
  exact Rch_F a (Rch_F (Rch_1 (sy_join hj hr h2 ht.1 a3)) (hs (jnC (w k') :: W) (out' ++ P) (by rw [dp_j (by omega)]; exact hd) (tOK_j h0 hr)))
theorem MB_j2 {w v : Nat → Nat} {b d k k' f kf : Nat} {E : List Nat} (h : MG w v b 3 d k k' E) (hj : ¬ jnC (w k') = 0) (hr : rkC (jnC (w k')) = 2) (hs : MB w v b 3 d (k' + 1) f kf) : MB w v b 2 d k f kf := by
  intro W out hd ht
  obtain ⟨P, out', a, a2, a3, a4⟩ := h W out hd ⟨by have := ht.1; omega, ht.2⟩
  exact Rch_F a (Rch_F (Rch_1 (sy_join2 hj hr ht.1 a3)) (hs (jnC (w k') :: W) (out' ++ P) (by rw [dp_j (by omega)]; exact hd) (tOK_j (by omega) hr)))
/-! parts -/
theorem MGp_at {w v : Nat → Nat} {b d k : Nat} (hb : bgP b (w k) = true) (hd5 : d < 5) (h1 : ¬ w k = 22) (h2 : ¬ w k = 30) : MGp w v b d k (k + 1) [atC (w k) (v k)] := by
  intro W out hd
  refine Rch_1 ?_
  show syW w v b k W out = _
  unfold syW
  rw [if_pos hb, if_neg (by omega), if_neg h1, if_neg h2]
theorem sy_not {w v : Nat → Nat} {b k : Nat} {W out : List Nat} (h : w k = 22) (hd : dpW W < 5) : syS w v b (k, true, W, out) = .inl (k + 1, true, 20002 :: W, out) := by
  show syW w v b k W out = _
  unfold syW
  rw [if_pos (by unfold bgP; exact decide_eq_true (Or.inr (Or.inl h))), if_neg (by omega), if_pos h]
theorem sy_open {w v : Nat → Nat} {b k : Nat} {W out : List Nat} (h : w k = 30) (hd : dpW W < 5) : syS w v b (k, true, W, out) = .inl (k + 1, true, 20010 :: W, out) := by
  show syW w v b k W out = _
  unfold syW
  rw [if_pos (by unfold bgP; exact decide_eq_true (Or.inr (Or.inr (Or.inl h)))), if_neg (by omega), if_neg (by omega), if_pos h]
theorem MGp_not {w v : Nat → Nat} {b d k k' : Nat} {E : List Nat} (h : w k = 22) (hd5 : d < 5) (hs : MGp w v b (d + 1) (k + 1) k' E) : MGp w v b d k k' (E ++ [20002]) := by
  intro W out hd
  have h1 := hs (20002 :: W) out (by show 1 + dpW W = _; omega)
  have e : fin k' (20002 :: W) (out ++ E) = fin k' W (out ++ (E ++ [20002])) := by
    show (k', false, (popN W).2, (out ++ E) ++ (20002 :: (popN W).1)) = (k', false, (popN W).2, (out ++ (E ++ [20002])) ++ (popN W).1)
    simp
  rw [e] at h1
  exact Rch_tr (Rch_1 (sy_not h (by omega))) h1
theorem MBp_not {w v : Nat → Nat} {b d k f kf : Nat} (h : w k = 22) (hd5 : d < 5) (hs : MBp w v b (d + 1) (k + 1) f kf) : MBp w v b d k f kf := by
  intro W out hd
  exact Rch_F (Rch_1 (sy_not h (by omega))) (hs (20002 :: W) out (by show 1 + dpW W = _; omega))
theorem tOK_o {W : List Nat} : tOK 1 (20010 :: W) := ⟨by show rkC 20010 < 1; decide, fun h => by have h1 : some 20010 = some 20002 := h; exact absurd (Option.some.inj h1) (by decide)⟩
theorem MGp_br {w v : Nat → Nat} {b d k k' : Nat} {E : List Nat} (h : w k = 30) (hd5 : d < 5) (hs : MG w v b 1 (d + 1) (k + 1) k' E) (hc : w k' = 31) : MGp w v b d k (k' + 1) E := by
  intro W out hd
  obtain ⟨P, out', a, a2, a3, a4⟩ := hs (20010 :: W) out (by show 1 + dpW W = _; omega) tOK_o
  refine Rch_tr (Rch_1 (sy_open h (by omega))) (Rch_tr a (Rch_1 ?_))
  show syE w k' (P ++ 20010 :: W) out' = _
  unfold syE
  have hb : 0 < brW (P ++ 20010 :: W) := by
    rw [brW_app P _ (fun x hx => a3 x hx)]
    show 0 < 1 + brW W
    omega
  rw [if_neg (by omega), if_pos ⟨hc, hb⟩, popR_app (by show rkC 20010 < 1; decide) P a3]
  show Sum.inl (fin (k' + 1) W (out' ++ P)) = _
  rw [a2]
theorem MBp_br {w v : Nat → Nat} {b d k f kf : Nat} (h : w k = 30) (hd5 : d < 5) (hs : MB w v b 1 (d + 1) (k + 1) f kf) : MBp w v b d k f kf := by
  intro W out hd
  exact Rch_F (Rch_1 (sy_open h (by omega))) (hs (20010 :: W) out (by show 1 + dpW W = _; omega) tOK_o)
theorem sy_bad {w v : Nat → Nat} {b k' : Nat} {P W out' : List Nat} (h1 : ¬ (w k' = 32 ∧ brW (P ++ W) = 0)) (h2 : ¬ (w k' = 31 ∧ 0 < brW (P ++ W))) (hj : ¬ jnC (w k') = 0 → w k' = 25 ∨ w k' = 26) (h3 : w k' = 25 ∨ w k' = 26 → has2 P) : syS w v b (k', false, P ++ W, out') = .inr (1, k', out') := by
  show syE w k' (P ++ W) out' = _
  unfold syE
  rw [if_neg h1, if_neg h2]
  by_cases e : jnC (w k') = 0
  · rw [if_pos e]
  · rw [if_neg e]
    have h25 := hj e
    obtain ⟨P1, x, P2, q1, q2, q3⟩ := h3 h25
    have hr : rkC (jnC (w k')) = 2 := by rcases h25 with h9 | h9 <;> rw [h9] <;> decide
    unfold syJ
    rw [hr, if_pos rfl, q1, List.append_assoc, List.cons_append, popR_app (by show rkC x < 3; omega) P1 q2, if_pos (show tpR (x :: (P2 ++ W)) = 2 from q3)]
theorem MBp_br2 {w v : Nat → Nat} {b d k k' : Nat} {E : List Nat} (h : w k = 30) (hd5 : d < 5) (hs : MG w v b 1 (d + 1) (k + 1) k' E) (hc : ¬ w k' = 31) (hj : ¬ jnC (w k') = 0 → w k' = 25 ∨ w k' = 26) : MBp w v b d k 1 k' := by
  intro W out hd
  obtain ⟨P, out', a, a2, a3, a4⟩ := hs (20010 :: W) out (by show 1 + dpW W = _; omega) tOK_o
  have hb : 0 < brW (P ++ 20010 :: W) := by
    rw [brW_app P _ (fun x hx => a3 x hx)]
    show 0 < 1 + brW W
    omega
  exact Rch_F (Rch_1 (sy_open h (by omega))) (Rch_F a (Fls_1 (sy_bad (by omega) (by omega) hj (a4 (by omega)))))
theorem MBp_1 {w v : Nat → Nat} {b d k : Nat} (hb : ¬ bgP b (w k) = true) : MBp w v b d k 1 k := by
  intro W out hd
  refine Fls_1 (out := out) ?_
  show syW w v b k W out = _
  unfold syW
  rw [if_neg hb]
theorem MBp_5 {w v : Nat → Nat} {b k : Nat} (hb : bgP b (w k) = true) : MBp w v b 5 k 5 k := by
  intro W out hd
  refine Fls_1 (out := out) ?_
  show syW w v b k W out = _
  unfold syW
  rw [if_pos hb, if_pos (by omega)]
/-! a whole law -/
theorem sy_good {w v : Nat → Nat} {b k k' : Nat} {E : List Nat} (hs : MG w v b 1 0 k k' E) (hc : w k' = 32) : ∃ n, syR w v b n (k, true, [], []) = .inr (0, k', E) := by
  obtain ⟨P, out', ⟨n, hn⟩, a2, a3, a4⟩ := hs [] [] rfl ⟨by show 0 < 1; omega, fun h => by cases h⟩
  refine ⟨n + 1, ?_⟩
  rw [hn]
  refine syR_r ?_
  show syE w k' (P ++ []) out' = _
  unfold syE
  have hb : brW (P ++ []) = 0 := by rw [brW_app P [] a3]; rfl
  rw [if_pos ⟨hc, hb⟩, popR_app (by show 0 < 1; omega) P a3, show out' ++ P = E from a2]
theorem sy_bad0 {w v : Nat → Nat} {b k k' : Nat} {E : List Nat} (hs : MG w v b 1 0 k k' E) (hc : ¬ w k' = 32) (hj : ¬ jnC (w k') = 0 → w k' = 25 ∨ w k' = 26) : Fls w v b (k, true, [], []) 1 k' := by
  obtain ⟨P, out', a, a2, a3, a4⟩ := hs [] [] rfl ⟨by show 0 < 1; omega, fun h => by cases h⟩
  have hb : brW (P ++ []) = 0 := by rw [brW_app P [] a3]; rfl
  exact Rch_F a (Fls_1 (sy_bad (by omega) (by omega) hj (a4 (by omega))))
