/-! sets of carriers: bits -/
def ck2 (p : Nat → Nat → Bool) : Bool := (List.range 64).all fun s => (List.range 64).all fun t => p s t
def ck3 (p : Nat → Nat → Nat → Bool) : Bool := (List.range 64).all fun s => (List.range 64).all fun t => (List.range 6).all fun c => p s t c
theorem ck2_ok {p : Nat → Nat → Bool} (h : ck2 p = true) {s t : Nat} (hs : s < 64) (ht : t < 64) : p s t = true :=
  List.all_eq_true.mp (List.all_eq_true.mp h s (List.mem_range.mpr hs)) t (List.mem_range.mpr ht)
theorem ck3_ok {p : Nat → Nat → Nat → Bool} (h : ck3 p = true) {s t c : Nat} (hs : s < 64) (ht : t < 64) (hc : c < 6) : p s t c = true :=
  List.all_eq_true.mp (List.all_eq_true.mp (List.all_eq_true.mp h s (List.mem_range.mpr hs)) t (List.mem_range.mpr ht)) c (List.mem_range.mpr hc)
theorem sb_sum {s t c : Nat} (hs : s < 64) (ht : t < 64) (hc : c < 6) (h : t &&& s = t) : s / 2 ^ c % 2 = t / 2 ^ c % 2 + (s ^^^ t) / 2 ^ c % 2 :=
  of_decide_eq_true (ck3_ok (p := fun s t c => decide (t &&& s = t → s / 2 ^ c % 2 = t / 2 ^ c % 2 + (s ^^^ t) / 2 ^ c % 2)) (by decide +kernel) hs ht hc) h
theorem sb_x {s t : Nat} (hs : s < 64) (ht : t < 64) (h : t &&& s = t) : s ^^^ t < 64 ∧ (s ^^^ t) &&& s = s ^^^ t ∧ s ^^^ (s ^^^ t) = t ∧ (¬ t = 0 → s ^^^ t < s) ∧ (¬ t = s → ¬ s ^^^ t = 0) :=
  of_decide_eq_true (ck2_ok (p := fun s t => decide (t &&& s = t → (s ^^^ t < 64 ∧ (s ^^^ t) &&& s = s ^^^ t ∧ s ^^^ (s ^^^ t) = t ∧ (¬ t = 0 → s ^^^ t < s) ∧ (¬ t = s → ¬ s ^^^ t = 0)))) (by decide +kernel) hs ht) h
theorem sb_bit {s c : Nat} (hs : s < 64) (hc : c < 6) (h : s / 2 ^ c % 2 = 1) : 2 ^ c &&& s = 2 ^ c ∧ s ^^^ 2 ^ c < s ∧ 2 ^ c < 64 := by
  have H : ∀ s, s < 64 → ∀ c, c < 6 → s / 2 ^ c % 2 = 1 → 2 ^ c &&& s = 2 ^ c ∧ s ^^^ 2 ^ c < s ∧ 2 ^ c < 64 := by decide +kernel
  exact H s hs c hc h
theorem sb_pick {s t : Nat} (hs : s < 64) (ht : t < 64) (h : t &&& s = t) (hne : ¬ t = s) : ∃ c, c < 6 ∧ s / 2 ^ c % 2 = 1 ∧ t / 2 ^ c % 2 = 0 ∧ t &&& (s ^^^ 2 ^ c) = t :=
  of_decide_eq_true (ck2_ok (p := fun s t => decide (t &&& s = t ∧ ¬ t = s → ∃ c, c < 6 ∧ (s / 2 ^ c % 2 = 1 ∧ t / 2 ^ c % 2 = 0 ∧ t &&& (s ^^^ 2 ^ c) = t))) (by decide +kernel) hs ht) ⟨h, hne⟩
theorem sb_some {t : Nat} (ht : t < 64) (h : ¬ t = 0) : ∃ c, c < 6 ∧ t / 2 ^ c % 2 = 1 := by
  have H : ∀ t, t < 64 → ¬ t = 0 → ∃ c, c < 6 ∧ t / 2 ^ c % 2 = 1 := by decide +kernel
  exact H t ht h
theorem sb_in {s t c : Nat} (hs : s < 64) (ht : t < 64) (hc : c < 6) (h : t &&& s = t) (hb : t / 2 ^ c % 2 = 1) : s / 2 ^ c % 2 = 1 ∧ (s ^^^ t) &&& (s ^^^ 2 ^ c) = s ^^^ t :=
  of_decide_eq_true (ck3_ok (p := fun s t c => decide (t &&& s = t ∧ t / 2 ^ c % 2 = 1 → s / 2 ^ c % 2 = 1 ∧ (s ^^^ t) &&& (s ^^^ 2 ^ c) = s ^^^ t)) (by decide +kernel) hs ht hc) ⟨h, hb⟩
theorem sb_tr {s t c : Nat} (hs : s < 64) (ht : t < 64) (hc : c < 6) (hb : s / 2 ^ c % 2 = 1) (h : t &&& (s ^^^ 2 ^ c) = t) : t &&& s = t ∧ ¬ t = s :=
  of_decide_eq_true (ck3_ok (p := fun s t c => decide (s / 2 ^ c % 2 = 1 ∧ t &&& (s ^^^ 2 ^ c) = t → t &&& s = t ∧ ¬ t = s)) (by decide +kernel) hs ht hc) ⟨hb, h⟩
theorem pow64 {n : Nat} (hn : n ≤ 6) : 2 ^ n ≤ 64 := by
  have := Nat.pow_le_pow_right (show 1 ≤ 2 by omega) hn
  simpa using this
theorem sb_lt {s c n : Nat} (hn : n ≤ 6) (hs : s < 2 ^ n) (hc : c < 6) (hb : s / 2 ^ c % 2 = 1) : c < n := by
  have h64 := pow64 hn
  exact of_decide_eq_true (ck3_ok (p := fun s n c => decide (s < 2 ^ n ∧ s / 2 ^ c % 2 = 1 → c < n)) (by decide +kernel) (show s < 64 by omega) (show n < 64 by omega) hc) ⟨hs, hb⟩
theorem sb_all {s n : Nat} (hn : n ≤ 6) (hs : s < 2 ^ n) : s &&& (2 ^ n - 1) = s ∧ s < 64 ∧ 2 ^ n - 1 < 64 ∧ 2 ^ n ≤ 64 ∧ 1 ≤ 2 ^ n := by
  have h64 := pow64 hn
  have h1 := of_decide_eq_true (ck2_ok (p := fun s n => decide (n ≤ 6 ∧ s < 2 ^ n → s &&& (2 ^ n - 1) = s)) (by decide +kernel) (show s < 64 by omega) (show n < 64 by omega)) ⟨hn, hs⟩
  exact ⟨h1, by omega, by omega, by omega, by omega⟩
/-- the sum of a set -/
def sm (b : Nat → Int32) (s : Nat) : Nat → Int32
  | 0 => 0
  | k + 1 => if s / 2 ^ k % 2 = 1 then sm b s k + b k else sm b s k
theorem sm_add {b : Nat → Int32} {s t : Nat} (hs : s < 64) (ht : t < 64) (h : t &&& s = t) : ∀ k, k ≤ 6 → sm b s k = sm b t k + sm b (s ^^^ t) k
  | 0, _ => by unfold sm; decide
  | k + 1, hk => by
    have ih := sm_add (b := b) hs ht h k (by omega)
    have e := sb_sum hs ht (show k < 6 by omega) h
    unfold sm
    have h2 : t / 2 ^ k % 2 = 0 ∨ t / 2 ^ k % 2 = 1 := by omega
    rcases h2 with e1 | e1
    · rw [e1] at e ⊢
      by_cases e2 : (s ^^^ t) / 2 ^ k % 2 = 1
      · rw [e2] at e
        rw [if_pos (show s / 2 ^ k % 2 = 1 by omega), if_neg (by omega), if_pos e2, ih, Int32.add_assoc]
      · rw [if_neg (show ¬ s / 2 ^ k % 2 = 1 by omega), if_neg (by omega), if_neg e2, ih]
    · rw [e1] at e ⊢
      have e3 : (s ^^^ t) / 2 ^ k % 2 = 0 := by omega
      rw [if_pos (show s / 2 ^ k % 2 = 1 by omega), if_pos rfl, if_neg (by omega), ih, Int32.add_assoc, Int32.add_comm (sm b (s ^^^ t) k) (b k), Int32.add_assoc]
theorem sm_0 (b : Nat → Int32) : ∀ k, sm b 0 k = 0
  | 0 => rfl
  | k + 1 => by
    unfold sm
    rw [if_neg (by rw [Nat.zero_div]; decide)]
    exact sm_0 b k
theorem sm_one {b : Nat → Int32} {c : Nat} (hc : c < 6) : ∀ k, k ≤ 6 → sm b (2 ^ c) k = if c < k then b c else 0
  | 0, _ => by unfold sm; rw [if_neg (by omega)]
  | k + 1, hk => by
    have H : ∀ c, c < 6 → ∀ k, k < 6 → (2 ^ c / 2 ^ k % 2 = 1 ↔ k = c) := by decide
    unfold sm
    rw [sm_one hc k (by omega)]
    by_cases e : k = c
    · rw [if_pos ((H c hc k (by omega)).mpr e), if_neg (by omega), if_pos (by omega), e, Int32.zero_add]
    · rw [if_neg (fun h => e ((H c hc k (by omega)).mp h))]
      by_cases e2 : c < k
      · rw [if_pos e2, if_pos (by omega)]
      · rw [if_neg e2, if_neg (by omega)]
theorem sm_bit {b : Nat → Int32} {s c n : Nat} (hn : n ≤ 6) (hs : s < 64) (hc : c < n) (hb : s / 2 ^ c % 2 = 1) : sm b (s ^^^ 2 ^ c) n + b c = sm b s n := by
  obtain ⟨h1, h2, h3⟩ := sb_bit hs (by omega) hb
  rw [sm_add hs h3 h1 n hn, sm_one (by omega) n hn, if_pos hc, Int32.add_comm]
/-- the most groups, by tables -/
def mxg (g : Nat → Nat) (s : Nat) : Nat → Nat
  | 0 => 0
  | c + 1 => if s / 2 ^ c % 2 = 1 then max (mxg g s c) (g (s ^^^ 2 ^ c)) else mxg g s c
def grV (b : Nat → Int32) (n : Nat) (g : Nat → Nat) (s : Nat) : Nat := if sm b s n = 0 then mxg g s n + 1 else mxg g s n
def grT (b : Nat → Int32) (n : Nat) : Nat → Nat → Nat
  | 0 => fun _ => 0
  | k + 1 => updN (grT b n k) (k + 1) (grV b n (grT b n k) (k + 1))
def gr (b : Nat → Int32) (n s : Nat) : Nat := grT b n s s
theorem grT_st (b : Nat → Int32) (n : Nat) : ∀ k s, s ≤ k → grT b n k s = gr b n s
  | 0, s, h => by
    have : s = 0 := by omega
    rw [this]; rfl
  | k + 1, s, h => by
    by_cases e : s = k + 1
    · rw [e]; rfl
    · have e2 : grT b n (k + 1) s = grT b n k s := if_neg e
      rw [e2]
      exact grT_st b n k s (by omega)
theorem mxg_congr {g g' : Nat → Nat} {s : Nat} : ∀ n, (∀ c, c < n → s / 2 ^ c % 2 = 1 → g (s ^^^ 2 ^ c) = g' (s ^^^ 2 ^ c)) → mxg g s n = mxg g' s n
  | 0, _ => rfl
  | n + 1, h => by
    unfold mxg
    rw [mxg_congr n (fun c hc hb => h c (by omega) hb)]
    by_cases hb : s / 2 ^ n % 2 = 1
    · rw [if_pos hb, if_pos hb, h n (by omega) hb]
    · rw [if_neg hb, if_neg hb]
theorem gr_eq {b : Nat → Int32} {n s : Nat} (hn : n ≤ 6) (hs : s < 64) (h0 : ¬ s = 0) : gr b n s = grV b n (gr b n) s := by
  obtain ⟨k, rfl⟩ : ∃ k, s = k + 1 := ⟨s - 1, by omega⟩
  have e : gr b n (k + 1) = grV b n (grT b n k) (k + 1) := by
    show grT b n (k + 1) (k + 1) = _
    exact if_pos rfl
  rw [e]
  unfold grV
  have : mxg (grT b n k) (k + 1) n = mxg (gr b n) (k + 1) n := mxg_congr n (fun c hc hb => grT_st b n k _ (by have := (sb_bit hs (show c < 6 by omega) hb).2.1; omega))
  rw [this]
theorem mxg_ge {g : Nat → Nat} {s c : Nat} : ∀ n, c < n → s / 2 ^ c % 2 = 1 → g (s ^^^ 2 ^ c) ≤ mxg g s n
  | n + 1, hc, hb => by
    unfold mxg
    by_cases e : c = n
    · rw [e] at hb ⊢
      rw [if_pos hb]
      exact Nat.le_max_right _ _
    · have := mxg_ge (g := g) n (show c < n by omega) hb
      split
      · exact Nat.le_trans this (Nat.le_max_left _ _)
      · exact this
theorem mxg_at {g : Nat → Nat} {s : Nat} : ∀ n, (∃ c, c < n ∧ s / 2 ^ c % 2 = 1) → ∃ c, c < n ∧ s / 2 ^ c % 2 = 1 ∧ mxg g s n = g (s ^^^ 2 ^ c)
  | 0, ⟨c, h, _⟩ => absurd h (Nat.not_lt_zero _)
  | n + 1, ⟨c, hc, hb⟩ => by
    unfold mxg
    by_cases hn : s / 2 ^ n % 2 = 1
    · rw [if_pos hn]
      by_cases hle : mxg g s n ≤ g (s ^^^ 2 ^ n)
      · exact ⟨n, by omega, hn, Nat.max_eq_right hle⟩
      · by_cases hex : ∃ c, c < n ∧ s / 2 ^ c % 2 = 1
        · obtain ⟨c', h1, h2, h3⟩ := mxg_at (g := g) n hex
          exact ⟨c', by omega, h2, by rw [Nat.max_eq_left (by omega)]; exact h3⟩
        · exfalso
          have : mxg g s n = 0 := by
            have : ∀ m, m ≤ n → mxg g s m = 0 := by
              intro m
              induction m with
              | zero => intro _; rfl
              | succ m ih =>
                intro hm
                unfold mxg
                rw [if_neg (fun h => hex ⟨m, by omega, h⟩)]
                exact ih (by omega)
            exact this n (Nat.le_refl _)
          omega
    · rw [if_neg hn]
      have hcn : c ≠ n := fun e => hn (e ▸ hb)
      obtain ⟨c', h1, h2, h3⟩ := mxg_at (g := g) n ⟨c, by omega, hb⟩
      exact ⟨c', by omega, h2, h3⟩
theorem gr_mon {b : Nat → Int32} {n : Nat} (hn : n ≤ 6) : ∀ s, s < 2 ^ n → ∀ t, t &&& s = t → t ≤ s → gr b n t ≤ gr b n s := by
  intro s
  induction s using Nat.strongRecOn with
  | ind s ih =>
    intro hs t hts hle
    obtain ⟨-, h64, -⟩ := sb_all hn hs
    by_cases e : t = s
    · rw [e]; exact Nat.le_refl _
    · obtain ⟨c, hc, hb, hb0, h⟩ := sb_pick h64 (by omega) hts e
      have hcn := sb_lt hn hs hc hb
      obtain ⟨q1, q2, q3⟩ := sb_bit h64 hc hb
      have h1 : gr b n t ≤ gr b n (s ^^^ 2 ^ c) := by
        refine ih _ q2 (by omega) t h ?_
        have : t &&& (s ^^^ 2 ^ c) ≤ s ^^^ 2 ^ c := Nat.and_le_right
        omega
      have h2 := mxg_ge (g := gr b n) n hcn hb
      rw [gr_eq hn h64 (by omega)]
      unfold grV
      split <;> omega
/-- the reference's parts: 0: none, else the number + 1; by tables -/
def fsS (b : Nat → Int32) (n : Nat) (g : Nat → Nat) (s sub acc : Nat) : Nat := if sm b sub n = 0 ∧ ¬ g (s ^^^ sub) = 0 ∧ acc < g (s ^^^ sub) + 1 then g (s ^^^ sub) + 1 else acc
def fs (b : Nat → Int32) (n : Nat) (g : Nat → Nat) (s : Nat) : Nat → Nat → Nat → Nat
  | 0, _, acc => acc
  | f + 1, sub, acc => if sub = 0 then acc else fs b n g s f ((sub - 1) &&& s) (fsS b n g s sub acc)
def ptT (b : Nat → Int32) (n : Nat) : Nat → Nat → Nat
  | 0 => fun _ => 1
  | k + 1 => updN (ptT b n k) (k + 1) (fs b n (ptT b n k) (k + 1) 64 (k + 1) 0)
def pt (b : Nat → Int32) (n s : Nat) : Nat := ptT b n s s
def sbl (s : Nat) : Nat → Nat → List Nat
  | 0, _ => []
  | f + 1, sub => if sub = 0 then [] else sub :: sbl s f ((sub - 1) &&& s)
theorem sbl_ok {s : Nat} (hs : s < 64) : (∀ t, t < 64 → ¬ t = 0 → t &&& s = t → t ∈ sbl s 64 s) ∧ (∀ t, t ∈ sbl s 64 s → t < 64 ∧ ¬ t = 0 ∧ t &&& s = t) := by
  refine ⟨fun t ht h0 h => ?_, fun t ht => ?_⟩
  · have := of_decide_eq_true (ck2_ok (p := fun s t => decide (¬ t = 0 ∧ t &&& s = t → (sbl s 64 s).contains t = true)) (by decide +kernel) hs ht) ⟨h0, h⟩
    exact List.contains_iff_mem.mp this
  · have H : ((List.range 64).all fun s => (sbl s 64 s).all fun t => decide (t < 64 ∧ ¬ t = 0 ∧ t &&& s = t)) = true := by decide +kernel
    exact of_decide_eq_true (List.all_eq_true.mp (List.all_eq_true.mp H s (List.mem_range.mpr hs)) t ht)
theorem fs_le {b : Nat → Int32} {n : Nat} {g : Nat → Nat} {s M : Nat} : ∀ f sub acc, acc ≤ M → (∀ t, t ∈ sbl s f sub → sm b t n = 0 → ¬ g (s ^^^ t) = 0 → g (s ^^^ t) + 1 ≤ M) → fs b n g s f sub acc ≤ M
  | 0, _, _, h, _ => h
  | f + 1, sub, acc, h, hM => by
    unfold fs
    by_cases e : sub = 0
    · rw [if_pos e]; exact h
    · rw [if_neg e]
      have es : sbl s (f + 1) sub = sub :: sbl s f ((sub - 1) &&& s) := by rw [sbl, if_neg e]
      rw [es] at hM
      refine fs_le f _ _ ?_ (fun t ht => hM t (List.mem_cons_of_mem _ ht))
      unfold fsS
      split
      · rename_i hc
        exact hM sub List.mem_cons_self hc.1 hc.2.1
      · exact h
theorem fs_acc {b : Nat → Int32} {n : Nat} {g : Nat → Nat} {s : Nat} : ∀ f sub acc, acc ≤ fs b n g s f sub acc
  | 0, _, _ => Nat.le_refl _
  | f + 1, sub, acc => by
    unfold fs
    split
    · exact Nat.le_refl _
    · refine Nat.le_trans ?_ (fs_acc f _ _)
      unfold fsS
      split
      · rename_i hc; omega
      · exact Nat.le_refl _
theorem fs_ge {b : Nat → Int32} {n : Nat} {g : Nat → Nat} {s t : Nat} (h1 : sm b t n = 0) (h2 : ¬ g (s ^^^ t) = 0) : ∀ f sub acc, t ∈ sbl s f sub → g (s ^^^ t) + 1 ≤ fs b n g s f sub acc
  | 0, _, _, h => absurd h (List.not_mem_nil)
  | f + 1, sub, acc, h => by
    unfold fs
    by_cases e : sub = 0
    · have es : sbl s (f + 1) sub = [] := by rw [sbl, if_pos e]
      rw [es] at h
      exact absurd h (List.not_mem_nil)
    · rw [if_neg e]
      have es : sbl s (f + 1) sub = sub :: sbl s f ((sub - 1) &&& s) := by rw [sbl, if_neg e]
      rw [es] at h
      rcases List.mem_cons.mp h with e2 | h'
      · rw [e2] at h1 h2 ⊢
        refine Nat.le_trans ?_ (fs_acc f _ _)
        unfold fsS
        split
        · exact Nat.le_refl _
        · rename_i hc
          have : ¬ acc < g (s ^^^ sub) + 1 := fun h9 => hc ⟨h1, h2, h9⟩
          omega
      · exact fs_ge h1 h2 f _ _ h'
theorem fs_at {b : Nat → Int32} {n : Nat} {g : Nat → Nat} {s : Nat} : ∀ f sub acc, ¬ fs b n g s f sub acc = acc → ∃ t, t ∈ sbl s f sub ∧ sm b t n = 0 ∧ ¬ g (s ^^^ t) = 0 ∧ fs b n g s f sub acc = g (s ^^^ t) + 1
  | 0, _, _, h => absurd rfl h
  | f + 1, sub, acc, h => by
    by_cases e : sub = 0
    · exfalso
      apply h
      unfold fs
      rw [if_pos e]
    · have es : sbl s (f + 1) sub = sub :: sbl s f ((sub - 1) &&& s) := by rw [sbl, if_neg e]
      have ef : fs b n g s (f + 1) sub acc = fs b n g s f ((sub - 1) &&& s) (fsS b n g s sub acc) := by
        rw [fs, if_neg e]
      rw [ef] at h ⊢
      rw [es]
      by_cases h2 : fs b n g s f ((sub - 1) &&& s) (fsS b n g s sub acc) = fsS b n g s sub acc
      · rw [h2] at h ⊢
        unfold fsS at h ⊢
        by_cases hc : sm b sub n = 0 ∧ ¬ g (s ^^^ sub) = 0 ∧ acc < g (s ^^^ sub) + 1
        · rw [if_pos hc]
          exact ⟨sub, List.mem_cons_self, hc.1, hc.2.1, rfl⟩
        · rw [if_neg hc] at h
          exact absurd rfl h
      · obtain ⟨t, a1, a2, a3, a4⟩ := fs_at f _ _ h2
        exact ⟨t, List.mem_cons_of_mem _ a1, a2, a3, a4⟩
theorem ptT_st (b : Nat → Int32) (n : Nat) : ∀ k s, s ≤ k → ptT b n k s = pt b n s
  | 0, s, h => by
    have : s = 0 := by omega
    rw [this]; rfl
  | k + 1, s, h => by
    by_cases e : s = k + 1
    · rw [e]; rfl
    · have e2 : ptT b n (k + 1) s = ptT b n k s := if_neg e
      rw [e2]
      exact ptT_st b n k s (by omega)
theorem pt_eq {b : Nat → Int32} {n s : Nat} (h0 : ¬ s = 0) : pt b n s = fs b n (ptT b n (s - 1)) s 64 s 0 := by
  obtain ⟨k, rfl⟩ : ∃ k, s = k + 1 := ⟨s - 1, by omega⟩
  show ptT b n (k + 1) (k + 1) = _
  exact if_pos rfl
theorem pt_up {b : Nat → Int32} {n : Nat} (hn : n ≤ 6) : ∀ s, s < 2 ^ n → ¬ pt b n s = 0 → sm b s n = 0 ∧ pt b n s ≤ gr b n s + 1 := by
  intro s
  induction s using Nat.strongRecOn with
  | ind s ih =>
    intro hs hp
    obtain ⟨-, h64, -⟩ := sb_all hn hs
    by_cases h0 : s = 0
    · rw [h0]; exact ⟨sm_0 b n, Nat.le_refl _⟩
    · rw [pt_eq h0] at hp ⊢
      obtain ⟨t, a1, a2, a3, a4⟩ := fs_at 64 s 0 hp
      obtain ⟨t1, t2, t3⟩ := (sbl_ok h64).2 t a1
      obtain ⟨x1, x2, x3, x4, x5⟩ := sb_x h64 t1 t3
      have hlt := x4 t2
      rw [ptT_st b n (s - 1) _ (by omega)] at a3 a4
      obtain ⟨i1, i2⟩ := ih (s ^^^ t) hlt (by omega) a3
      have hsum : sm b s n = 0 := by
        rw [sm_add h64 t1 t3 n hn, a2, i1]; decide
      refine ⟨hsum, ?_⟩
      rw [a4]
      obtain ⟨c, hc, hb⟩ := sb_some t1 t2
      obtain ⟨c1, c2⟩ := sb_in h64 t1 hc t3 hb
      have hcn := sb_lt hn hs hc c1
      obtain ⟨q1, q2, q3⟩ := sb_bit h64 hc c1
      have hm : gr b n (s ^^^ t) ≤ gr b n (s ^^^ 2 ^ c) := gr_mon hn _ (by omega) _ c2 (by
        have : (s ^^^ t) &&& (s ^^^ 2 ^ c) ≤ s ^^^ 2 ^ c := Nat.and_le_right
        omega)
      have h2 := mxg_ge (g := gr b n) n hcn c1
      rw [gr_eq hn h64 h0]
      unfold grV
      rw [if_pos hsum]
      omega
theorem pt_low {b : Nat → Int32} {n : Nat} (hn : n ≤ 6) : ∀ s, s < 2 ^ n → ∃ t, t &&& s = t ∧ t ≤ s ∧ ¬ pt b n t = 0 ∧ gr b n s + 1 ≤ pt b n t := by
  intro s
  induction s using Nat.strongRecOn with
  | ind s ih =>
    intro hs
    obtain ⟨-, h64, -⟩ := sb_all hn hs
    by_cases h0 : s = 0
    · exact ⟨0, by rw [Nat.zero_and], Nat.zero_le _, (show ¬ (1 : Nat) = 0 by decide), by rw [h0]; exact (show 0 + 1 ≤ 1 by decide)⟩
    · obtain ⟨c0, hc0, hb0⟩ := sb_some h64 h0
      obtain ⟨c, hc, hb, hmx⟩ := mxg_at (g := gr b n) n ⟨c0, sb_lt hn hs hc0 hb0, hb0⟩
      obtain ⟨q1, q2, q3⟩ := sb_bit h64 (show c < 6 by omega) hb
      obtain ⟨t, t1, t2, t3, t4⟩ := ih (s ^^^ 2 ^ c) q2 (by omega)
      obtain ⟨u1, u2⟩ := sb_tr h64 (show t < 64 by omega) (show c < 6 by omega) hb t1
      have eg := gr_eq (b := b) hn h64 h0
      unfold grV at eg
      rw [hmx] at eg
      by_cases hz : sm b s n = 0
      · rw [if_pos hz] at eg
        obtain ⟨p1, -⟩ := pt_up hn t (by omega) t3
        obtain ⟨x1, x2, x3, x4, x5⟩ := sb_x h64 (show t < 64 by omega) u1
        have hsub : sm b (s ^^^ t) n = 0 := by
          have := sm_add (b := b) h64 (show t < 64 by omega) u1 n hn
          rw [hz, p1, Int32.zero_add] at this
          exact this.symm
        have hmem := (sbl_ok h64).1 (s ^^^ t) x1 (x5 u2) x2
        have hge := fs_ge (b := b) (n := n) (g := ptT b n (s - 1)) (s := s) (t := s ^^^ t) hsub (by rw [x3, ptT_st b n (s - 1) t (by omega)]; exact t3) 64 s 0 hmem
        rw [x3, ptT_st b n (s - 1) t (by omega), ← pt_eq h0] at hge
        exact ⟨s, Nat.and_self s, Nat.le_refl _, by omega, by omega⟩
      · rw [if_neg hz] at eg
        exact ⟨t, u1, by omega, t3, by omega⟩
/-- the most of the parts -/
def mst (b : Nat → Int32) (n : Nat) : Nat → Nat
  | 0 => 0
  | k + 1 => max (mst b n k) (pt b n k - 1)
theorem mst_le {b : Nat → Int32} {n M : Nat} : ∀ k, (∀ s, s < k → pt b n s - 1 ≤ M) → mst b n k ≤ M
  | 0, _ => Nat.zero_le _
  | k + 1, h => Nat.max_le.mpr ⟨mst_le k (fun s hs => h s (by omega)), h k (by omega)⟩
theorem mst_ge {b : Nat → Int32} {n s : Nat} : ∀ k, s < k → pt b n s - 1 ≤ mst b n k
  | k + 1, h => by
    unfold mst
    by_cases e : s = k
    · rw [e]; exact Nat.le_max_right _ _
    · exact Nat.le_trans (mst_ge k (by omega)) (Nat.le_max_left _ _)
theorem mst_gr {b : Nat → Int32} {n : Nat} (hn : n ≤ 6) : mst b n (2 ^ n) = gr b n (2 ^ n - 1) := by
  have h1 : 1 ≤ 2 ^ n := (sb_all hn (Nat.two_pow_pos n)).2.2.2.2
  apply Nat.le_antisymm
  · refine mst_le _ (fun s hs => ?_)
    obtain ⟨a1, a2, a3, a4, a5⟩ := sb_all hn hs
    by_cases hp : pt b n s = 0
    · rw [hp]; exact Nat.zero_le _
    · have h2 := (pt_up (b := b) hn s hs hp).2
      have h3 := gr_mon (b := b) hn (2 ^ n - 1) (by omega) s a1 (by omega)
      omega
  · obtain ⟨t, t1, t2, t3, t4⟩ := pt_low (b := b) hn (2 ^ n - 1) (by omega)
    have := mst_ge (b := b) (n := n) (s := t) (2 ^ n) (by omega)
    omega
