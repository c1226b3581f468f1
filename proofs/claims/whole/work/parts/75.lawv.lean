/-! laws and their values: a law is a row of codes: below 10000 a number, 10000 + k the fact k, 20000 + j the sign j of the class -/
def cX (c : Nat) : Int32 := if c < 20000 then I c else - I (c - 20000)
def mOp (c : Nat) : Nat := if c < 10000 then 1 else if c < 20000 then 2 else if c = 20002 then 3 else if c = 20003 then 6 else if c = 20004 then 4 else if c = 20005 then 5 else c - 19999
def jn (c : Nat) (a b : Int32) : Int32 := if c = 20003 then a * b else if c = 20004 then a + b else if c = 20005 then a - b else if c = 20006 then (if a < b then 1 else 0) else if c = 20007 then (if a = b then 1 else 0) else if c = 20008 then (if a = 0 then 0 else if b = 0 then 0 else 1) else (if a = 0 then (if b = 0 then 0 else 1) else 1)
def lvR (fx : Nat → Int32) : List Nat → Nat → (Nat → Int32) → Int32
  | [], _, f => f 0
  | c :: L, h, f => if c < 10000 then lvR fx L (h + 1) (upd f h (I c)) else if c < 20000 then lvR fx L (h + 1) (upd f h (fx (c - 10000))) else if c = 20002 then lvR fx L h (upd f (h - 1) (if f (h - 1) = 0 then 1 else 0)) else lvR fx L (h - 1) (upd f (h - 2) (jn c (f (h - 2)) (f (h - 1))))
/-- the height of the pile is right all along; facts from lo on and below hi -/
def hOK (lo hi : Nat) : List Nat → Nat → Prop
  | [], h => h = 1
  | c :: L, h => ((c < 10000 ∨ (10000 + lo ≤ c ∧ c < 10000 + hi)) ∧ h < 64 ∧ hOK lo hi L (h + 1)) ∨ (c = 20002 ∧ 1 ≤ h ∧ h ≤ 64 ∧ hOK lo hi L h) ∨ ((20003 ≤ c ∧ c ≤ 20009) ∧ 2 ≤ h ∧ h ≤ 64 ∧ hOK lo hi L (h - 1))
theorem lvR_num (fx : Nat → Int32) {c : Nat} (L : List Nat) (h : Nat) (f : Nat → Int32) (h1 : c < 10000) : lvR fx (c :: L) h f = lvR fx L (h + 1) (upd f h (I c)) := by
  rw [lvR, if_pos h1]
theorem lvR_fact (fx : Nat → Int32) {c : Nat} (L : List Nat) (h : Nat) (f : Nat → Int32) (h1 : ¬ c < 10000) (h2 : c < 20000) : lvR fx (c :: L) h f = lvR fx L (h + 1) (upd f h (fx (c - 10000))) := by
  rw [lvR, if_neg h1, if_pos h2]
theorem lvR_not (fx : Nat → Int32) (L : List Nat) (h : Nat) (f : Nat → Int32) : lvR fx (20002 :: L) h f = lvR fx L h (upd f (h - 1) (if f (h - 1) = 0 then 1 else 0)) := by
  rw [lvR, if_neg (show ¬ (20002 : Nat) < 10000 by decide), if_neg (show ¬ (20002 : Nat) < 20000 by decide), if_pos (show (20002 : Nat) = 20002 from rfl)]
theorem lvR_op (fx : Nat → Int32) {c : Nat} (L : List Nat) (h : Nat) (f : Nat → Int32) (h1 : 20003 ≤ c) : lvR fx (c :: L) h f = lvR fx L (h - 1) (upd f (h - 2) (jn c (f (h - 2)) (f (h - 1)))) := by
  rw [lvR, if_neg (show ¬ c < 10000 by omega), if_neg (show ¬ c < 20000 by omega), if_neg (show ¬ c = 20002 by omega)]
theorem upd_congr {f g : Nat → Int32} {h k n : Nat} {v w : Int32} (hv : v = w) (he : ∀ i, i < h → f i = g i) (hn : n ≤ h + 1) (hk : n ≤ h ∨ k = h) : ∀ i, i < n → upd f k v i = upd g k w i := by
  intro i hi
  unfold upd
  by_cases e : i = k
  · rw [if_pos e, if_pos e, hv]
  · rw [if_neg e, if_neg e]; exact he i (by omega)
theorem lvR_congr {lo hi : Nat} {fx gx : Nat → Int32} (hhi : hi ≤ 7) (hf : ∀ k, lo ≤ k → k < hi → fx k = gx k) : ∀ (L : List Nat) (h : Nat) (f g : Nat → Int32), hOK lo hi L h → (∀ i, i < h → f i = g i) → lvR fx L h f = lvR gx L h g := by
  intro L
  induction L with
  | nil =>
    intro h f g hk he
    have : h = 1 := hk
    exact he 0 (by omega)
  | cons c L ih =>
    intro h f g hk he
    rcases hk with ⟨hc, h1, h2⟩ | ⟨hc, h1, h3, h2⟩ | ⟨hc, h1, h3, h2⟩
    · by_cases c1 : c < 10000
      · rw [lvR_num _ _ _ _ c1, lvR_num _ _ _ _ c1]
        exact ih _ _ _ h2 (upd_congr rfl he (Nat.le_refl _) (Or.inr rfl))
      · rw [lvR_fact _ _ _ _ c1 (by omega), lvR_fact _ _ _ _ c1 (by omega)]
        exact ih _ _ _ h2 (upd_congr (hf _ (by omega) (by omega)) he (Nat.le_refl _) (Or.inr rfl))
    · subst hc
      rw [lvR_not, lvR_not, he (h - 1) (by omega)]
      exact ih _ _ _ h2 (upd_congr rfl he (by omega) (Or.inl (by omega)))
    · rw [lvR_op _ _ _ _ hc.1, lvR_op _ _ _ _ hc.1, he (h - 1) (by omega), he (h - 2) (by omega)]
      exact ih _ _ _ h2 (upd_congr rfl he (by omega) (Or.inl (by omega)))
theorem cX_lo {c : Nat} (h : c < 20000) : cX c = I c := if_pos h
theorem sign_cases {c : Nat} (h : 20003 ≤ c ∧ c ≤ 20009) : c = 20003 ∨ c = 20004 ∨ c = 20005 ∨ c = 20006 ∨ c = 20007 ∨ c = 20008 ∨ c = 20009 := by omega
theorem eX_joined {c : Nat} (hc : 20003 ≤ c ∧ c ≤ 20009) (a b : Int32) (σ : St) : rX_joined (cX c) a b σ = some (jn c a b, σ) := by
  unfold rX_joined rX_joined_86 rX_joined_87 rX_joined_73 rX_joined_62 rX_joined_96 rX_joined_101
  simp only [brc_e]
  rcases sign_cases hc with rfl | rfl | rfl | rfl | rfl | rfl | rfl
  · rw [if_neg (by decide), if_neg (by decide), if_neg (by decide), if_neg (by decide), if_neg (by decide), if_pos (by decide)]; rfl
  · rw [if_neg (by decide), if_neg (by decide), if_neg (by decide), if_neg (by decide), if_pos (by decide)]; rfl
  · rw [if_neg (by decide), if_neg (by decide), if_neg (by decide), if_pos (by decide)]; rfl
  · rw [if_neg (by decide), if_neg (by decide), if_pos (by decide)]
    show _ = some ((if a < b then 1 else 0), σ)
    by_cases h : a < b
    · rw [if_neg (not_le32.mpr h), if_pos h]
    · rw [if_pos (not_lt32.mp h), if_neg h]
  · rw [if_neg (by decide), if_pos (by decide)]
    show _ = some ((if a = b then 1 else 0), σ)
    by_cases h : a = b
    · rw [if_neg (fun h9 => h9 h), if_pos h]
    · rw [if_pos h, if_neg h]
  · rw [if_pos (by decide)]
    show _ = some ((if a = 0 then 0 else if b = 0 then 0 else 1), σ)
    by_cases h : a = 0
    · rw [if_pos h, if_pos h]
    · rw [if_neg h, if_neg h]
      by_cases h' : b = 0
      · rw [if_pos h', if_pos h']
      · rw [if_neg h', if_neg h']
  · rw [if_neg (by decide), if_neg (by decide), if_neg (by decide), if_neg (by decide), if_neg (by decide), if_neg (by decide)]
    show _ = some ((if a = 0 then (if b = 0 then 0 else 1) else 1), σ)
    by_cases h : a = 0
    · rw [if_neg (fun h9 => h9 h), if_pos h]
      by_cases h' : b = 0
      · rw [if_pos h', if_pos h']
      · rw [if_neg h', if_neg h']
    · rw [if_pos h, if_neg h]
theorem eM_both {c : Nat} (hc : 20003 ≤ c ∧ c ≤ 20009) (a b : Int32) (σ : St) : rM_both (I (mOp c)) a b σ = some (jn c a b, σ) := by
  unfold rM_both rM_both_86 rM_both_87 rM_both_73 rM_both_62 rM_both_96 rM_both_101
  simp only [brc_e]
  rcases sign_cases hc with rfl | rfl | rfl | rfl | rfl | rfl | rfl
  · rw [if_neg (by decide), if_neg (by decide), if_pos (by decide)]; rfl
  · rw [if_pos (by decide)]; rfl
  · rw [if_neg (by decide), if_pos (by decide)]; rfl
  · rw [if_neg (by decide), if_neg (by decide), if_neg (by decide), if_pos (by decide)]
    show _ = some ((if a < b then 1 else 0), σ)
    by_cases h : a < b
    · rw [if_neg (not_le32.mpr h), if_pos h]
    · rw [if_pos (not_lt32.mp h), if_neg h]
  · rw [if_neg (by decide), if_neg (by decide), if_neg (by decide), if_neg (by decide), if_pos (by decide)]
    show _ = some ((if a = b then 1 else 0), σ)
    by_cases h : a = b
    · rw [if_neg (fun h9 => h9 h), if_pos h]
    · rw [if_pos h, if_neg h]
  · rw [if_neg (by decide), if_neg (by decide), if_neg (by decide), if_neg (by decide), if_neg (by decide), if_pos (by decide)]
    show _ = some ((if a = 0 then 0 else if b = 0 then 0 else 1), σ)
    by_cases h : a = 0
    · rw [if_pos h, if_pos h]
    · rw [if_neg h, if_neg h]
      by_cases h' : b = 0
      · rw [if_pos h', if_pos h']
      · rw [if_neg h', if_neg h']
  · rw [if_neg (by decide), if_neg (by decide), if_neg (by decide), if_neg (by decide), if_neg (by decide), if_neg (by decide)]
    show _ = some ((if a = 0 then (if b = 0 then 0 else 1) else 1), σ)
    by_cases h : a = 0
    · rw [if_neg (fun h9 => h9 h), if_pos h]
      by_cases h' : b = 0
      · rw [if_pos h', if_pos h']
      · rw [if_neg h', if_neg h']
    · rw [if_pos h, if_neg h]
theorem setI_setR (σ : St) (i j : Nat) (f : Nat → Int32) (v : Int32) : setI (setR σ i f) i j v = setR σ i (upd f j v) := by
  unfold setI setR
  simp only [if_true]
  congr 1
  funext a
  by_cases h : a = i
  · rw [if_pos h, if_pos h]
  · rw [if_neg h, if_neg h, if_neg h]
theorem nI_I (n : Nat) : nI n = I n := rfl
theorem X_val {σ : St} {d : Nat} {lo hi : Nat} (hhi : hi ≤ 7) (hok : lawok σ d = true) : ∀ (L2 L1 : List Nat) (h : Nat) (f : Nat → Int32) (fuel : Nat), hOK lo hi L2 h → h ≤ 64 → L1.length + L2.length ≤ 1000 → L2.length < fuel → lawc σ d = (L1 ++ L2).map cX → ∃ g, lp rX_valueOf_5L fuel (d, I h, I L1.length, setR σ 48 f) = some (lvR (σ.1 47) L2 h f, setR σ 48 g) := by
  intro L2
  induction L2 with
  | nil =>
    intro L1 h f fuel hk h64 hl hf hc
    obtain ⟨fuel, rfl⟩ : ∃ k, fuel = k + 1 := ⟨fuel - 1, by omega⟩
    have h1 : h = 1 := hk
    subst h1
    refine ⟨f, ?_⟩
    show rX_valueOf_5 _ d (I 1) (I L1.length) (setR σ 48 f) = _
    unfold rX_valueOf_5 rX_valueOf_145
    have hlen : (lawc σ d).length = L1.length := by rw [hc]; simp
    simp only [List.length_nil, Nat.add_zero] at hl
    rw [show lawok (setR σ 48 f) d = true from hok, chk_e, show lawc (setR σ 48 f) d = lawc σ d from rfl, hlen, nI_I, brc_t (show I L1.length ≤ I L1.length from (I_le (by omega) (by omega)).mpr (by omega)), brc_f (show ¬ I 1 ≤ 0 by decide), show ib (0 : Int32) 64 = true from rfl, chk_e, setR_same]
    rfl
  | cons c L2 ih0 =>
    intro L1 h f fuel hk h64 hl hf hc
    obtain ⟨fuel, rfl⟩ : ∃ k, fuel = k + 1 := ⟨fuel - 1, by omega⟩
    have hlen : (lawc σ d).length = L1.length + (L2.length + 1) := by rw [hc]; simp
    have hget : (lawc σ d).getD L1.length 0 = cX c := by rw [hc]; simp
    have hc' : lawc σ d = ((L1 ++ [c]) ++ L2).map cX := by rw [hc]; simp
    have hl2 : (L1 ++ [c]).length = L1.length + 1 := by simp
    simp only [List.length_cons] at hl hf
    obtain ⟨K, hK⟩ : ∃ K : Nat → Int32 → Int32 → St → Option (Int32 × St), K = fun v0 v3 v4 σ => lp rX_valueOf_5L fuel (v0, v3, v4, σ) := ⟨_, rfl⟩
    have ih : ∀ (h' : Nat) (f' : Nat → Int32), hOK lo hi L2 h' → h' ≤ 64 → ∃ g, K d (I h') (I (L1.length + 1)) (setR σ 48 f') = some (lvR (σ.1 47) L2 h' f', setR σ 48 g) := fun h' f' hk' h64' => by
      rw [← hl2, hK]
      exact ih0 (L1 ++ [c]) h' f' fuel hk' h64' (by rw [hl2]; omega) (by omega) hc'
    show ∃ g, rX_valueOf_5 (fun v0 v3 v4 σ => lp rX_valueOf_5L fuel (v0, v3, v4, σ)) d (I h) (I L1.length) (setR σ 48 f) = _
    rw [← hK]
    clear hK ih0
    unfold rX_valueOf_5 rX_valueOf_98 rX_valueOf_63 rX_valueOf_128
    simp only [nmS, nI_I, show lawok (setR σ 48 f) d = true from hok, chkS, show lawc (setR σ 48 f) d = lawc σ d from rfl, hlen, I_cl (show L1.length < 2147483648 by omega), hget, oi1]
    rw [brc_f (show ¬ I (L1.length + (L2.length + 1)) ≤ I L1.length from fun h9 => by rw [I_le (by omega) (by omega)] at h9; omega), chk_t (ib_I (show L1.length < L1.length + (L2.length + 1) by omega) (by omega))]
    simp only [I_add L1.length 1, setR_same, setI_setR]
    rcases hk with ⟨hcc, h1, h2⟩ | ⟨hcc, h1, h3, h2⟩ | ⟨hcc, h1, h3, h2⟩
    · have c2 : c < 20000 := by omega
      rw [cX_lo c2, brc_f (show ¬ I c < 0 by rw [I0, I_lt (by omega) (by omega)]; omega), brc_f (show ¬ I 64 ≤ I h by rw [I_le (by omega) (by omega)]; omega)]
      simp only [chk_t (ib_I h1 (show 64 < 2147483648 by omega)), I_cl (show h < 2147483648 by omega), I_add]
      by_cases c1 : c < 10000
      · obtain ⟨g, hg⟩ := ih (h + 1) (upd f h (I c)) h2 (by omega)
        refine ⟨g, ?_⟩
        rw [brc_f (show ¬ I 7 ≤ I c - 10000 from ?_), brc_f (show ¬ (10000 : Int32) ≤ I c by rw [litN, I_le (by omega) (by omega)]; omega), hg, lvR_num _ _ _ _ c1]
        rw [Int32.le_iff_toInt_le, Int32.toInt_sub, I_toInt (show 7 < 2147483648 by omega), I_toInt (show c < 2147483648 by omega), show (10000 : Int32).toInt = 10000 from rfl, Int.bmod_eq_of_le (by omega) (by omega)]
        omega
      · obtain ⟨g, hg⟩ := ih (h + 1) (upd f h (σ.1 47 (c - 10000))) h2 (by omega)
        refine ⟨g, ?_⟩
        rw [show (10000 : Int32) = I 10000 from rfl, I_sub (by omega), brc_f (show ¬ I 7 ≤ I (c - 10000) by rw [I_le (by omega) (by omega)]; omega), brc_t (show I 10000 ≤ I c by rw [I_le (by omega) (by omega)]; omega), chk_t (ib_I (by omega) (by omega)), I_cl (by omega), setR_ne _ _ (show (47 : Nat) ≠ 48 by decide), hg, lvR_fact _ _ _ _ c1 c2]
    · subst hcc
      rw [brc_t (show cX 20002 < 0 by decide), brc_f (show ¬ ¬ cX 20002 = -2 by decide), brc_f (show ¬ I h ≤ 0 by rw [I0, I_le (by omega) (by omega)]; omega), show (1 : Int32) = I 1 from rfl, I_sub h1]
      simp only [chk_t (ib_I (show h - 1 < 64 by omega) (show 64 < 2147483648 by omega)), I_cl (show h - 1 < 2147483648 by omega)]
      obtain ⟨g, hg⟩ := ih h (upd f (h - 1) (if f (h - 1) = 0 then 1 else 0)) h2 h3
      refine ⟨g, ?_⟩
      rw [lvR_not, ← hg]
      by_cases e : f (h - 1) = 0
      · rw [brc_f (fun h9 => h9 e), if_pos e]; rfl
      · rw [brc_t e, if_neg e]
    · have hneg : cX c < 0 ∧ ¬ cX c = -2 := by rcases sign_cases hcc with rfl | rfl | rfl | rfl | rfl | rfl | rfl <;> decide
      rw [brc_t hneg.1, brc_t hneg.2, brc_f (show ¬ I h ≤ 1 by rw [I1, I_le (by omega) (by omega)]; omega), I_pred (by omega), show (1 : Int32) = I 1 from rfl, I_sub (show 1 ≤ h - 1 by omega), chk_t (ib_I (by omega) (by omega)), chk_t (ib_I (by omega) (by omega)), eX_joined hcc, bnd2_e, chk_t (ib_I (by omega) (by omega)), I_cl (by omega), I_cl (by omega), setI_setR]
      obtain ⟨g, hg⟩ := ih (h - 1) (upd f (h - 2) (jn c (f (h - 2)) (f (h - 1)))) h2 (by omega)
      refine ⟨g, ?_⟩
      rw [lvR_op _ _ _ _ hcc.1, ← hg, show h - 1 - 1 = h - 2 by omega]
/-- a law's codes in the reference, from a place on -/
def ML (b : Nat) (σ : St) : Nat → List Nat → Prop
  | pos, [] => σ.1 8 pos = 0 ∧ pos < 2200
  | pos, c :: L => pos < 2200 ∧ σ.1 8 pos = I (mOp c) ∧ (c < 20000 → σ.1 9 pos = I (if c < 10000 then c else c - 10000 - b)) ∧ ML b σ (pos + 1) L
theorem ML_fr {b : Nat} {σ τ : St} (h8 : τ.1 8 = σ.1 8) (h9 : τ.1 9 = σ.1 9) : ∀ (L : List Nat) (pos : Nat), ML b σ pos L → ML b τ pos L
  | [], pos, h => by unfold ML at *; rw [h8]; exact h
  | c :: L, pos, h => by unfold ML at *; rw [h8, h9]; exact ⟨h.1, h.2.1, h.2.2.1, ML_fr h8 h9 L _ h.2.2.2⟩
theorem M_val {σ : St} {b hi : Nat} (hhi : hi ≤ b + 5) (hb : b ≤ 5) : ∀ (L : List Nat) (pos h : Nat) (f : Nat → Int32) (fuel : Nat), hOK b hi L h → h ≤ 64 → L.length < fuel → ML b σ pos L → ∃ g, lp rM_worthAt_4L fuel (I h, I pos, setR σ 15 f) = some (lvR (fun k => σ.1 14 (k - b)) L h f, setR σ 15 g) := by
  intro L
  induction L with
  | nil =>
    intro pos h f fuel hk h64 hf hc
    obtain ⟨fuel, rfl⟩ : ∃ k, fuel = k + 1 := ⟨fuel - 1, by omega⟩
    have h1 : h = 1 := hk
    subst h1
    obtain ⟨h0, hp⟩ := hc
    refine ⟨f, ?_⟩
    show rM_worthAt_4 _ (I 1) (I pos) (setR σ 15 f) = _
    unfold rM_worthAt_4
    rw [chk_t (ib_I hp (by omega)), I_cl (by omega), setR_ne _ _ (show (8 : Nat) ≠ 15 by decide), brc_t h0, show ib (0 : Int32) 1100 = true from rfl, chk_e, setR_same]
    rfl
  | cons c L ih0 =>
    intro pos h f fuel hk h64 hf hc
    obtain ⟨fuel, rfl⟩ : ∃ k, fuel = k + 1 := ⟨fuel - 1, by omega⟩
    obtain ⟨hp, ho, ha, hr⟩ := hc
    simp only [List.length_cons] at hf
    obtain ⟨K, hK⟩ : ∃ K : Int32 → Int32 → St → Option (Int32 × St), K = fun v2 v3 σ => lp rM_worthAt_4L fuel (v2, v3, σ) := ⟨_, rfl⟩
    have ih : ∀ (h' : Nat) (f' : Nat → Int32), hOK b hi L h' → h' ≤ 64 → ∃ g, K (I h') (I (pos + 1)) (setR σ 15 f') = some (lvR (fun k => σ.1 14 (k - b)) L h' f', setR σ 15 g) := fun h' f' hk' h64' => by
      rw [hK]
      exact ih0 (pos + 1) h' f' fuel hk' h64' (by omega) hr
    show ∃ g, rM_worthAt_4 (fun v2 v3 σ => lp rM_worthAt_4L fuel (v2, v3, σ)) (I h) (I pos) (setR σ 15 f) = _
    rw [← hK]
    clear hK ih0
    unfold rM_worthAt_4 rM_worthAt_33 rM_worthAt_64 rM_worthAt_100 rM_worthAt_134
    have n8 : (setR σ 15 f).1 8 = σ.1 8 := setR_ne _ _ (by decide)
    have n9 : (setR σ 15 f).1 9 = σ.1 9 := setR_ne _ _ (by decide)
    have n14 : (setR σ 15 f).1 14 = σ.1 14 := setR_ne _ _ (by decide)
    simp only [nmS, chk_t (ib_I hp (show 2200 < 2147483648 by omega)), I_cl (show pos < 2147483648 by omega), n8, n9, n14, ho, oi1, I_add pos 1, setR_same, setI_setR]
    have hm : mOp c < 30 := by unfold mOp; rcases hk with ⟨h1, -⟩ | ⟨h1, -⟩ | ⟨h1, -⟩ <;> (repeat' split) <;> omega
    have hm0 : 0 < mOp c := by unfold mOp; rcases hk with ⟨h1, -⟩ | ⟨h1, -⟩ | ⟨h1, -⟩ <;> (repeat' split) <;> omega
    rw [brc_f (show ¬ I (mOp c) = 0 by rw [I0, I_inj (by omega) (by omega)]; omega)]
    rcases hk with ⟨hcc, h1, h2⟩ | ⟨hcc, h1, h3, h2⟩ | ⟨hcc, h1, h3, h2⟩
    · have c2 : c < 20000 := by omega
      rw [ha c2]
      by_cases c1 : c < 10000
      · have e1 : mOp c = 1 := if_pos c1
        obtain ⟨g, hg⟩ := ih (h + 1) (upd f h (I c)) h2 (by omega)
        refine ⟨g, ?_⟩
        rw [e1, if_pos c1, brc_t (show I 1 = 1 from rfl), brc_f (show ¬ ¬ I 1 = 1 from fun h9 => h9 rfl), chk_t (ib_I (show h < 1100 by omega) (by omega)), I_cl (show h < 2147483648 by omega), I_add, hg, lvR_num _ _ _ _ c1]
      · have e1 : mOp c = 2 := by unfold mOp; rw [if_neg c1, if_pos c2]
        obtain ⟨g, hg⟩ := ih (h + 1) (upd f h (σ.1 14 (c - 10000 - b))) h2 (by omega)
        refine ⟨g, ?_⟩
        rw [e1, if_neg c1, brc_f (show ¬ I 2 = 1 by decide), brc_f (show ¬ ¬ I 2 = 2 from fun h9 => h9 rfl), brc_t (show ¬ I 2 = 1 by decide), chk_t (ib_I (show c - 10000 - b < 5 by omega) (by omega)), I_cl (show c - 10000 - b < 2147483648 by omega), chk_t (ib_I (show h < 1100 by omega) (by omega)), I_cl (show h < 2147483648 by omega), I_add, hg, lvR_fact _ _ _ _ c1 c2]
    · subst hcc
      have e1 : mOp 20002 = 3 := rfl
      rw [e1, brc_f (show ¬ I 3 = 1 by decide), brc_t (show ¬ I 3 = 2 by decide), brc_f (show ¬ ¬ I 3 = 3 from fun h9 => h9 rfl), show (1 : Int32) = I 1 from rfl, I_sub h1]
      simp only [chk_t (ib_I (show h - 1 < 1100 by omega) (show 1100 < 2147483648 by omega)), I_cl (show h - 1 < 2147483648 by omega)]
      obtain ⟨g, hg⟩ := ih h (upd f (h - 1) (if f (h - 1) = 0 then 1 else 0)) h2 h3
      refine ⟨g, ?_⟩
      rw [lvR_not, ← hg]
      by_cases e : f (h - 1) = 0
      · rw [brc_f (fun h9 => h9 e), if_pos e]; rfl
      · rw [brc_t e, if_neg e]
    · have hneg : ¬ I (mOp c) = 1 ∧ ¬ I (mOp c) = 2 ∧ ¬ I (mOp c) = 3 := by rcases sign_cases hcc with rfl | rfl | rfl | rfl | rfl | rfl | rfl <;> decide
      rw [brc_f hneg.1, brc_t hneg.2.1, brc_t hneg.2.2, I_pred (by omega), show (1 : Int32) = I 1 from rfl, I_sub (show 1 ≤ h - 1 by omega), chk_t (ib_I (by omega) (by omega)), chk_t (ib_I (by omega) (by omega)), eM_both hcc, bnd2_e, chk_t (ib_I (by omega) (by omega)), I_cl (by omega), I_cl (by omega), setI_setR]
      obtain ⟨g, hg⟩ := ih (h - 1) (upd f (h - 2) (jn c (f (h - 2)) (f (h - 1)))) h2 (by omega)
      refine ⟨g, ?_⟩
      rw [lvR_op _ _ _ _ hcc.1, ← hg, show h - 1 - 1 = h - 2 by omega]
theorem setR_id (σ : St) (i : Nat) : setR σ i (σ.1 i) = σ := by
  unfold setR
  have : (fun a => if a = i then σ.1 i else σ.1 a) = σ.1 := by
    funext a
    by_cases h : a = i
    · rw [if_pos h, h]
    · rw [if_neg h]
  rw [this]
theorem eX_valueOf {σ : St} {d lo hi : Nat} {L : List Nat} (hhi : hi ≤ 7) (hok : lawok σ d = true) (hL : hOK lo hi L 0) (hl : L.length ≤ 1000) (hc : lawc σ d = L.map cX) : ∃ g, rX_valueOf d σ = some (lvR (σ.1 47) L 0 (fun _ => 0), setR σ 48 g) := by
  obtain ⟨g, hg⟩ := X_val hhi hok L [] 0 (σ.1 48) 4096 hL (by omega) (by simpa using hl) (by omega) (by simpa using hc)
  rw [setR_id] at hg
  refine ⟨g, ?_⟩
  show lp rX_valueOf_5L 4096 (d, I 0, I 0, σ) = _
  rw [show lp rX_valueOf_5L 4096 (d, I 0, I 0, σ) = _ from hg, lvR_congr (gx := σ.1 47) hhi (fun _ _ _ => rfl) L 0 (σ.1 48) (fun _ => 0) hL (fun i hi => absurd hi (Nat.not_lt_zero _))]
theorem eM_worthAt {σ : St} {b hi pos : Nat} {L : List Nat} (hhi : hi ≤ b + 5) (h7 : hi ≤ 7) (hb : b ≤ 5) (hL : hOK b hi L 0) (hl : L.length ≤ 1000) (hc : ML b σ pos L) : ∃ g, rM_worthAt (I pos) σ = some (lvR (fun k => σ.1 14 (k - b)) L 0 (fun _ => 0), setR σ 15 g) := by
  obtain ⟨g, hg⟩ := M_val hhi hb L pos 0 (σ.1 15) 4096 hL (by omega) (by omega) hc
  rw [setR_id] at hg
  refine ⟨g, ?_⟩
  show lp rM_worthAt_4L 4096 (I 0, I pos, σ) = _
  rw [hg, lvR_congr (gx := fun k => σ.1 14 (k - b)) h7 (fun _ _ _ => rfl) L 0 (σ.1 15) (fun _ => 0) hL (fun i hi => absurd hi (Nat.not_lt_zero _))]
