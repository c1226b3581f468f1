/-! one way, one drink -/
def dr2 (T : Vw) (pm c q : Nat) : Nat := (if T 5 c = 4 ∨ ¬ pm / 2 ^ c % 2 = 0 then T 7 c * T 3 q / 10 / 2 else T 7 c * T 3 q / 10) + (if T 5 c = 1 then 0 else T 4 q)
def drp (T : Vw) (pm c q l : Nat) : Nat := min (dr2 T pm c q) l
def mns (T : Vw) (c q : Nat) : Nat := if T 5 c = 2 then T 3 q + T 3 q / 2 else T 3 q
theorem eX_goOver_93 {σ : St} {k t l m d : Nat} (hl : σ.1 46 5 = I l) (hm : σ.1 46 6 = I m) (h1 : l < 2147483648) (hd : d < 2147483648) (ht : t < 2147483648) (hk : k < 2147483648) : rX_goOver_93 (I t) (I k) (I d) σ = some (setI (setI (setI σ 46 5 (I (l - min d l))) 46 8 (σ.1 46 8 + I (min d l))) 46 6 (I (m + if k = 2 then t + t / 2 else t))) := by
  unfold rX_goOver_93 rX_goOver_149
  simp only [nmS]
  rw [hl, I_min h1 hd, Nat.min_comm l d, I_sub (Nat.min_le_right d l), gI_ne2 _ _ _ (by decide), gI_ne2 _ _ _ (by decide), gI_ne2 _ _ _ (by decide), hm]
  by_cases e : k = 2
  · rw [brc_f (show ¬ ¬ I k = 2 by rw [litN, I_inj hk (by omega)]; omega), if_pos e, chk_t (by decide), litN, I_div ht (by omega), I_add, I_add]
  · rw [brc_t (show ¬ I k = 2 by rw [litN, I_inj hk (by omega)]; omega), if_neg e, I_add]
theorem eX_goOver {T : Vw} {pm : Nat} {σ : St} (hw : wfT T) (hT : XMt T σ) (hp : ∀ c, c < 6 → σ.1 37 c = I (pm / 2 ^ c % 2)) {c a b l m : Nat} (hc : c < T 0 2) (ha : a < 7) (hb : b < 7) (hq : 0 < T 3 (7 * a + b)) (hl : σ.1 46 5 = I l) (hm : σ.1 46 6 = I m) (h1 : l < 2147483648) :
    rX_goOver (I c) (I a) (I b) σ = some (setI (setI (setI σ 46 5 (I (l - drp T pm c (7 * a + b) l))) 46 8 (σ.1 46 8 + I (drp T pm c (7 * a + b) l))) 46 6 (I (m + mns T c (7 * a + b)))) := by
  obtain ⟨w1, w2, w3, w4, w5, w6, w7, w8⟩ := hw
  obtain ⟨x1, x2, x3, x4, x5, x6, x7, x8, x9⟩ := hT
  have hc6 : c < 6 := by omega
  obtain ⟨a1, a2, a3, a4⟩ := w8 c hc
  obtain ⟨b1, b2, b3, b4⟩ := x9 c hc
  obtain ⟨q1, q2⟩ := w7 (7 * a + b) (by omega)
  obtain ⟨e1, e2⟩ := x8 (7 * a + b) (by omega)
  have e3 := e2 hq
  have hmul : T 7 c * T 3 (7 * a + b) ≤ 20 * 99 := Nat.mul_le_mul a3 q1
  unfold rX_goOver rX_goOver_66 rX_goOver_72
  simp only [nmS, litN, I_mul, I_add]
  rw [Nat.mul_comm a 7, chk_t (ib_I (by omega) (by omega)), I_cl (by omega), I_cl (by omega), chk_t (ib_I hc6 (by omega)), chk_t (ib_I hc6 (by omega)), chk_t (ib_I hc6 (by omega)), chk_t (by decide), chk_t (by decide), chk_t (ib_I (by omega) (by omega)), chk_t (ib_I (by omega) (by omega)), e1, e3, b1, b3, hp c hc6, I_mul, I_div (by omega) (by omega), I_div (by omega) (by omega), I_add, I_add]
  unfold drp mns
  have key : ∀ d, d < 2147483648 → d = dr2 T pm c (7 * a + b) → rX_goOver_93 (I (T 3 (7 * a + b))) (I (T 5 c)) (I d) σ = some (setI (setI (setI σ 46 5 (I (l - min (dr2 T pm c (7 * a + b)) l))) 46 8 (σ.1 46 8 + I (min (dr2 T pm c (7 * a + b)) l))) 46 6 (I (m + if T 5 c = 2 then T 3 (7 * a + b) + T 3 (7 * a + b) / 2 else T 3 (7 * a + b)))) := fun d hd ed => by
    subst ed
    exact eX_goOver_93 hl hm h1 hd (by omega) (by omega)
  by_cases k4 : T 5 c = 4
  · rw [brc_t (show I (T 5 c) = I 4 by rw [k4]), brc_f (show ¬ I (T 5 c) = I 1 by rw [I_inj (by omega) (by omega)]; omega)]
    exact key _ (by omega) (by unfold dr2; rw [if_pos (Or.inl k4), if_neg (by omega)])
  · rw [brc_f (show ¬ I (T 5 c) = I 4 by rw [I_inj (by omega) (by omega)]; exact k4)]
    by_cases k0 : pm / 2 ^ c % 2 = 0
    · rw [k0, brc_t (show I 0 = I 0 from rfl)]
      by_cases k1 : T 5 c = 1
      · rw [brc_t (show I (T 5 c) = I 1 by rw [k1])]
        exact key _ (by omega) (by unfold dr2; rw [if_neg (by omega), if_pos k1]; rfl)
      · rw [brc_f (show ¬ I (T 5 c) = I 1 by rw [I_inj (by omega) (by omega)]; exact k1)]
        exact key _ (by omega) (by unfold dr2; rw [if_neg (by omega), if_neg k1])
    · have : pm / 2 ^ c % 2 < 2 := Nat.mod_lt _ (by omega)
      rw [brc_f (show ¬ I (pm / 2 ^ c % 2) = I 0 by rw [I_inj (by omega) (by omega)]; exact k0)]
      by_cases k1 : T 5 c = 1
      · rw [brc_t (show I (T 5 c) = I 1 by rw [k1])]
        exact key _ (by omega) (by unfold dr2; rw [if_pos (Or.inr k0), if_pos k1]; rfl)
      · rw [brc_f (show ¬ I (T 5 c) = I 1 by rw [I_inj (by omega) (by omega)]; exact k1)]
        exact key _ (by omega) (by unfold dr2; rw [if_pos (Or.inr k0), if_neg k1])
theorem I_bit {m c : Nat} (hm : m < 64) (hc : c < 6) : (I m >>> (I c &&& I 31)) &&& I 1 = I (m / 2 ^ c % 2) := by
  have h : ∀ m, m < 64 → ∀ c, c < 6 → (I m >>> (I c &&& I 31)) &&& I 1 = I (m / 2 ^ c % 2) := by decide +kernel
  exact h m hm c hc
theorem eM_goesWay_96 {σ : St} {k t l m d : Nat} (hl : σ.1 0 30 = I l) (hm : σ.1 0 31 = I m) (hd : d ≤ l) (ht : t < 2147483648) (hk : k < 2147483648) : rM_goesWay_96 (I t) (I k) (I d) σ = some (setI (setI (setI σ 0 30 (I (l - d))) 0 33 (σ.1 0 33 + I d)) 0 31 (I (m + if k = 2 then t + t / 2 else t))) := by
  unfold rM_goesWay_96 rM_goesWay_143
  simp only [nmS]
  rw [hl, I_sub hd, gI_ne2 _ _ _ (by decide), gI_ne2 _ _ _ (by decide), gI_ne2 _ _ _ (by decide), hm]
  by_cases e : k = 2
  · rw [brc_f (show ¬ ¬ I k = 2 by rw [litN, I_inj hk (by omega)]; omega), if_pos e, chk_t (by decide), litN, I_div ht (by omega), I_add, I_add]
  · rw [brc_t (show ¬ I k = 2 by rw [litN, I_inj hk (by omega)]; omega), if_neg e, I_add]
theorem eM_goesWay {T : Vw} {pm : Nat} {σ : St} (hw : wfT T) (hT : MT T σ) (hp : σ.1 16 36 = I pm) (hpm : pm < 64) {c a b l m : Nat} (hc : c < T 0 2) (ha : a < 7) (hb : b < 7) (hq : 0 < T 3 (7 * a + b)) (hl : σ.1 0 30 = I l) (hm : σ.1 0 31 = I m) (h1 : l < 2147483648) :
    rM_goesWay (I c) (I a) (I b) σ = some (setI (setI (setI σ 0 30 (I (l - drp T pm c (7 * a + b) l))) 0 33 (σ.1 0 33 + I (drp T pm c (7 * a + b) l))) 0 31 (I (m + mns T c (7 * a + b)))) := by
  obtain ⟨w1, w2, w3, w4, w5, w6, w7, w8⟩ := hw
  obtain ⟨x1, x2, x3, x4, x5, x6, x7, x8, x9⟩ := hT
  have hc6 : c < 6 := by omega
  obtain ⟨a1, a2, a3, a4⟩ := w8 c hc
  obtain ⟨b1, b2, b3, b4⟩ := x9 c hc
  obtain ⟨q1, q2⟩ := w7 (7 * a + b) (by omega)
  obtain ⟨e1, e2⟩ := x8 (7 * a + b) (by omega)
  have e3 := e2 hq
  have hmul : T 7 c * T 3 (7 * a + b) ≤ 20 * 99 := Nat.mul_le_mul a3 q1
  unfold rM_goesWay rM_goesWay_45 rM_goesWay_54 rM_goesWay_75
  simp only [litN, nmS, bnd2S, eM_wayOf σ ha hb (show 0 < 2 by omega), eM_wayOf σ ha hb (show 1 < 2 by omega), eM_carrierOf σ hc6 (show 0 < 4 by omega), eM_carrierOf σ hc6 (show 2 < 4 by omega), eM_isPatched, Nat.add_zero, e1, e3, b1, b3, hp, I_bit hpm hc6, I_mul, I_add, hl]
  rw [chk_t (by decide), chk_t (by decide), I_div (by omega) (by omega), I_div (by omega) (by omega)]
  simp only [I_add, Nat.add_zero]
  unfold drp mns
  have key : ∀ d, d < 2147483648 → d = dr2 T pm c (7 * a + b) → brc (I d ≤ I l) (rM_goesWay_96 (I (T 3 (7 * a + b))) (I (T 5 c)) (I d) σ) (rM_goesWay_96 (I (T 3 (7 * a + b))) (I (T 5 c)) (I l) σ) = some (setI (setI (setI σ 0 30 (I (l - min (dr2 T pm c (7 * a + b)) l))) 0 33 (σ.1 0 33 + I (min (dr2 T pm c (7 * a + b)) l))) 0 31 (I (m + if T 5 c = 2 then T 3 (7 * a + b) + T 3 (7 * a + b) / 2 else T 3 (7 * a + b)))) := fun d hd ed => by
    subst ed
    by_cases hle : dr2 T pm c (7 * a + b) ≤ l
    · rw [brc_t (show I _ ≤ I l by rw [I_le hd h1]; exact hle), Nat.min_eq_left hle]
      exact eM_goesWay_96 hl hm hle (by omega) (by omega)
    · rw [brc_f (show ¬ I _ ≤ I l by rw [I_le hd h1]; exact hle), Nat.min_eq_right (by omega)]
      exact eM_goesWay_96 hl hm (by omega) (by omega) (by omega)
  have hb01 : ∀ x : Nat, x < 2 → (b01 (I x = I 1) = I 0 ↔ x = 0) := fun x hx => by
    rw [show I 0 = (0 : Int32) from rfl, b01_ne, I_inj (by omega) (by omega)]
    omega
  have hlt : pm / 2 ^ c % 2 < 2 := Nat.mod_lt _ (by omega)
  by_cases k4 : T 5 c = 4
  · rw [brc_t (show I (T 5 c) = I 4 by rw [k4]), brc_t (show ¬ I (T 5 c) = I 1 by rw [I_inj (by omega) (by omega)]; omega)]
    exact key _ (by omega) (by unfold dr2; rw [if_pos (Or.inl k4), if_neg (by omega)])
  · rw [brc_f (show ¬ I (T 5 c) = I 4 by rw [I_inj (by omega) (by omega)]; exact k4)]
    by_cases k0 : pm / 2 ^ c % 2 = 0
    · rw [brc_t ((hb01 _ hlt).mpr k0)]
      by_cases k1 : T 5 c = 1
      · rw [brc_f (show ¬ ¬ I (T 5 c) = I 1 by rw [k1]; exact fun h => h rfl)]
        exact key _ (by omega) (by unfold dr2; rw [if_neg (by omega), if_pos k1, Nat.add_zero])
      · rw [brc_t (show ¬ I (T 5 c) = I 1 by rw [I_inj (by omega) (by omega)]; exact k1)]
        exact key _ (by omega) (by unfold dr2; rw [if_neg (by omega), if_neg k1])
    · rw [brc_f (fun h9 => k0 ((hb01 _ hlt).mp h9))]
      by_cases k1 : T 5 c = 1
      · rw [brc_f (show ¬ ¬ I (T 5 c) = I 1 by rw [k1]; exact fun h => h rfl)]
        exact key _ (by omega) (by unfold dr2; rw [if_pos (Or.inr k0), if_pos k1, Nat.add_zero])
      · rw [brc_t (show ¬ I (T 5 c) = I 1 by rw [I_inj (by omega) (by omega)]; exact k1)]
        exact key _ (by omega) (by unfold dr2; rw [if_pos (Or.inr k0), if_neg k1])
