/-! tokens: places on the tape, and how the class steps from one to the next -/
def tkF (p : Nat → Bool) (n : Nat) : Nat → Nat → Nat
  | 0, i => i
  | f + 1, i => if i < n ∧ p i = true then tkF p n f (i + 1) else i
def tkR (p : Nat → Bool) (n i : Nat) : Nat := tkF p n (n - i) i
theorem tkR_in {p : Nat → Bool} {n i : Nat} (h : i < n) (hp : p i = true) : tkR p n i = tkR p n (i + 1) := by
  unfold tkR
  rw [show n - i = (n - (i + 1)) + 1 by omega]
  exact if_pos ⟨h, hp⟩
theorem tkR_out {p : Nat → Bool} {n i : Nat} (h : ¬ (i < n ∧ p i = true)) : tkR p n i = i := by
  unfold tkR
  cases n - i with
  | zero => rfl
  | succ f => exact if_neg h
theorem tkF_b {p : Nat → Bool} {n : Nat} : ∀ (f i : Nat), i ≤ n → i ≤ tkF p n f i ∧ tkF p n f i ≤ n
  | 0, i, h => ⟨Nat.le_refl _, h⟩
  | f + 1, i, h => by
    show i ≤ (if i < n ∧ p i = true then tkF p n f (i + 1) else i) ∧ (if i < n ∧ p i = true then tkF p n f (i + 1) else i) ≤ n
    by_cases e : i < n ∧ p i = true
    · rw [if_pos e]
      have := tkF_b (p := p) (n := n) f (i + 1) (by omega)
      omega
    · rw [if_neg e]; omega
theorem tkR_b {p : Nat → Bool} {n i : Nat} (h : i ≤ n) : i ≤ tkR p n i ∧ tkR p n i ≤ n := tkF_b _ _ h
def pL (tp : Nat → Nat) (i : Nat) : Bool := decide (97 ≤ tp i ∧ tp i ≤ 122)
def pD (tp : Nat → Nat) (i : Nat) : Bool := decide (48 ≤ tp i ∧ tp i ≤ 57)
def pB (tp : Nat → Nat) (i : Nat) : Bool := decide (tp i = 32 ∨ tp i = 10)
def cdF (B : Nat) (g : Nat → Nat) (i : Nat) : Nat → Nat
  | 0 => 0
  | k + 1 => cdF B g i k * B + g (i + k)
def lts (tp : Nat → Nat) (i m : Nat) : List Int32 := (List.range m).map (fun k => I (tp (i + k)))
theorem lts_eq {W : List Int32} {tp : Nat → Nat} {i m : Nat} : W = lts tp i m ↔ W.length = m ∧ ∀ q, q < m → W.getD q 0 = I (tp (i + q)) := by
  constructor
  · rintro rfl
    refine ⟨by simp [lts], fun q hq => ?_⟩
    simp [lts, List.getD_eq_getElem?_getD, hq]
  · rintro ⟨h1, h2⟩
    apply List.ext_getElem
    · simp [lts, h1]
    · intro q hq1 hq2
      have h3 := h2 q (by omega)
      rw [List.getD_eq_getElem?_getD, List.getElem?_eq_getElem hq1] at h3
      simp [lts]
      exact h3
def wfF (L : List Int32) : Nat → Nat → Nat
  | 0, _ => 38
  | f + 1, v => if wdT.getD v [] = L then v else wfF L f (v + 1)
def wfd (L : List Int32) : Nat := wfF L 42 0
theorem wfF_lt {L : List Int32} : ∀ (f v : Nat), v + f = 42 → wfF L f v < 42
  | 0, v, _ => by show 38 < 42; omega
  | f + 1, v, h => by
    show (if wdT.getD v [] = L then v else wfF L f (v + 1)) < 42
    split
    · omega
    · exact wfF_lt f (v + 1) (by omega)
theorem wfd_lt (L : List Int32) : wfd L < 42 := wfF_lt 42 0 rfl
theorem wd_len {v : Nat} (hv : v < 42) : (wdT.getD v []).length ≤ 8 := by
  have h : ∀ v, v < 42 → (wdT.getD v []).length ≤ 8 := by decide +kernel
  exact h v hv
theorem slen_eq {v : Nat} (hv : v < 42) (σ : St) : rX_slen (100 + v) σ = some (I (wdT.getD v []).length, σ) := by
  have e : 100 + (100 + v) - 200 = v := by omega
  have h : ∀ v, v < 42 → (nI (wdT.getD v []).length) >>> ((0 : Int32) &&& 31) = I (wdT.getD v []).length := by decide +kernel
  unfold rX_slen rX_coder rX_coder_14
  rw [chk_t (decide_eq_true (by omega)), chk_t (decide_eq_true (by omega)), chk_t (decide_eq_true (by omega)), brc_f (by decide), chk_t (decide_eq_true (by omega)), chk_t (by decide), bnd2S, e, h v hv]
theorem charAt_eq {v k : Nat} (hv : v < 42) (hk : k < (wdT.getD v []).length) (σ : St) : rX_charAt (100 + v) (I k) σ = some ((wdT.getD v []).getD k 0, σ) := by
  have hl := wd_len hv
  have e : 100 + (100 + v) - 200 = v := by omega
  have h : ∀ v, v < 42 → ∀ k, k < 8 → k < (wdT.getD v []).length → ((((wdT.getD v []).getD k 0) &&& (255 : Int32)).toUInt32 % 65536).toInt32 = (wdT.getD v []).getD k 0 ∧ (wdT.getD v []).getD k 0 = (((wdT.getD v []).getD k 0).toUInt32 % 65536).toInt32 := by decide +kernel
  have h' := h v hv k (by omega) hk
  have hix : rX_checkIndex (I k) (nI (wdT.getD v []).length) σ = some σ := by
    unfold rX_checkIndex
    rw [nI_I]
    exact chk_t (decide_eq_true ⟨by rw [I0, I_lt (by omega) (by omega)]; omega, by rw [I_lt (by omega) (by omega)]; exact hk⟩)
  unfold rX_charAt rX_isLat rX_isLat_18 rX_latAt
  rw [chk_t (decide_eq_true (by omega)), brc_f (by decide), chk_t (decide_eq_true (by omega)), brc_f (by decide), chk_t (by decide), bnd2S, brc_f (by decide), chk_t (decide_eq_true (by omega)), chk_t (decide_eq_true (by omega)), e, hix, bnd1S, chk_t (decide_eq_true (by omega)), chk_t (ib_I hk (by omega)), I_cl (by omega), h'.1, chk_t (decide_eq_true h'.2), bnd2S, chk_t (decide_eq_true h'.2)]
theorem eX_wf63 {tp : Nat → Nat} {σ : St} {i j v k : Nat} (hj : j ≤ 1000) (hij : i ≤ j) (hv : v < 42) {k2 : Int32 → Int32 → Int32 → St → Option (Nat × St)} {Q : Nat × St → Prop} (h1 : wdT.getD v [] = lts tp i (j - i) → Q (v, σ)) (h2 : ¬ wdT.getD v [] = lts tp i (j - i) → wp (k2 (I i) (I j) (I (v + 1)) σ) Q) (hk : k ≤ (wdT.getD v []).length) (hk2 : k ≤ j - i) (hp : ∀ q, q < k → (wdT.getD v []).getD q 0 = I (tp (i + q))) (hend : k = (wdT.getD v []).length ∨ k = j - i ∨ ¬ (wdT.getD v []).getD k 0 = I (tp (i + k))) : wp (rX_wfind_63 k2 (I i) (I j) (I v) (100 + v) (I k) σ) Q := by
  have hl := wd_len hv
  unfold rX_wfind_63
  rw [chk_t (decide_eq_true (by omega)), slen_eq hv, bnd2S]
  have out : ¬ wdT.getD v [] = lts tp i (j - i) → wp (rX_wfind_87 k2 (I i) (I j) (I v) σ) Q := fun h => by
    unfold rX_wfind_87
    rw [nmE, oi1, I_add]
    exact h2 h
  refine wp_brc (fun h => ?_) (fun h => ?_)
  · rw [I_inj (by omega) (by omega)] at h
    refine out (fun h9 => ?_)
    have h8 := lts_eq.mp h9
    rcases hend with h7 | h7 | h7
    · exact h h7
    · omega
    · exact h7 (h8.2 k (by omega))
  · have h' : k = (wdT.getD v []).length := by
      rw [← I_inj (by omega) (by omega)]; exact Classical.not_not.mp h
    rw [I_add]
    refine wp_brc (fun h3 => ?_) (fun h3 => ?_)
    · rw [I_inj (by omega) (by omega)] at h3
      refine out (fun h9 => ?_)
      have h8 := lts_eq.mp h9
      omega
    · have h4 : i + k = j := by
        rw [← I_inj (by omega) (by omega)]; exact Classical.not_not.mp h3
      rw [chk_t (ib_I hv (by omega)), I_cl (by omega)]
      exact wp_some (h1 (lts_eq.mpr ⟨by omega, fun q hq => hp q (by omega)⟩))
theorem eX_wf23 {n : Nat} {tp : Nat → Nat} {σ : St} (hx : XP n tp σ) (hn : n ≤ 1000) {i j v : Nat} (hij : i ≤ j) (hj : j ≤ n) (hv : v < 42) {k2 : Int32 → Int32 → Int32 → St → Option (Nat × St)} {Q : Nat × St → Prop} (h1 : wdT.getD v [] = lts tp i (j - i) → Q (v, σ)) (h2 : ¬ wdT.getD v [] = lts tp i (j - i) → wp (k2 (I i) (I j) (I (v + 1)) σ) Q) : wp (lp (rX_wfind_23L k2) fu (I i, I j, I v, 100 + v, I 0, σ)) Q := by
  have hl := wd_len hv
  have step : ∀ (kk : (Int32 × Int32 × Int32 × Nat × Int32 × St) → Option (Nat × St)) (k : Nat), k ≤ (wdT.getD v []).length → k ≤ j - i → (∀ q, q < k → (wdT.getD v []).getD q 0 = I (tp (i + q))) → (k + 1 ≤ (wdT.getD v []).length → k + 1 ≤ j - i → (∀ q, q < k + 1 → (wdT.getD v []).getD q 0 = I (tp (i + q))) → wp (kk (I i, I j, I v, 100 + v, I (k + 1), σ)) Q) → wp (rX_wfind_23L k2 kk (I i, I j, I v, 100 + v, I k, σ)) Q := fun kk k hk hk2 hp hgo => by
    show wp (rX_wfind_23 k2 (fun v1 v2 v3 v4 v5 σ => kk (v1, v2, v3, v4, v5, σ)) (I i) (I j) (I v) (100 + v) (I k) σ) Q
    unfold rX_wfind_23
    rw [chk_t (decide_eq_true (by omega)), slen_eq hv, bnd2S]
    refine wp_brc (fun h => ?_) (fun h => ?_)
    · rw [I_le (by omega) (by omega)] at h
      exact eX_wf63 (by omega) hij hv h1 h2 hk hk2 hp (Or.inl (by omega))
    · rw [I_le (by omega) (by omega)] at h
      rw [I_add]
      refine wp_brc (fun h3 => ?_) (fun h3 => ?_)
      · rw [I_le (by omega) (by omega)] at h3
        exact eX_wf63 (by omega) hij hv h1 h2 hk hk2 hp (Or.inr (Or.inl (by omega)))
      · rw [I_le (by omega) (by omega)] at h3
        rw [chk_t (decide_eq_true (by omega)), charAt_eq hv (by omega), bnd2S, chk_t (ib_I (by omega) (by omega)), I_cl (by omega), hx.2 (i + k) (by omega)]
        refine wp_brc (fun h4 => ?_) (fun h4 => ?_)
        · exact eX_wf63 (by omega) hij hv h1 h2 hk hk2 hp (Or.inr (Or.inr h4))
        · rw [nmE, oi1, I_add]
          refine hgo (by omega) (by omega) (fun q hq => ?_)
          by_cases e : q = k
          · rw [e]; exact Classical.not_not.mp h4
          · exact hp q (by omega)
  refine wp_for (fun m a => ∃ k, k + m = (wdT.getD v []).length ∧ k ≤ j - i ∧ (∀ q, q < k → (wdT.getD v []).getD q 0 = I (tp (i + q))) ∧ a = (I i, I j, I v, 100 + v, I k, σ)) ?_ ?_ (wdT.getD v []).length fu _ ⟨0, by omega, by omega, fun q hq => absurd hq (by omega), rfl⟩ (by unfold fu; omega)
  · rintro m a kk ⟨k, hk, hk2, hp, rfl⟩ hgo
    exact step kk k (by omega) hk2 hp (fun g1 g2 g3 => hgo _ ⟨k + 1, by omega, g2, g3, rfl⟩)
  · rintro a kk ⟨k, hk, hk2, hp, rfl⟩
    exact step kk k (by omega) hk2 hp (fun g1 g2 g3 => absurd g1 (by omega))
theorem eX_wfind {n : Nat} {tp : Nat → Nat} {σ : St} (hx : XP n tp σ) (hn : n ≤ 1000) {i j : Nat} (hij : i ≤ j) (hj : j ≤ n) : wp (rX_wfind (I i) (I j) σ) (fun r => r = (wfd (lts tp i (j - i)), σ)) := by
  unfold rX_wfind
  rw [nmE]
  refine wp_for (fun m a => ∃ v, v + m = 42 ∧ wfF (lts tp i (j - i)) m v = wfd (lts tp i (j - i)) ∧ a = (I i, I j, I v, σ)) ?_ ?_ 42 fu _ ⟨0, rfl, rfl, by rw [I0]⟩ (by unfold fu; omega)
  · rintro m a k ⟨v, hv, he, rfl⟩ hk
    show wp (rX_wfind_2 (fun v1 v2 v3 σ => k (v1, v2, v3, σ)) (I i) (I j) (I v) σ) _
    unfold rX_wfind_2
    rw [nI_I, brc_f (by rw [I_le (by omega) (by omega)]; omega), chk_t (ib_I (by omega) (by omega)), I_cl (by omega), chk_t (decide_eq_true (by omega)), nmE, I0]
    have he' : (if wdT.getD v [] = lts tp i (j - i) then v else wfF (lts tp i (j - i)) m (v + 1)) = wfd (lts tp i (j - i)) := he
    refine eX_wf23 hx hn hij hj (by omega) (fun h => ?_) (fun h => ?_)
    · rw [if_pos h] at he'
      rw [he']
    · rw [if_neg h] at he'
      exact hk _ ⟨v + 1, by omega, he', rfl⟩
  · rintro a k ⟨v, hv, he, rfl⟩
    show wp (rX_wfind_2 (fun v1 v2 v3 σ => k (v1, v2, v3, σ)) (I i) (I j) (I v) σ) _
    unfold rX_wfind_2
    rw [nI_I, brc_t (by rw [I_le (by omega) (by omega)]; omega)]
    refine wp_some ?_
    rw [← he]
    rfl
