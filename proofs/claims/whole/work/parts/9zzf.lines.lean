/-! the lines of both readers, one by one -/
theorem nF_0 {n : Nat} {tp : Nat → Nat} {k lo hi : Nat} (h : nF n tp k lo hi = 0) : lo ≤ tV n tp k ∧ tV n tp k ≤ hi := by
  unfold nF at h
  split at h
  · split at h
    · assumption
    · omega
  · omega
theorem afF_0 {n : Nat} {tp : Nat → Nat} {k w lo hi : Nat} (h : afF n tp k w lo hi = 0) : lo ≤ tV n tp (k + 1) ∧ tV n tp (k + 1) ≤ hi := by
  unfold afF at h
  split at h
  · split at h
    · rename_i h1
      exact nF_0 h1
    · omega
  · omega
theorem nnF_0 {n : Nat} {tp : Nat → Nat} {m : Nat} {np : Nat → Nat} {k : Nat} (h : nnF n tp m np k = 0) : cnm (tW n tp k) = true ∧ hasN n tp m np (ps n tp k) = false := by
  unfold nnF at h
  split at h
  · split at h
    · omega
    · rename_i h1 h2
      exact ⟨h1, (Bool.not_eq_true _).mp h2⟩
  · omega
theorem E21_cg {T T' : Vw} (h : ∀ q, T' 3 q = T 3 q) : E21 T' = E21 T := by
  have e : wb T' = wb T := by
    funext a b
    unfold wb
    rw [h]
  unfold E21
  rw [e]
theorem symT_cg {T T' : Vw} (h : ∀ q, T' 3 q = T 3 q) (hs : symT T) : symT T' := fun a ha b hb => by rw [h, h]; exact hs a ha b hb
theorem XDr_fr {T : Vw} {σ τ : St} (h : ∀ i, 10 ≤ i → i ≤ 18 → τ.1 i = σ.1 i) (hx : XDr T σ) : XDr T τ := by
  unfold XDr at *
  refine XMt_fr (fun i h1 h2 => ?_) hx
  exact h (i - 13) (by omega) (by omega)
theorem XNm_fr {n : Nat} {tp : Nat → Nat} {m : Nat} {np idn : Nat → Nat} {σ τ : St} (h8 : τ.2.1 8 = σ.2.1 8) (h9 : τ.2.1 9 = σ.2.1 9) (h : XNm n tp m np idn σ) : XNm n tp m np idn τ := fun q hq => by
  rw [h8, h9]
  exact h q hq
section
variable {n : Nat} {tp : Nat → Nat} {N K0 k k' c : Nat} {T T' : Vw} {O : Nat → Nat} {m m' : Nat} {np idn np' idn' : Nat → Nat} {o : Nat} {LD LP : List Nat} {σ τ : St}
theorem SyM_dr (h : SyM n tp N k c T O m np idn o LD LP σ) (f : drM σ τ) (r : RM n tp N k' 0 τ) (hk : k ≤ k') (d : MDr T' τ) (e : MNm n tp m' np' idn' τ) : SyM n tp N k' c T' O m' np' idn' o LD LP τ := by
  obtain ⟨-, -, a3, -, a5, a6, a7, a8, a9, a10, a11⟩ := h
  have e8 : ∀ q, q < 1100 + c → τ.1 8 q = σ.1 8 q ∧ τ.1 9 q = σ.1 9 q := fun q _ => ⟨by rw [f.1 8 (by decide) (by decide) (by decide)], by rw [f.1 9 (by decide) (by decide) (by decide)]⟩
  exact ⟨r, d, fun q hq => by rw [f.1 7 (by decide) (by decide) (by decide)]; exact a3 q hq, e, by rw [f.2.2.1 18 (by decide) (by decide) (by decide)]; exact a5, MLd_fr (f.2.1 166 (by omega)) e8 (Nat.le_refl _) a6, MLd_fr (f.2.1 167 (by omega)) e8 (Nat.le_refl _) a7, by rw [f.2.2.1 14 (by decide) (by decide) (by decide)]; exact a8, by omega, by rw [f.1 12 (by decide) (by decide) (by decide)]; exact a10, by rw [f.1 13 (by decide) (by decide) (by decide)]; exact a11⟩
theorem SyX_dr (h : SyX n tp K0 k T O m np idn o LD LP σ) (f : drX σ τ) (hk : KX n tp k' τ) (h19 : τ.1 19 = σ.1 19) (d : XDr T' τ) (e : XNm n tp m' np' idn' τ) : SyX n tp K0 k' T' O m' np' idn' o LD LP τ := by
  obtain ⟨-, -, a3, -, a5, a6, a7, a8⟩ := h
  exact ⟨hk, d, fun q hq => by rw [h19]; exact a3 q hq, e, by rw [f.2.2.1 5 (by decide) (by decide)]; exact a5, XLd_fr (f.2.2.2.2.1 10 (by decide)) f.2.2.2.2.2 a6, by rw [Kn_eq f.2.2.2.2.2]; exact a7, (raX_dr f).2.2.2.2.2 a8⟩
end
theorem line_of {n : Nat} {tp : Nat → Nat} (hw : wfP n tp) {N hb K0 k k1 c1 F : Nat} {T' : Vw} {O' : Nat → Nat} {m' : Nat} {np' idn' : Nat → Nat} {o' : Nat} {LD' LP' : List Nat} {P : St → Prop} {σm : St} {S : St → Option (Int32 × St)} (hK : ∀ σx, P σx → Kn σx - K0 ≤ 2 ∧ 1000 * (Kn σx - K0) ≤ 2000) (hk : k < k1) (hW : F = 0 → SyW n tp T' O' m' np' idn' o' LD' LP') (hM : wp (rM_readLine σm) (fun τ => raM σm τ ∧ ((F = 0 ∧ SyM n tp N k1 c1 T' O' m' np' idn' o' LD' LP' τ) ∨ (0 < F ∧ F < 20000 ∧ ∃ k', RM n tp N k' F τ)))) (hS : ∀ σx, P σx → ∀ (k26 : Int32 → St → Option (Int32 × St)) (i : Nat), i < 1000 → rX_readAll_26 hb K0 2 2000 k26 (I i) σx = bnd2 (S σx) fun r τ => chk (decide (Kn τ = Kn σx ∧ Kn σx - K0 ≤ 2 ∧ 1000 * (Kn σx - K0) ≤ 2000)) (nm r fun v3 => rX_readAll_184 hb K0 2 2000 k26 (I i) v3 τ)) (hX : ∀ σx, P σx → wp (S σx) (fun r => raX σx r.2 ∧ r.2.2.2.2 = σx.2.2.2 ∧ ((F = 0 ∧ r.1 = 1 ∧ SyX n tp K0 k1 T' O' m' np' idn' o' LD' LP' r.2) ∨ (0 < F ∧ r.1 = 0 ∧ r.2.1 7 4 = I F)))) : LO n tp N hb K0 k P σm := by
  by_cases hF : F = 0
  · refine line_good hw (c1 := c1) hk (hW hF) (wp_mono hM ?_) ?_
    · rintro τ ⟨a, ⟨-, b⟩ | ⟨b, -⟩⟩
      · exact ⟨a, b⟩
      · omega
    · intro σx px k26 i Q hi hgo
      rw [hS σx px k26 i hi]
      refine wp_bnd2 (wp_mono (hX σx px) ?_)
      rintro ⟨r, τ⟩ ⟨a, b, ⟨-, c, d⟩ | ⟨c, -⟩⟩
      · have c' : r = 1 := c
        subst c'
        show wp (chk (decide (Kn τ = Kn σx ∧ Kn σx - K0 ≤ 2 ∧ 1000 * (Kn σx - K0) ≤ 2000)) (nm (1 : Int32) fun v3 => rX_readAll_184 hb K0 2 2000 k26 (I i) v3 τ)) Q
        rw [chk_t (decide_eq_true ⟨Kn_eq b, hK σx px⟩), nmE]
        exact hgo τ a d
      · omega
  · obtain ⟨τm, em, fm, hm⟩ := hM
    have hF2 : 0 < F ∧ F < 20000 ∧ ∃ k', RM n tp N k' F τm := by
      rcases hm with ⟨a, -⟩ | a
      · exact absurd a hF
      · exact a
    refine line_bad ⟨hF2.1, hF2.2.1⟩ (wp_eq em ⟨fm, hF2.2.2⟩) ?_
    intro σx px k26 i Q hi hgo
    rw [hS σx px k26 i hi]
    refine wp_bnd2 (wp_mono (hX σx px) ?_)
    rintro ⟨r, τ⟩ ⟨a, b, ⟨c, -⟩ | ⟨-, c, d⟩⟩
    · exact absurd c hF
    · have c' : r = 0 := c
      subst c'
      show wp (chk (decide (Kn τ = Kn σx ∧ Kn σx - K0 ≤ 2 ∧ 1000 * (Kn σx - K0) ≤ 2000)) (nm (0 : Int32) fun v3 => rX_readAll_184 hb K0 2 2000 k26 (I i) v3 τ)) Q
      rw [chk_t (decide_eq_true ⟨Kn_eq b, hK σx px⟩), nmE]
      have h1 := hK σx px
      have h2 : Kn τ = Kn σx := Kn_eq b
      exact hgo τ a d (by omega)
theorem wp_b1 {β : Type} {x : Option β} {Q : β → Prop} (h : wp x Q) : wp (bnd1 x fun τ => some τ) Q := wp_bnd1 (wp_mono h fun _ q => wp_some q)
/-- which statement it is: the class -/
theorem x26_h {i : Nat} (hi : i < 1000) : ¬ (1000 : Int32) ≤ I i := by
  rw [litN, I_le (by omega) (by omega)]
  omega
theorem x26_0 {hb K0 i : Nat} {σ : St} (hW : σ.2.2.1 5 3 = 0) (hi : i < 1000) (k26 : Int32 → St → Option (Int32 × St)) : rX_readAll_26 hb K0 2 2000 k26 (I i) σ = bnd2 (rX_readStation σ) fun r τ => chk (decide (Kn τ = Kn σ ∧ Kn σ - K0 ≤ 2 ∧ 1000 * (Kn σ - K0) ≤ 2000)) (nm r fun v3 => rX_readAll_184 hb K0 2 2000 k26 (I i) v3 τ) := by
  unfold rX_readAll_26
  rw [hW, brc_f (x26_h hi), chk_t (by decide), brc_f (by decide), chk_t (by decide), brc_f (by decide)]
theorem x26_3 {hb K0 i : Nat} {σ : St} (hW : σ.2.2.1 5 3 = 3) (hi : i < 1000) (k26 : Int32 → St → Option (Int32 × St)) : rX_readAll_26 hb K0 2 2000 k26 (I i) σ = bnd2 (rX_readWay σ) fun r τ => chk (decide (Kn τ = Kn σ ∧ Kn σ - K0 ≤ 2 ∧ 1000 * (Kn σ - K0) ≤ 2000)) (nm r fun v3 => rX_readAll_184 hb K0 2 2000 k26 (I i) v3 τ) := by
  unfold rX_readAll_26
  rw [hW, brc_f (x26_h hi), chk_t (by decide), brc_f (by decide), chk_t (by decide), brc_t (by decide), chk_t (by decide), brc_f (by decide)]
theorem x26_6 {hb K0 i : Nat} {σ : St} (hW : σ.2.2.1 5 3 = 6) (hi : i < 1000) (k26 : Int32 → St → Option (Int32 × St)) : rX_readAll_26 hb K0 2 2000 k26 (I i) σ = bnd2 (rX_readCarrier σ) fun r τ => chk (decide (Kn τ = Kn σ ∧ Kn σ - K0 ≤ 2 ∧ 1000 * (Kn σ - K0) ≤ 2000)) (nm r fun v3 => rX_readAll_184 hb K0 2 2000 k26 (I i) v3 τ) := by
  unfold rX_readAll_26
  rw [hW, brc_f (x26_h hi), chk_t (by decide), brc_f (by decide), chk_t (by decide), brc_t (by decide), chk_t (by decide), brc_t (by decide), chk_t (by decide), brc_f (by decide)]
theorem x26_10 {hb K0 i : Nat} {σ : St} (hW : σ.2.2.1 5 3 = 10) (hi : i < 1000) (k26 : Int32 → St → Option (Int32 × St)) : rX_readAll_26 hb K0 2 2000 k26 (I i) σ = bnd2 (rX_readOwes σ) fun r τ => chk (decide (Kn τ = Kn σ ∧ Kn σ - K0 ≤ 2 ∧ 1000 * (Kn σ - K0) ≤ 2000)) (nm r fun v3 => rX_readAll_184 hb K0 2 2000 k26 (I i) v3 τ) := by
  unfold rX_readAll_26
  rw [hW, brc_f (x26_h hi), chk_t (by decide), brc_f (by decide), chk_t (by decide), brc_t (by decide), chk_t (by decide), brc_t (by decide), chk_t (by decide), brc_t (by decide), chk_t (by decide), brc_f (by decide)]
theorem x26_set {hb K0 i e : Nat} {σ : St} (he : e < 3) (hW : σ.2.2.1 5 3 = 13 + e) (hi : i < 1000) (k26 : Int32 → St → Option (Int32 × St)) : rX_readAll_26 hb K0 2 2000 k26 (I i) σ = bnd2 (rX_readSetting (13 + e) σ) fun r τ => chk (decide (Kn τ = Kn σ ∧ Kn σ - K0 ≤ 2 ∧ 1000 * (Kn σ - K0) ≤ 2000)) (nm r fun v3 => rX_readAll_184 hb K0 2 2000 k26 (I i) v3 τ) := by
  unfold rX_readAll_26 rX_readAll_169
  have h3 : e = 0 ∨ e = 1 ∨ e = 2 := by omega
  rcases h3 with rfl | rfl | rfl
  · rw [hW, brc_f (x26_h hi), chk_t (by decide), brc_f (by decide), chk_t (by decide), brc_t (by decide), chk_t (by decide), brc_t (by decide), chk_t (by decide), brc_t (by decide), chk_t (by decide), brc_t (by decide), chk_t (by decide), brc_f (by decide), chk_t (by decide), brc_t (by decide), chk_t (by decide), brc_t (by decide)]
  · rw [hW, brc_f (x26_h hi), chk_t (by decide), brc_f (by decide), chk_t (by decide), brc_t (by decide), chk_t (by decide), brc_t (by decide), chk_t (by decide), brc_t (by decide), chk_t (by decide), brc_t (by decide), chk_t (by decide), brc_f (by decide), chk_t (by decide), brc_t (by decide), chk_t (by decide), brc_f (by decide), chk_t (by decide), brc_t (by decide)]
  · rw [hW, brc_f (x26_h hi), chk_t (by decide), brc_f (by decide), chk_t (by decide), brc_t (by decide), chk_t (by decide), brc_t (by decide), chk_t (by decide), brc_t (by decide), chk_t (by decide), brc_t (by decide), chk_t (by decide), brc_f (by decide), chk_t (by decide), brc_t (by decide), chk_t (by decide), brc_f (by decide), chk_t (by decide), brc_f (by decide), chk_t (by decide), brc_f (by decide)]
theorem x26_no {hb K0 i W : Nat} {σ : St} (hW : σ.2.2.1 5 3 = W) (hW4 : W < 42 ∧ ¬ W = 40 ∧ ¬ W = 0 ∧ ¬ W = 3 ∧ ¬ W = 6 ∧ ¬ W = 10 ∧ ¬ W = 11 ∧ ¬ W = 12 ∧ ¬ W = 13 ∧ ¬ W = 14 ∧ ¬ W = 15) (hi : i < 1000) (k26 : Int32 → St → Option (Int32 × St)) : rX_readAll_26 hb K0 2 2000 k26 (I i) σ = bnd2 (rX_wrong (1 : Int32) σ) fun r τ => chk (decide (Kn τ = Kn σ ∧ Kn σ - K0 ≤ 2 ∧ 1000 * (Kn σ - K0) ≤ 2000)) (nm r fun v3 => rX_readAll_184 hb K0 2 2000 k26 (I i) v3 τ) := by
  obtain ⟨h42, h40, h0, h3, h6, h10, h11, h12, h13, h14, h15⟩ := hW4
  unfold rX_readAll_26
  rw [hW, brc_f (x26_h hi), chk_t (decide_eq_true ⟨h42, by decide⟩), brc_f h40, chk_t (decide_eq_true ⟨h42, by decide⟩), brc_t h0, chk_t (decide_eq_true ⟨h42, by decide⟩), brc_t h3, chk_t (decide_eq_true ⟨h42, by decide⟩), brc_t h6, chk_t (decide_eq_true ⟨h42, by decide⟩), brc_t h10, chk_t (decide_eq_true ⟨h42, by decide⟩), brc_f h11, chk_t (decide_eq_true ⟨h42, by decide⟩), brc_t h12, chk_t (decide_eq_true ⟨h42, by decide⟩), brc_f h13, chk_t (decide_eq_true ⟨h42, by decide⟩), brc_f h14, chk_t (decide_eq_true ⟨h42, by decide⟩), brc_t h15]
theorem x26_law {hb K0 i j b : Nat} {σ : St} (hj : (j = 0 ∧ b = 0) ∨ (j = 1 ∧ b = 5)) (hW : σ.2.2.1 5 3 = 11 + j) (hi : i < 1000) (k26 : Int32 → St → Option (Int32 × St)) : rX_readAll_26 hb K0 2 2000 k26 (I i) σ = rX_readAll_141 hb K0 2 2000 k26 (I i) (vB b) σ := by
  unfold rX_readAll_26 rX_readAll_128
  rcases hj with ⟨rfl, rfl⟩ | ⟨rfl, rfl⟩
  · rw [hW, brc_f (x26_h hi), chk_t (by decide), brc_f (by decide), chk_t (by decide), brc_t (by decide), chk_t (by decide), brc_t (by decide), chk_t (by decide), brc_t (by decide), chk_t (by decide), brc_t (by decide), chk_t (by decide), brc_t (by decide), chk_t (by decide), brc_f (by decide)]
    rfl
  · rw [hW, brc_f (x26_h hi), chk_t (by decide), brc_f (by decide), chk_t (by decide), brc_t (by decide), chk_t (by decide), brc_t (by decide), chk_t (by decide), brc_t (by decide), chk_t (by decide), brc_t (by decide), chk_t (by decide), brc_f (by decide), chk_t (by decide), brc_f (by decide), chk_t (by decide), brc_t (by decide)]
    rfl
theorem x26_end {hb K0 i : Nat} {σ : St} (hW : σ.2.2.1 5 3 = 40) (k26 : Int32 → St → Option (Int32 × St)) : rX_readAll_26 hb K0 2 2000 k26 (I i) σ = some (0, σ) := by
  unfold rX_readAll_26 rX_readAll_209
  by_cases h : (1000 : Int32) ≤ I i
  · rw [brc_t h]
  · rw [brc_f h, hW, chk_t (by decide), brc_t rfl]
/-- which statement it is: the reference -/
theorem rl_dis {n : Nat} {tp : Nat → Nat} (hw : wfP n tp) {N k : Nat} {σ : St} (h : RM n tp N k 0 σ) : (tW n tp k = 0 → rM_readLine σ = bnd1 (rM_readStation σ) fun τ => some τ) ∧ (tW n tp k = 3 → rM_readLine σ = bnd1 (rM_readWay σ) fun τ => some τ) ∧ (tW n tp k = 6 → rM_readLine σ = bnd1 (rM_readCarrier σ) fun τ => some τ) ∧ (tW n tp k = 10 → rM_readLine σ = bnd1 (rM_readOwe σ) fun τ => some τ) ∧ (tW n tp k = 11 ∨ tW n tp k = 12 → rM_readLine σ = bnd1 (rM_readRule σ) fun τ => some τ) ∧ (¬ tW n tp k = 0 → ¬ tW n tp k = 3 → ¬ tW n tp k = 6 → ¬ tW n tp k = 10 → ¬ tW n tp k = 11 → ¬ tW n tp k = 12 → rM_readLine σ = bnd1 (rM_readOnce σ) fun τ => some τ) := by
  have e0 : rM_isWord (0 : Int32) σ = some (if tW n tp k = 0 then 1 else 0, σ) := eM_isWord hw h (w := 0) (by decide)
  have e3 : rM_isWord (3 : Int32) σ = some (if tW n tp k = 3 then 1 else 0, σ) := eM_isWord hw h (w := 3) (by decide)
  have e6 : rM_isWord (6 : Int32) σ = some (if tW n tp k = 6 then 1 else 0, σ) := eM_isWord hw h (w := 6) (by decide)
  have e10 : rM_isWord (10 : Int32) σ = some (if tW n tp k = 10 then 1 else 0, σ) := eM_isWord hw h (w := 10) (by decide)
  have e11 : rM_isWord (11 : Int32) σ = some (if tW n tp k = 11 then 1 else 0, σ) := eM_isWord hw h (w := 11) (by decide)
  have e12 : rM_isWord (12 : Int32) σ = some (if tW n tp k = 12 then 1 else 0, σ) := eM_isWord hw h (w := 12) (by decide)
  unfold rM_readLine rM_readLine_80 rM_readLine_91
  generalize tW n tp k = W at e0 e3 e6 e10 e11 e12 ⊢
  refine ⟨?_, ?_, ?_, ?_, ?_, ?_⟩
  · rintro rfl
    rw [e0, if_pos rfl, bnd2S, brc_f (by decide)]
  · rintro rfl
    rw [e0, if_neg (by decide), bnd2S, brc_t rfl, e3, if_pos rfl, bnd2S, brc_f (by decide)]
  · rintro rfl
    rw [e0, if_neg (by decide), bnd2S, brc_t rfl, e3, if_neg (by decide), bnd2S, brc_t rfl, e6, if_pos rfl, bnd2S, brc_f (by decide)]
  · rintro rfl
    rw [e0, if_neg (by decide), bnd2S, brc_t rfl, e3, if_neg (by decide), bnd2S, brc_t rfl, e6, if_neg (by decide), bnd2S, brc_t rfl, e10, if_pos rfl, bnd2S, brc_f (by decide)]
  · rintro (rfl | rfl)
    · rw [e0, if_neg (by decide), bnd2S, brc_t rfl, e3, if_neg (by decide), bnd2S, brc_t rfl, e6, if_neg (by decide), bnd2S, brc_t rfl, e10, if_neg (by decide), bnd2S, brc_t rfl, e11, if_pos rfl, bnd2S, brc_t (by decide)]
    · rw [e0, if_neg (by decide), bnd2S, brc_t rfl, e3, if_neg (by decide), bnd2S, brc_t rfl, e6, if_neg (by decide), bnd2S, brc_t rfl, e10, if_neg (by decide), bnd2S, brc_t rfl, e11, if_neg (by decide), bnd2S, brc_f (by decide), e12, if_pos rfl, bnd2S, brc_f (by decide)]
  · intro h0 h3 h6 h10 h11 h12
    rw [e0, if_neg h0, bnd2S, brc_t rfl, e3, if_neg h3, bnd2S, brc_t rfl, e6, if_neg h6, bnd2S, brc_t rfl, e10, if_neg h10, bnd2S, brc_t rfl, e11, if_neg h11, bnd2S, brc_f (by decide), e12, if_neg h12, bnd2S, brc_t rfl]
