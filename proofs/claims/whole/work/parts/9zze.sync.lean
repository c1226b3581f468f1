/-! both readers side by side -/
def XLd (LD LP : List Nat) (σ : St) : Prop := lawok σ (σ.2.2.1 10 12) = true ∧ lawc σ (σ.2.2.1 10 12) = LD.map cX ∧ lawok σ (σ.2.2.1 10 13) = true ∧ lawc σ (σ.2.2.1 10 13) = LP.map cX
def MLd (j b c bit : Nat) (L : List Nat) (σ : St) : Prop := (bit = 0 → σ.1 6 (166 + j) = -1 ∧ L = (if b = 0 then [10000] else [1])) ∧ (¬ bit = 0 → ∃ a, σ.1 6 (166 + j) = I a ∧ a + L.length < c ∧ EM b σ (1100 + a) L ∧ σ.1 8 (1100 + a + L.length) = 0)
def SyW (n : Nat) (tp : Nat → Nat) (T : Vw) (O : Nat → Nat) (m : Nat) (np idn : Nat → Nat) (o : Nat) (LD LP : List Nat) : Prop := wfT T ∧ T 0 1 ≤ 12 ∧ symT T ∧ E21 T ≤ T 0 1 ∧ (∀ q, q < 36 → O q ≤ 99) ∧ Nm n tp (T 0 0) (T 0 2) m np idn ∧ o < 32 ∧ wfL LD LP
def SyX (n : Nat) (tp : Nat → Nat) (K0 k : Nat) (T : Vw) (O : Nat → Nat) (m : Nat) (np idn : Nat → Nat) (o : Nat) (LD LP : List Nat) (σ : St) : Prop := KX n tp k σ ∧ XDr T σ ∧ XO O σ ∧ XNm n tp m np idn σ ∧ σ.1 7 5 = I o ∧ XLd LD LP σ ∧ Kn σ = K0 + o % 2 + o / 2 % 2 ∧ XN σ
def SyM (n : Nat) (tp : Nat → Nat) (N k c : Nat) (T : Vw) (O : Nat → Nat) (m : Nat) (np idn : Nat → Nat) (o : Nat) (LD LP : List Nat) (σ : St) : Prop := RM n tp N k 0 σ ∧ MDr T σ ∧ MO O σ ∧ MNm n tp m np idn σ ∧ σ.1 0 18 = I (o / 4) ∧ MLd 0 0 c (o % 2) LD σ ∧ MLd 1 5 c (o / 2 % 2) LP σ ∧ σ.1 0 14 = I c ∧ c ≤ k ∧ σ.1 12 = sM0.1 12 ∧ σ.1 13 = sM0.1 13
def raX (σ τ : St) : Prop := (∀ i, i ≠ 5 → (i < 7 ∨ 22 < i) → τ.1 i = σ.1 i) ∧ (∀ j, j ≠ 1 → j ≠ 4 → j ≠ 5 → τ.1 5 j = σ.1 5 j) ∧ (∀ i, i ≠ 5 → i ≠ 8 → i ≠ 9 → τ.2.1 i = σ.2.1 i) ∧ (∀ i, i ≠ 5 → i ≠ 10 → τ.2.2.1 i = σ.2.2.1 i) ∧ (∃ X, τ.2.2.2 = σ.2.2.2 ++ X) ∧ (XN σ → XN τ)
theorem raX_tr {σ τ υ : St} (h1 : raX σ τ) (h2 : raX τ υ) : raX σ υ := by
  refine ⟨fun i a b => (h2.1 i a b).trans (h1.1 i a b), fun j a b c => (h2.2.1 j a b c).trans (h1.2.1 j a b c), fun i a b c => (h2.2.2.1 i a b c).trans (h1.2.2.1 i a b c), fun i a b => (h2.2.2.2.1 i a b).trans (h1.2.2.2.1 i a b), ?_, fun h => h2.2.2.2.2.2 (h1.2.2.2.2.2 h)⟩
  obtain ⟨X, hX⟩ := h1.2.2.2.2.1
  obtain ⟨Y, hY⟩ := h2.2.2.2.2.1
  exact ⟨X ++ Y, by rw [hY, hX, List.append_assoc]⟩
theorem XN_P {σ τ : St} (h10 : τ.2.2.1 10 = σ.2.2.1 10) (h23 : τ.2.2.1 23 = σ.2.2.1 23) (hK : τ.2.2.2 = σ.2.2.2) (h : XN σ) : XN τ := by
  unfold XN Pok at *
  rw [h10, h23, Kn_eq hK]
  exact h
theorem raX_dr {σ τ : St} (h : drX σ τ) : raX σ τ := ⟨fun i a b => h.1 i a (by omega), h.2.1, h.2.2.2.1, fun i a _ => h.2.2.2.2.1 i a, ⟨[], by rw [List.append_nil]; exact h.2.2.2.2.2⟩, XN_P (h.2.2.2.2.1 10 (by decide)) (h.2.2.2.2.1 23 (by decide)) h.2.2.2.2.2⟩
theorem raX_rd {σ τ : St} (h : rdX σ τ) : raX σ τ := raX_dr (drX_rd h)
theorem raX_se {σ τ : St} (h : seX σ τ) : raX σ τ := ⟨fun i a b => h.1 i a (by omega) (by omega), h.2.1, fun i a _ _ => h.2.2.1 i a, fun i a _ => h.2.2.2.1 i a, ⟨[], by rw [List.append_nil]; exact h.2.2.2.2⟩, XN_P (h.2.2.2.1 10 (by decide)) (h.2.2.2.1 23 (by decide)) h.2.2.2.2⟩
def raM (σ τ : St) : Prop := (∀ i, i ≠ 0 → i ≠ 6 → i ≠ 7 → i ≠ 8 → i ≠ 9 → i ≠ 11 → τ.1 i = σ.1 i) ∧ (∀ j, j < 160 → τ.1 6 j = σ.1 6 j) ∧ (∀ j, j ≠ 7 → j ≠ 8 → j ≠ 14 → j ≠ 17 → j ≠ 18 → j ≠ 19 → τ.1 0 j = σ.1 0 j) ∧ (∀ j, j < 1100 → τ.1 8 j = σ.1 8 j ∧ τ.1 9 j = σ.1 9 j) ∧ (∀ i, i ≠ 10 → τ.2.1 i = σ.2.1 i) ∧ τ.2.2 = σ.2.2
theorem raM_refl {σ : St} : raM σ σ := ⟨fun _ _ _ _ _ _ _ => rfl, fun _ _ => rfl, fun _ _ _ _ _ _ _ => rfl, fun _ _ => ⟨rfl, rfl⟩, fun _ _ => rfl, rfl⟩
theorem raM_tr {σ τ υ : St} (h1 : raM σ τ) (h2 : raM τ υ) : raM σ υ :=
  ⟨fun i a b c d e f => (h2.1 i a b c d e f).trans (h1.1 i a b c d e f), fun j a => (h2.2.1 j a).trans (h1.2.1 j a), fun j a b c d e f => (h2.2.2.1 j a b c d e f).trans (h1.2.2.1 j a b c d e f), fun j a => ⟨(h2.2.2.2.1 j a).1.trans (h1.2.2.2.1 j a).1, (h2.2.2.2.1 j a).2.trans (h1.2.2.2.1 j a).2⟩, fun i a => (h2.2.2.2.2.1 i a).trans (h1.2.2.2.2.1 i a), h2.2.2.2.2.2.trans h1.2.2.2.2.2⟩
theorem raM_dr {σ τ : St} (h : drM σ τ) : raM σ τ := ⟨fun i a b _ _ _ c => h.1 i a b c, fun j hj => h.2.1 j (Or.inl hj), fun j a b _ c _ _ => h.2.2.1 j a b c, fun j _ => ⟨by rw [h.1 8 (by decide) (by decide) (by decide)], by rw [h.1 9 (by decide) (by decide) (by decide)]⟩, h.2.2.2.1, h.2.2.2.2⟩
theorem raM_rd {σ τ : St} (h : rdM σ τ) : raM σ τ := raM_dr (drM_rd h)
theorem raM_ow {σ τ : St} (h : owM σ τ) : raM σ τ := ⟨fun i a _ b _ _ _ => h.1 i (by simp; omega) a, fun j _ => by rw [h.1 6 (by decide) (by decide)], fun j a b _ _ _ _ => h.2.1 j (by simp; omega), fun j _ => ⟨by rw [h.1 8 (by decide) (by decide)], by rw [h.1 9 (by decide) (by decide)]⟩, fun i _ => by rw [h.2.2], by rw [h.2.2]⟩
theorem raM_se {σ τ : St} (h : seM σ τ) : raM σ τ := ⟨fun i a b _ _ _ _ => h.1 i a b, fun j hj => h.2.1 j (Or.inl hj), fun j a b _ _ c _ => h.2.2.1 j a b c, fun j _ => ⟨by rw [h.1 8 (by decide) (by decide)], by rw [h.1 9 (by decide) (by decide)]⟩, fun i _ => by rw [h.2.2.2], by rw [h.2.2.2]⟩
theorem raM_ru {c j : Nat} {σ τ : St} (h : ruM c j σ τ) : raM σ τ := ⟨fun i a b _ c d _ => h.1 i a b c d, fun q hq => h.2.1 q (by omega), fun q a b c _ _ d => h.2.2.1 q a b c d, fun q hq => h.2.2.2.1 q (by omega), fun i _ => by rw [h.2.2.2.2], by rw [h.2.2.2.2]⟩
theorem MLd_fr {j b c bit : Nat} {L : List Nat} {σ τ : St} (h6 : τ.1 6 (166 + j) = σ.1 6 (166 + j)) (h8 : ∀ q, q < 1100 + c → τ.1 8 q = σ.1 8 q ∧ τ.1 9 q = σ.1 9 q) {c' : Nat} (hc : c ≤ c') (h : MLd j b c bit L σ) : MLd j b c' bit L τ := by
  refine ⟨fun hb => by rw [h6]; exact h.1 hb, fun hb => ?_⟩
  obtain ⟨a, a1, a2, a3, a4⟩ := h.2 hb
  exact ⟨a, by rw [h6]; exact a1, by omega, EM_fr L _ (fun q _ hq => h8 q (by omega)) a3, by rw [(h8 _ (by omega)).1]; exact a4⟩
theorem XLd_fr {LD LP : List Nat} {σ τ : St} (h10 : τ.2.2.1 10 = σ.2.2.1 10) (hK : τ.2.2.2 = σ.2.2.2) (h : XLd LD LP σ) : XLd LD LP τ := by
  unfold XLd lawok lawc Kn at *
  rw [h10, hK]
  exact h
section
variable {n : Nat} {tp : Nat → Nat} {N K0 k k' c : Nat} {T : Vw} {O : Nat → Nat} {m : Nat} {np idn : Nat → Nat} {o : Nat} {LD LP : List Nat} {σ τ : St}
theorem SyX_rd (h : SyX n tp K0 k T O m np idn o LD LP σ) (f : rdX σ τ) (hk : KX n tp k' τ) : SyX n tp K0 k' T O m np idn o LD LP τ := by
  obtain ⟨-, a2, a3, a4, a5, a6, a7, a8⟩ := h
  exact ⟨hk, rdX_XDr f a2, fun q hq => by rw [f.1 19 (by decide) (by decide)]; exact a3 q hq, rdX_XNm f a4, by rw [f.2.2.1 5 (by decide) (by decide)]; exact a5, XLd_fr (f.2.2.2.2.1 10 (by decide)) f.2.2.2.2.2 a6, by rw [Kn_eq f.2.2.2.2.2]; exact a7, (raX_rd f).2.2.2.2.2 a8⟩
theorem SyM_rd (h : SyM n tp N k c T O m np idn o LD LP σ) (f : rdM σ τ) (hr : RM n tp N k' 0 τ) (hk : k ≤ k') : SyM n tp N k' c T O m np idn o LD LP τ := by
  obtain ⟨-, a2, a3, a4, a5, a6, a7, a8, a9, a10, a11⟩ := h
  have e6 := f.1 6 (by decide) (by decide)
  have e8 : ∀ q, q < 1100 + c → τ.1 8 q = σ.1 8 q ∧ τ.1 9 q = σ.1 9 q := fun q _ => ⟨by rw [f.1 8 (by decide) (by decide)], by rw [f.1 9 (by decide) (by decide)]⟩
  exact ⟨hr, MDr_fr e6 a2, fun q hq => by rw [f.1 7 (by decide) (by decide)]; exact a3 q hq, MNm_rd f a4, by rw [f.2.1 18 (by decide)]; exact a5, MLd_fr (by rw [e6]) e8 (Nat.le_refl _) a6, MLd_fr (by rw [e6]) e8 (Nat.le_refl _) a7, by rw [f.2.1 14 (by decide)]; exact a8, by omega, by rw [f.1 12 (by decide) (by decide)]; exact a10, by rw [f.1 13 (by decide) (by decide)]; exact a11⟩
end
abbrev lineM (σ : St) : Option St := bnd1 (rM_readLine σ) fun τ => rM_takeSign (59 : Int32) τ
def LnX (hb K0 : Nat) (σ : St) (A : Int32 × St → Prop) : Prop := ∀ (k26 : Int32 → St → Option (Int32 × St)) (i : Nat) (Q : Int32 × St → Prop), i < 1000 → (∀ τ, A (1, τ) → wp (k26 (I (i + 1)) τ) Q) → (∀ τ, A (0, τ) → Q (τ.1 7 4, τ)) → wp (rX_readAll_26 hb K0 2 2000 k26 (I i) σ) Q
def LO (n : Nat) (tp : Nat → Nat) (N hb K0 k : Nat) (P : St → Prop) (σm : St) : Prop := (∃ k' c' T' O' m' np' idn' o' LD' LP', k < k' ∧ SyW n tp T' O' m' np' idn' o' LD' LP' ∧ wp (lineM σm) (fun τ => raM σm τ ∧ SyM n tp N k' c' T' O' m' np' idn' o' LD' LP' τ) ∧ ∀ σx, P σx → LnX hb K0 σx (fun r => r.1 = 1 ∧ raX σx r.2 ∧ SyX n tp K0 k' T' O' m' np' idn' o' LD' LP' r.2)) ∨ (∃ F, 0 < F ∧ F < 20000 ∧ wp (lineM σm) (fun τ => raM σm τ ∧ ∃ k', RM n tp N k' F τ) ∧ ∀ σx, P σx → LnX hb K0 σx (fun r => r.1 = 0 ∧ raX σx r.2 ∧ r.2.1 7 4 = I F ∧ Kn r.2 ≤ K0 + 2))
/-- behind a statement: the class -/
theorem x184 {n : Nat} {tp : Nat → Nat} (hw : wfP n tp) {hb K0 k1 i : Nat} {τ : St} (hK : Kn τ - K0 ≤ 2 ∧ 1000 * (Kn τ - K0) ≤ 2000) (hk : KX n tp k1 τ) {k26 : Int32 → St → Option (Int32 × St)} {Q : Int32 × St → Prop} (hG : tW n tp k1 = 32 → ∀ υ, rdX τ υ → KX n tp (k1 + 1) υ → wp (k26 (I (i + 1)) υ) Q) (hB : ¬ tW n tp k1 = 32 → ∀ υ, rdX τ υ → υ.1 7 4 = I (1 + 16 * ps n tp k1) → Q (υ.1 7 4, υ)) : wp (rX_readAll_184 hb K0 2 2000 k26 (I i) 1 τ) Q := by
  unfold rX_readAll_184 rX_readAll_198
  rw [brc_f (by decide)]
  refine wp_bnd2 (wp_mono (eX_take hw hk (v := 32) (by decide)) ?_)
  rintro ⟨r, υ⟩ ⟨f, ⟨a, b, c⟩ | ⟨a, b, c⟩⟩
  · have b' : r = 1 := b
    subst b'
    show wp (chk (decide (Kn υ = Kn τ ∧ Kn τ - K0 ≤ 2 ∧ 1000 * (Kn τ - K0) ≤ 2000)) (brc (¬ (1 : Int32) = 0) _ _)) _
    rw [chk_t (decide_eq_true ⟨Kn_eq f.2.2.2.2.2, hK⟩), brc_t (by decide), nmE, oi1, I_add]
    exact hG a υ f c
  · have b' : r = 0 := b
    subst b'
    show wp (chk (decide (Kn υ = Kn τ ∧ Kn τ - K0 ≤ 2 ∧ 1000 * (Kn τ - K0) ≤ 2000)) (brc (¬ (0 : Int32) = 0) _ _)) _
    rw [chk_t (decide_eq_true ⟨Kn_eq f.2.2.2.2.2, hK⟩), brc_f (by decide)]
    exact wp_some (hB a υ f c)
theorem x184_0 {hb K0 i : Nat} {τ : St} {k26 : Int32 → St → Option (Int32 × St)} {Q : Int32 × St → Prop} (hB : Q (τ.1 7 4, τ)) : wp (rX_readAll_184 hb K0 2 2000 k26 (I i) 0 τ) Q := by
  unfold rX_readAll_184 rX_readAll_198
  rw [brc_t rfl]
  exact wp_some hB
/-- a statement of both, and what stands behind it -/
theorem line_good {n : Nat} {tp : Nat → Nat} (hw : wfP n tp) {N hb K0 k k1 c1 : Nat} {T' : Vw} {O' : Nat → Nat} {m' : Nat} {np' idn' : Nat → Nat} {o' : Nat} {LD' LP' : List Nat} {P : St → Prop} {σm : St} (hk : k < k1) (hW : SyW n tp T' O' m' np' idn' o' LD' LP') (hM : wp (rM_readLine σm) (fun τ => raM σm τ ∧ SyM n tp N k1 c1 T' O' m' np' idn' o' LD' LP' τ)) (hX : ∀ σx, P σx → ∀ (k26 : Int32 → St → Option (Int32 × St)) (i : Nat) (Q : Int32 × St → Prop), i < 1000 → (∀ τ, raX σx τ → SyX n tp K0 k1 T' O' m' np' idn' o' LD' LP' τ → wp (rX_readAll_184 hb K0 2 2000 k26 (I i) 1 τ) Q) → wp (rX_readAll_26 hb K0 2 2000 k26 (I i) σx) Q) : LO n tp N hb K0 k P σm := by
  have hn := hw.1
  obtain ⟨τm, em, fm, sm⟩ := hM
  have hp := (RM_tok sm.1).2.2.1
  by_cases h32 : tW n tp k1 = 32
  · refine Or.inl ⟨k1 + 1, c1, T', O', m', np', idn', o', LD', LP', by omega, hW, ?_, ?_⟩
    · refine wp_bnd1 (wp_eq em ?_)
      refine wp_mono (eM_takeSign hw sm.1 (c := 59) (by decide)) ?_
      rintro υ ⟨f, ⟨a, r⟩ | ⟨a, r⟩⟩
      · exact ⟨raM_tr fm (raM_rd f), SyM_rd sm f r (by omega)⟩
      · exact absurd (h32.trans (by decide)) a
    · intro σx px k26 i Q hi hg hb9
      refine hX σx px k26 i Q hi (fun τ fr sx => ?_)
      refine x184 hw ?_ sx.1 (fun _ υ f ku => hg υ ⟨rfl, raX_tr fr (raX_rd f), SyX_rd sx f ku⟩) (fun h9 => absurd h32 h9)
      have := sx.2.2.2.2.2.2.1
      omega
  · refine Or.inr ⟨1 + 16 * ps n tp k1, by omega, by omega, ?_, ?_⟩
    · refine wp_bnd1 (wp_eq em ?_)
      refine wp_mono (eM_takeSign hw sm.1 (c := 59) (by decide)) ?_
      rintro υ ⟨f, ⟨a, r⟩ | ⟨a, r⟩⟩
      · exact absurd (a.trans (by decide)) h32
      · exact ⟨raM_tr fm (raM_rd f), k1, r⟩
    · intro σx px k26 i Q hi hg hb9
      refine hX σx px k26 i Q hi (fun τ fr sx => ?_)
      refine x184 hw ?_ sx.1 (fun h9 => absurd h9 h32) (fun _ υ f e => hb9 υ ⟨rfl, raX_tr fr (raX_rd f), e, by have h1 := sx.2.2.2.2.2.2.1; have h2 : Kn υ = Kn τ := Kn_eq f.2.2.2.2.2; show Kn υ ≤ K0 + 2; omega⟩)
      have := sx.2.2.2.2.2.2.1
      omega
theorem line_bad {n : Nat} {tp : Nat → Nat} {N hb K0 k F : Nat} {P : St → Prop} {σm : St} (hF : 0 < F ∧ F < 20000) (hM : wp (rM_readLine σm) (fun τ => raM σm τ ∧ ∃ k', RM n tp N k' F τ)) (hX : ∀ σx, P σx → ∀ (k26 : Int32 → St → Option (Int32 × St)) (i : Nat) (Q : Int32 × St → Prop), i < 1000 → (∀ τ, raX σx τ → τ.1 7 4 = I F → Kn τ ≤ K0 + 2 → wp (rX_readAll_184 hb K0 2 2000 k26 (I i) 0 τ) Q) → wp (rX_readAll_26 hb K0 2 2000 k26 (I i) σx) Q) : LO n tp N hb K0 k P σm := by
  obtain ⟨τm, em, fm, k', r⟩ := hM
  refine Or.inr ⟨F, hF.1, hF.2, ?_, ?_⟩
  · refine wp_bnd1 (wp_eq em ?_)
    rw [eM_takeSignF r (by omega)]
    exact wp_some ⟨fm, k', r⟩
  · intro σx px k26 i Q hi hg hb9
    exact hX σx px k26 i Q hi (fun τ fr e hk => x184_0 (hb9 τ ⟨rfl, fr, e, hk⟩))
