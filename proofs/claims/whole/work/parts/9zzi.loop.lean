/-! all lines of both readers -/
theorem sgo_le : ∀ b, b < 200 → sgn b = true → sgo b ≤ 32 := by decide +kernel
theorem tW_40 {n : Nat} {tp : Nat → Nat} (hw : wfP n tp) (k : Nat) : tW n tp k = 40 ↔ tkS n tp (ps n tp k) = 0 := by
  rcases tk_cases hw (ps_le n tp k) with ⟨-, a, b⟩ | ⟨a, hi, hl, -, b, -⟩ | ⟨a, -, -, -, b, -⟩ | ⟨a, hi, hs, -, b⟩ | ⟨a, -, b⟩
  · exact ⟨fun _ => a, fun _ => b⟩
  · have h1 := tk_letw hi hl
    have b' : tW n tp k = wfd (lts tp (ps n tp k) (tkM n tp (ps n tp k))) := b
    constructor
    · intro h
      omega
    · intro h
      omega
  · have b' : tW n tp k = 39 := b
    constructor
    · intro h
      omega
    · intro h
      omega
  · have b' : tW n tp k = sgo (tp (ps n tp k)) := b
    have h2 := hw.2 _ hi
    have h1 := sgo_le (tp (ps n tp k)) (by omega) hs
    constructor
    · intro h
      omega
    · intro h
      omega
  · have b' : tW n tp k = 41 := b
    constructor
    · intro h
      omega
    · intro h
      omega
theorem raX_refl {σ : St} : raX σ σ := raX_rd rdX_refl
abbrev mGo (n : Nat) (tp : Nat → Nat) (N k c : Nat) (T : Vw) (O : Nat → Nat) (m : Nat) (np idn : Nat → Nat) (o : Nat) (LD LP : List Nat) (fm : Nat) (σm : St) : Prop := ∀ Q : Int32 × St → Prop, (∀ τ, raM σm τ → SyM n tp N k c T O m np idn o LD LP τ → wp (rM_mountain_84 τ) Q) → wp (lp rM_mountain_52L fm σm) Q
abbrev mNo (n : Nat) (tp : Nat → Nat) (N F fm : Nat) (σm : St) : Prop := ∀ Q : Int32 × St → Prop, (∀ τ, raM σm τ → (∃ k', RM n tp N k' F τ) → wp (rM_mountain_84 τ) Q) → wp (lp rM_mountain_52L fm σm) Q
def RdO (n : Nat) (tp : Nat → Nat) (N hb K0 k d : Nat) (P : St → Prop) (fm : Nat) (σm : St) : Prop := (∃ k' c' T' O' m' np' idn' o' LD' LP', SyW n tp T' O' m' np' idn' o' LD' LP' ∧ c' ≤ 1000 ∧ mGo n tp N k' c' T' O' m' np' idn' o' LD' LP' fm σm ∧ ∀ σx i fx, P σx → i ≤ k → d < fx → wp (lp (rX_readAll_26L hb K0 2 2000) fx (I i, σx)) (fun r => r.1 = 0 ∧ raX σx r.2 ∧ SyX n tp K0 k' T' O' m' np' idn' o' LD' LP' r.2)) ∨ (∃ F, 0 < F ∧ F < 20000 ∧ mNo n tp N F fm σm ∧ ∀ σx i fx, P σx → i ≤ k → d < fx → wp (lp (rX_readAll_26L hb K0 2 2000) fx (I i, σx)) (fun r => r.1 = I F ∧ raX σx r.2 ∧ Kn r.2 ≤ K0 + 2))
theorem m52_end {n : Nat} {tp : Nat → Nat} (hw : wfP n tp) {N k : Nat} {σ : St} (h : RM n tp N k 0 σ) (h40 : tW n tp k = 40) (k52 : St → Option (Int32 × St)) : rM_mountain_52 k52 σ = rM_mountain_84 σ := by
  have hN := h.1.1
  have hk := h.2.1
  have t := (RM_tok h).2.1
  rw [(tW_40 hw k).mp h40] at t
  unfold rM_mountain_52
  rw [brc_f (fun h9 => h9 (F_0 h).1), h.2.2.1, chk_t (ib_I (by omega) (by omega)), I_cl (by omega), t, brc_t (by decide)]
theorem m52_go {n : Nat} {tp : Nat → Nat} (hw : wfP n tp) {N k : Nat} {σ : St} (h : RM n tp N k 0 σ) (h40 : ¬ tW n tp k = 40) (k52 : St → Option (Int32 × St)) : rM_mountain_52 k52 σ = bnd1 (rM_readLine σ) fun τ => bnd1 (rM_takeSign (59 : Int32) τ) fun υ => k52 υ := by
  have hN := h.1.1
  have hk := h.2.1
  have t := (RM_tok h).2.1
  have t0 : ¬ tkS n tp (ps n tp k) = 0 := fun h9 => h40 ((tW_40 hw k).mpr h9)
  have t5 : tkS n tp (ps n tp k) < 5 := by
    rcases tk_cases hw (ps_le n tp k) with ⟨-, a, -⟩ | ⟨a, -⟩ | ⟨a, -⟩ | ⟨a, -⟩ | ⟨a, -⟩ <;> omega
  unfold rM_mountain_52
  rw [brc_f (fun h9 => h9 (F_0 h).1), h.2.2.1, chk_t (ib_I (by omega) (by omega)), I_cl (by omega), t, brc_f (by rw [I0, I_inj (by omega) (by omega)]; exact t0)]
theorem m52_F {n : Nat} {tp : Nat → Nat} {N k F : Nat} {σ : St} (h : RM n tp N k F σ) (hF : 0 < F ∧ F < 20000) (k52 : St → Option (Int32 × St)) : rM_mountain_52 k52 σ = rM_mountain_84 σ := by
  unfold rM_mountain_52
  rw [brc_t (F_ne h ⟨hF.1, by omega⟩).1]
theorem lineM_2 {σ : St} {Q : Int32 × St → Prop} {R : St → Prop} {k52 : St → Option (Int32 × St)} (h : wp (lineM σ) R) (hq : ∀ τ, R τ → wp (k52 τ) Q) : wp (bnd1 (rM_readLine σ) fun τ => bnd1 (rM_takeSign (59 : Int32) τ) fun υ => k52 υ) Q := by
  obtain ⟨υ, e, r⟩ := h
  obtain ⟨τ, e1, e2⟩ := bnd1_some e
  rw [e1, bnd1S, e2, bnd1S]
  exact hq υ r
theorem read_loop {n : Nat} {tp : Nat → Nat} (hw : wfP n tp) {N hb K0 : Nat} : ∀ (d k c fm : Nat) (T : Vw) (O : Nat → Nat) (m : Nat) (np idn : Nat → Nat) (o : Nat) (LD LP : List Nat) (σm : St), N ≤ k + d → d + 1 < fm → SyW n tp T O m np idn o LD LP → SyM n tp N k c T O m np idn o LD LP σm → RdO n tp N hb K0 k d (SyX n tp K0 k T O m np idn o LD LP) fm σm := by
  intro d
  induction d with
  | zero =>
    intro k c fm T O m np idn o LD LP σm hd hf w y
    have h40 : tW n tp k = 40 := by
      apply Classical.byContradiction
      intro h
      have := wd_in y.1 h
      omega
    have hN := y.1.1.1
    have hk := y.1.2.1
    have hc := y.2.2.2.2.2.2.2.2.1
    refine Or.inl ⟨k, c, T, O, m, np, idn, o, LD, LP, w, by omega, ?_, ?_⟩
    · intro Q hq
      obtain ⟨f, rfl⟩ : ∃ f, fm = f + 1 := ⟨fm - 1, by omega⟩
      show wp (rM_mountain_52 (fun σ => lp rM_mountain_52L f σ) σm) Q
      rw [m52_end hw y.1 h40]
      exact hq σm raM_refl y
    · intro σx i fx x hi hfx
      obtain ⟨f, rfl⟩ : ∃ f, fx = f + 1 := ⟨fx - 1, by omega⟩
      show wp (rX_readAll_26 hb K0 2 2000 (fun v1 σ => lp (rX_readAll_26L hb K0 2 2000) f (v1, σ)) (I i) σx) _
      rw [x26_end (x.1.2.2.2.2.1.trans h40)]
      exact wp_some ⟨rfl, raX_refl, x⟩
  | succ d ih =>
    intro k c fm T O m np idn o LD LP σm hd hf w y
    have hN := y.1.1.1
    have hk := y.1.2.1
    have hc := y.2.2.2.2.2.2.2.2.1
    obtain ⟨f, rfl⟩ : ∃ f, fm = f + 1 := ⟨fm - 1, by omega⟩
    by_cases h40 : tW n tp k = 40
    · refine Or.inl ⟨k, c, T, O, m, np, idn, o, LD, LP, w, by omega, ?_, ?_⟩
      · intro Q hq
        show wp (rM_mountain_52 (fun σ => lp rM_mountain_52L f σ) σm) Q
        rw [m52_end hw y.1 h40]
        exact hq σm raM_refl y
      · intro σx i fx x hi hfx
        obtain ⟨f, rfl⟩ : ∃ f, fx = f + 1 := ⟨fx - 1, by omega⟩
        show wp (rX_readAll_26 hb K0 2 2000 (fun v1 σ => lp (rX_readAll_26L hb K0 2 2000) f (v1, σ)) (I i) σx) _
        rw [x26_end (x.1.2.2.2.2.1.trans h40)]
        exact wp_some ⟨rfl, raX_refl, x⟩
    · have hkN := wd_in y.1 h40
      rcases line_any (hb := hb) (K0 := K0) hw h40 w y with ⟨k', c', T', O', m', np', idn', o', LD', LP', hk', w', hM, hX⟩ | ⟨F, hF0, hF2, hM, hX⟩
      · obtain ⟨τm, em, fr, sm⟩ := hM
        rcases ih k' c' f T' O' m' np' idn' o' LD' LP' τm (by omega) (by omega) w' sm with ⟨k2, c2, T2, O2, m2, np2, idn2, o2, LD2, LP2, w2, hc2, gM, gX⟩ | ⟨F, hF0, hF2, gM, gX⟩
        · refine Or.inl ⟨k2, c2, T2, O2, m2, np2, idn2, o2, LD2, LP2, w2, hc2, ?_, ?_⟩
          · intro Q hq
            show wp (rM_mountain_52 (fun σ => lp rM_mountain_52L f σ) σm) Q
            rw [m52_go hw y.1 h40]
            refine lineM_2 (R := fun τ => τ = τm) (wp_eq em rfl) ?_
            rintro τ rfl
            exact gM Q (fun υ f1 s1 => hq υ (raM_tr fr f1) s1)
          · intro σx i fx x hi hfx
            obtain ⟨g, rfl⟩ : ∃ g, fx = g + 1 := ⟨fx - 1, by omega⟩
            show wp (rX_readAll_26 hb K0 2 2000 (fun v1 σ => lp (rX_readAll_26L hb K0 2 2000) g (v1, σ)) (I i) σx) _
            refine hX σx x (fun v1 σ => lp (rX_readAll_26L hb K0 2 2000) g (v1, σ)) i _ (by omega) ?_ ?_
            · rintro τ ⟨-, f1, s1⟩
              refine wp_mono (gX τ (i + 1) g s1 (by omega) (by omega)) ?_
              rintro r ⟨q1, q2, q3⟩
              exact ⟨q1, raX_tr f1 q2, q3⟩
            · rintro τ ⟨h9, -⟩
              exact absurd (show (0 : Int32) = 1 from h9) (by decide)
        · refine Or.inr ⟨F, hF0, hF2, ?_, ?_⟩
          · intro Q hq
            show wp (rM_mountain_52 (fun σ => lp rM_mountain_52L f σ) σm) Q
            rw [m52_go hw y.1 h40]
            refine lineM_2 (R := fun τ => τ = τm) (wp_eq em rfl) ?_
            rintro τ rfl
            exact gM Q (fun υ f1 s1 => hq υ (raM_tr fr f1) s1)
          · intro σx i fx x hi hfx
            obtain ⟨g, rfl⟩ : ∃ g, fx = g + 1 := ⟨fx - 1, by omega⟩
            show wp (rX_readAll_26 hb K0 2 2000 (fun v1 σ => lp (rX_readAll_26L hb K0 2 2000) g (v1, σ)) (I i) σx) _
            refine hX σx x (fun v1 σ => lp (rX_readAll_26L hb K0 2 2000) g (v1, σ)) i _ (by omega) ?_ ?_
            · rintro τ ⟨-, f1, s1⟩
              refine wp_mono (gX τ (i + 1) g s1 (by omega) (by omega)) ?_
              rintro r ⟨q1, q2, q3⟩
              exact ⟨q1, raX_tr f1 q2, q3⟩
            · rintro τ ⟨h9, -⟩
              exact absurd (show (0 : Int32) = 1 from h9) (by decide)
      · refine Or.inr ⟨F, hF0, hF2, ?_, ?_⟩
        · intro Q hq
          show wp (rM_mountain_52 (fun σ => lp rM_mountain_52L f σ) σm) Q
          rw [m52_go hw y.1 h40]
          refine lineM_2 hM ?_
          rintro τ ⟨fr, k', r⟩
          obtain ⟨g, rfl⟩ : ∃ g, f = g + 1 := ⟨f - 1, by omega⟩
          show wp (rM_mountain_52 (fun σ => lp rM_mountain_52L g σ) τ) Q
          rw [m52_F r ⟨hF0, hF2⟩]
          exact hq τ fr ⟨k', r⟩
        · intro σx i fx x hi hfx
          obtain ⟨g, rfl⟩ : ∃ g, fx = g + 1 := ⟨fx - 1, by omega⟩
          show wp (rX_readAll_26 hb K0 2 2000 (fun v1 σ => lp (rX_readAll_26L hb K0 2 2000) g (v1, σ)) (I i) σx) _
          refine hX σx x (fun v1 σ => lp (rX_readAll_26L hb K0 2 2000) g (v1, σ)) i _ (by omega) ?_ ?_
          · rintro τ ⟨h9, -⟩
            exact absurd (show (1 : Int32) = 0 from h9) (by decide)
          · rintro τ ⟨-, f1, e, hk⟩
            exact ⟨e, f1, hk⟩
