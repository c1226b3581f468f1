/-! a station, a way, a carrier, a debt, a setting: both readers -/
theorem ps_le (n : Nat) (tp : Nat → Nat) : ∀ k, ps n tp k ≤ n
  | 0 => (tkR_b (Nat.zero_le n)).2
  | k + 1 => by
    show nxt n tp (ps n tp k) ≤ n
    unfold nxt
    exact (tkR_b (tkE_b (ps_le n tp k)).2).2
theorem stT_wf {T : Vw} {h f : Nat} (w : wfT T) (h7 : T 0 0 < 7) (hh : h ≤ 99) (hf : f ≤ 9) : wfT (stT T h f) := by
  obtain ⟨a1, a2, a3, a4, a5, a6, a7, a8⟩ := w
  have e0 : stT T h f 0 0 = T 0 0 + 1 := if_pos ⟨rfl, rfl⟩
  have en : ∀ a b, ¬ (a = 0 ∧ b = 0) → ¬ a = 1 → ¬ a = 2 → stT T h f a b = T a b := fun a b x y z => by
    unfold stT
    rw [if_neg x, if_neg (fun q => y q.1), if_neg (fun q => z q.1)]
  have e1 : ∀ s, stT T h f 1 s = if s = T 0 0 then h else T 1 s := fun s => by simp [stT]
  have e2 : ∀ s, stT T h f 2 s = if s = T 0 0 then f else T 2 s := fun s => by simp [stT]
  refine ⟨by rw [e0]; omega, by rw [en 0 2 (by omega) (by omega) (by omega)]; exact a2, by rw [en 0 3 (by omega) (by omega) (by omega)]; exact a3, by rw [en 0 4 (by omega) (by omega) (by omega)]; exact a4, by rw [en 0 5 (by omega) (by omega) (by omega)]; exact a5, fun s hs => ?_, fun q hq => ?_, fun c hc => ?_⟩
  · rw [e0] at hs
    rw [e1, e2]
    by_cases e : s = T 0 0
    · rw [if_pos e, if_pos e]; exact ⟨hh, hf⟩
    · rw [if_neg e, if_neg e]; exact a6 s (by omega)
  · rw [en 3 q (by omega) (by omega) (by omega), en 4 q (by omega) (by omega) (by omega)]; exact a7 q hq
  · rw [en 0 2 (by omega) (by omega) (by omega)] at hc
    rw [en 5 c (by omega) (by omega) (by omega), en 6 c (by omega) (by omega) (by omega), en 7 c (by omega) (by omega) (by omega), en 8 c (by omega) (by omega) (by omega)]
    exact a8 c hc
theorem wyT_wf {T : Vw} {a b l t : Nat} (w : wfT T) (hl : l ≤ 99) (ht : t ≤ 9) : wfT (wyT T a b l t) := by
  obtain ⟨a1, a2, a3, a4, a5, a6, a7, a8⟩ := w
  refine ⟨by rw [wyT_n T a b l t (by omega) (by omega) (by omega)]; exact a1, by rw [wyT_n T a b l t (by omega) (by omega) (by omega)]; exact a2, by rw [wyT_n T a b l t (by omega) (by omega) (by omega)]; exact a3, by rw [wyT_n T a b l t (by omega) (by omega) (by omega)]; exact a4, by rw [wyT_n T a b l t (by omega) (by omega) (by omega)]; exact a5, fun s hs => ?_, fun q hq => ?_, fun c hc => ?_⟩
  · rw [wyT_n T a b l t (by omega) (by omega) (by omega)] at hs
    rw [wyT_n T a b l t (by omega) (by omega) (by omega), wyT_n T a b l t (by omega) (by omega) (by omega)]
    exact a6 s hs
  · rw [wyT_3, wyT_4]
    have := a7 q hq
    constructor
    · split <;> omega
    · split <;> omega
  · rw [wyT_n T a b l t (by omega) (by omega) (by omega)] at hc
    rw [wyT_n T a b l t (by omega) (by omega) (by omega), wyT_n T a b l t (by omega) (by omega) (by omega), wyT_n T a b l t (by omega) (by omega) (by omega), wyT_n T a b l t (by omega) (by omega) (by omega)]
    exact a8 c hc
theorem crT_wf {T : Vw} {kd sk lk th : Nat} (w : wfT T) (h6 : T 0 2 < 6) (h1 : kd ≤ 5) (h2 : sk ≤ 60) (h3 : lk ≤ 20) (h4 : th ≤ 9) : wfT (crT T kd sk lk th) := by
  obtain ⟨a1, a2, a3, a4, a5, a6, a7, a8⟩ := w
  refine ⟨by rw [crT_n T kd sk lk th (by omega) (by omega)]; exact a1, by rw [crT_2]; omega, by rw [crT_n T kd sk lk th (by omega) (by omega)]; exact a3, by rw [crT_n T kd sk lk th (by omega) (by omega)]; exact a4, by rw [crT_n T kd sk lk th (by omega) (by omega)]; exact a5, fun s hs => ?_, fun q hq => ?_, fun c hc => ?_⟩
  · rw [crT_n T kd sk lk th (by omega) (by omega)] at hs
    rw [crT_n T kd sk lk th (by omega) (by omega), crT_n T kd sk lk th (by omega) (by omega)]
    exact a6 s hs
  · rw [crT_n T kd sk lk th (by omega) (by omega), crT_n T kd sk lk th (by omega) (by omega)]
    exact a7 q hq
  · rw [crT_2] at hc
    rw [crT_5, crT_6, crT_7, crT_8]
    by_cases e : c = T 0 2
    · rw [if_pos e, if_pos e, if_pos e, if_pos e]; exact ⟨h1, h2, h3, h4⟩
    · rw [if_neg e, if_neg e, if_neg e, if_neg e]; exact a8 c (by omega)
theorem seT_wf {T : Vw} {e v : Nat} (w : wfT T) (he : e < 3) (hv : v ≤ seHi e) : wfT (seT T e v) := by
  obtain ⟨a1, a2, a3, a4, a5, a6, a7, a8⟩ := w
  have e3 : ∀ j, j < 3 → seT T e v 0 (3 + j) = if j = e then v else T 0 (3 + j) := fun j _ => by
    by_cases h : j = e
    · rw [if_pos h, h, seT_s]
    · rw [if_neg h, seT_n T e v (by omega)]
  have h0 : seT T e v 0 3 = if 0 = e then v else T 0 3 := e3 0 (by omega)
  have h1 : seT T e v 0 4 = if 1 = e then v else T 0 4 := e3 1 (by omega)
  have h2 : seT T e v 0 5 = if 2 = e then v else T 0 5 := e3 2 (by omega)
  have hs : seHi 0 = 99 ∧ seHi 1 = 200 ∧ seHi 2 = 999 := by decide
  refine ⟨by rw [seT_n T e v (by omega)]; exact a1, by rw [seT_n T e v (by omega)]; exact a2, ?_, ?_, ?_, fun s hs => ?_, fun q hq => ?_, fun c hc => ?_⟩
  · rw [h0]
    split
    · rename_i h; subst h; omega
    · exact a3
  · rw [h1]
    split
    · rename_i h; subst h; omega
    · exact a4
  · rw [h2]
    split
    · rename_i h; subst h; omega
    · exact a5
  · rw [seT_n T e v (by omega)] at hs
    rw [seT_n T e v (by omega), seT_n T e v (by omega)]
    exact a6 s hs
  · rw [seT_n T e v (by omega), seT_n T e v (by omega)]
    exact a7 q hq
  · rw [seT_n T e v (by omega)] at hc
    rw [seT_n T e v (by omega), seT_n T e v (by omega), seT_n T e v (by omega), seT_n T e v (by omega)]
    exact a8 c hc
section
variable {n : Nat} {tp : Nat → Nat} {N hb K0 k c : Nat} {T : Vw} {O : Nat → Nat} {m : Nat} {np idn : Nat → Nat} {o : Nat} {LD LP : List Nat} {σm : St}
theorem stF_0 {S : Nat} (h : stF n tp m np S k = 0) : S < 7 ∧ nnF n tp m np (k + 1) = 0 ∧ afF n tp (k + 2) 1 0 99 = 0 ∧ afF n tp (k + 4) 2 0 9 = 0 := by
  unfold stF at h
  split at h
  · split at h
    · split at h
      · rename_i h1 h2 h3
        exact ⟨h1, h2, h3, h⟩
      · omega
    · omega
  · omega
theorem line_st (hw : wfP n tp) (hW : tW n tp k = 0) (w : SyW n tp T O m np idn o LD LP) (y : SyM n tp N k c T O m np idn o LD LP σm) : LO n tp N hb K0 k (SyX n tp K0 k T O m np idn o LD LP) σm := by
  have hN := w.2.2.2.2.2.1
  refine line_of hw (F := stF n tp m np (T 0 0) k) (k1 := k + 6) (c1 := c) (T' := stT T (tV n tp (k + 3)) (tV n tp (k + 5))) (O' := O) (m' := m + 1) (np' := updN np m (ps n tp (k + 1))) (idn' := updN idn m (T 0 0)) (o' := o) (LD' := LD) (LP' := LP) (S := rX_readStation) (fun σx x => by have x7 := x.2.2.2.2.2.2.1; omega) (by omega) ?_ ?_ (fun σx x k26 i hi => x26_0 (x.1.2.2.2.2.1.trans hW) hi k26) ?_
  · intro h0
    obtain ⟨h1, h2, h3, h4⟩ := stF_0 h0
    have h3' := (afF_0 h3).2
    have h4' := (afF_0 h4).2
    have hn := nnF_0 h2
    obtain ⟨w1, w2, w3, w4, w5, w6, w7, w8⟩ := w
    have e3 : ∀ q, stT T (tV n tp (k + 3)) (tV n tp (k + 5)) 3 q = T 3 q := fun q => by simp [stT]
    have e1 : stT T (tV n tp (k + 3)) (tV n tp (k + 5)) 0 1 = T 0 1 := by simp [stT]
    have e2 : stT T (tV n tp (k + 3)) (tV n tp (k + 5)) 0 2 = T 0 2 := by simp [stT]
    have e0 : stT T (tV n tp (k + 3)) (tV n tp (k + 5)) 0 0 = T 0 0 + 1 := by simp [stT]
    refine ⟨stT_wf w1 h1 h3' h4', by rw [e1]; exact w2, symT_cg e3 w3, by rw [E21_cg e3, e1]; exact w4, w5, ?_, w7, w8⟩
    rw [e0, e2]
    exact Nm_S w6 h1 (cnm_T hw (ps_le n tp _) hn.1) hn.2
  · rw [(rl_dis hw y.1).1 hW]
    refine wp_b1 (wp_mono (eM_readStation hw y.1 (by omega) hN y.2.2.2.1 y.2.1) ?_)
    rintro τ ⟨f, ⟨a, r, d, e⟩ | ⟨a, b, r⟩⟩
    · exact ⟨raM_dr f, Or.inl ⟨a, SyM_dr y f r (by omega) d e⟩⟩
    · exact ⟨raM_dr f, Or.inr ⟨a, b, r⟩⟩
  · intro σx x
    refine wp_mono (eX_readStation hw x.1 hN x.2.2.2.1 x.2.1) ?_
    rintro ⟨r, τ⟩ ⟨f, ⟨a, b, d, e, g, h19⟩ | ⟨a, b, d⟩⟩
    · exact ⟨raX_dr f, f.2.2.2.2.2, Or.inl ⟨a, b, SyX_dr x f d h19 e g⟩⟩
    · exact ⟨raX_dr f, f.2.2.2.2.2, Or.inr ⟨a, b, d⟩⟩
theorem wyF_0 (h : wyF n tp m np idn T k = 0) : T 0 1 < 12 ∧ tdF n tp m np idn (k + 1) 0 7 = 0 ∧ tdF n tp m np idn (k + 2) 0 7 = 0 ∧ ¬ fS n tp m np idn (k + 1) = fS n tp m np idn (k + 2) ∧ afF n tp (k + 3) 4 1 99 = 0 ∧ afF n tp (k + 5) 5 0 9 = 0 := by
  unfold wyF at h
  split at h
  · split at h
    · split at h
      · split at h
        · omega
        · split at h
          · rename_i h1 h2 h3 h4 h5
            exact ⟨h1, h2, h3, fun q => h4 (Or.inl q), h5, h⟩
          · omega
      · omega
    · omega
  · omega
theorem line_wy (hw : wfP n tp) (hW : tW n tp k = 3) (w : SyW n tp T O m np idn o LD LP) (y : SyM n tp N k c T O m np idn o LD LP σm) : LO n tp N hb K0 k (SyX n tp K0 k T O m np idn o LD LP) σm := by
  have hN := w.2.2.2.2.2.1
  have h99 : ∀ q, q < 49 → T 3 q ≤ 99 := fun q hq => (w.1.2.2.2.2.2.2.1 q hq).1
  refine line_of hw (F := wyF n tp m np idn T k) (k1 := k + 7) (c1 := c) (T' := wyT T (fS n tp m np idn (k + 1)) (fS n tp m np idn (k + 2)) (tV n tp (k + 4)) (tV n tp (k + 6))) (O' := O) (m' := m) (np' := np) (idn' := idn) (o' := o) (LD' := LD) (LP' := LP) (S := rX_readWay) (fun σx x => by have x7 := x.2.2.2.2.2.2.1; omega) (by omega) ?_ ?_ (fun σx x k26 i hi => x26_3 (x.1.2.2.2.2.1.trans hW) hi k26) ?_
  · intro h0
    obtain ⟨h1, h2, h3, h4, h5, h6⟩ := wyF_0 h0
    have h5' : 1 ≤ tV n tp (k + 4) ∧ tV n tp (k + 4) ≤ 99 := afF_0 h5
    have h6' : tV n tp (k + 6) ≤ 9 := (afF_0 h6).2
    have a7 : fS n tp m np idn (k + 1) < 7 := by
      have h9 := (tdF_0 h2).2.2
      show fdI n tp np idn (ps n tp (k + 1)) m < 7
      omega
    have b7 : fS n tp m np idn (k + 2) < 7 := by
      have h9 := (tdF_0 h3).2.2
      show fdI n tp np idn (ps n tp (k + 2)) m < 7
      omega
    obtain ⟨w1, w2, w3, w4, w5, w6, w7, w8⟩ := w
    have e1 : wyT T (fS n tp m np idn (k + 1)) (fS n tp m np idn (k + 2)) (tV n tp (k + 4)) (tV n tp (k + 6)) 0 1 = T 0 1 + 1 := if_pos ⟨rfl, rfl⟩
    have e21 := E21_wy (T := T) (a := fS n tp m np idn (k + 1)) (b := fS n tp m np idn (k + 2)) (l := tV n tp (k + 4)) (t := tV n tp (k + 6)) (by omega) a7 b7 h4
    refine ⟨wyT_wf w1 h5'.2 h6', by rw [e1]; omega, wyT_sym w3 a7 b7, by rw [e1]; omega, w5, ?_, w7, w8⟩
    rw [wyT_n T _ _ _ _ (by omega) (by omega) (by omega), wyT_n T _ _ _ _ (by omega) (by omega) (by omega)]
    exact w6
  · rw [(rl_dis hw y.1).2.1 hW]
    refine wp_b1 (wp_mono (eM_readWay hw y.1 (by omega) hN y.2.2.2.1 y.2.1 w.2.1 h99) ?_)
    rintro τ ⟨f, ⟨a, r, d, e⟩ | ⟨a, b, r⟩⟩
    · exact ⟨raM_dr f, Or.inl ⟨a, SyM_dr y f r (by omega) d e⟩⟩
    · exact ⟨raM_dr f, Or.inr ⟨a, b, r⟩⟩
  · intro σx x
    refine wp_mono (eX_readWay hw x.1 hN x.2.2.2.1 x.2.1 w.2.1 h99) ?_
    rintro ⟨r, τ⟩ ⟨f, h19, hJ, ⟨a, b, d, e⟩ | ⟨a, b, d⟩⟩
    · exact ⟨raX_dr f, f.2.2.2.2.2, Or.inl ⟨a, b, SyX_dr x f d h19 e (XNm_fr (hJ 8 (by decide)) (hJ 9 (by decide)) x.2.2.2.1)⟩⟩
    · exact ⟨raX_dr f, f.2.2.2.2.2, Or.inr ⟨a, b, d⟩⟩
theorem crF_0 {C : Nat} (h : crF n tp m np C k = 0) : C < 6 ∧ nnF n tp m np (k + 1) = 0 ∧ (16 ≤ tW n tp (k + 2) ∧ tW n tp (k + 2) ≤ 21) ∧ afF n tp (k + 3) 7 1 60 = 0 ∧ afF n tp (k + 5) 8 0 20 = 0 ∧ afF n tp (k + 7) 9 0 9 = 0 := by
  unfold crF at h
  split at h
  · split at h
    · split at h
      · split at h
        · split at h
          · rename_i h1 h2 h3 h4 h5
            exact ⟨h1, h2, h3, h4, h5, h⟩
          · omega
        · omega
      · omega
    · omega
  · omega
theorem line_cr (hw : wfP n tp) (hW : tW n tp k = 6) (w : SyW n tp T O m np idn o LD LP) (y : SyM n tp N k c T O m np idn o LD LP σm) : LO n tp N hb K0 k (SyX n tp K0 k T O m np idn o LD LP) σm := by
  have hN := w.2.2.2.2.2.1
  refine line_of hw (F := crF n tp m np (T 0 2) k) (k1 := k + 9) (c1 := c) (T' := crT T (tW n tp (k + 2) - 16) (tV n tp (k + 4)) (tV n tp (k + 6)) (tV n tp (k + 8))) (O' := O) (m' := m + 1) (np' := updN np m (ps n tp (k + 1))) (idn' := updN idn m (7 + T 0 2)) (o' := o) (LD' := LD) (LP' := LP) (S := rX_readCarrier) (fun σx x => by have x7 := x.2.2.2.2.2.2.1; omega) (by omega) ?_ ?_ (fun σx x k26 i hi => x26_6 (x.1.2.2.2.2.1.trans hW) hi k26) ?_
  · intro h0
    obtain ⟨h1, h2, h3, h4, h5, h6⟩ := crF_0 h0
    have h4' := (afF_0 h4).2
    have h5' := (afF_0 h5).2
    have h6' := (afF_0 h6).2
    have hn := nnF_0 h2
    obtain ⟨w1, w2, w3, w4, w5, w6, w7, w8⟩ := w
    have e3 : ∀ q, crT T (tW n tp (k + 2) - 16) (tV n tp (k + 4)) (tV n tp (k + 6)) (tV n tp (k + 8)) 3 q = T 3 q := fun q => crT_n T _ _ _ _ (by omega) (by omega)
    have e1 : crT T (tW n tp (k + 2) - 16) (tV n tp (k + 4)) (tV n tp (k + 6)) (tV n tp (k + 8)) 0 1 = T 0 1 := crT_n T _ _ _ _ (by omega) (by omega)
    refine ⟨crT_wf w1 h1 (by omega) h4' h5' h6', by rw [e1]; exact w2, symT_cg e3 w3, by rw [E21_cg e3, e1]; exact w4, w5, ?_, w7, w8⟩
    rw [crT_2, crT_n T _ _ _ _ (by omega) (by omega)]
    exact Nm_C w6 h1 (cnm_T hw (ps_le n tp _) hn.1) hn.2
  · rw [(rl_dis hw y.1).2.2.1 hW]
    refine wp_b1 (wp_mono (eM_readCarrier hw y.1 (by omega) hN y.2.2.2.1 y.2.1) ?_)
    rintro τ ⟨f, ⟨a, r, d, e⟩ | ⟨a, b, r⟩⟩
    · exact ⟨raM_dr f, Or.inl ⟨a, SyM_dr y f r (by omega) d e⟩⟩
    · exact ⟨raM_dr f, Or.inr ⟨a, b, r⟩⟩
  · intro σx x
    refine wp_mono (eX_readCarrier hw x.1 hN x.2.2.2.1 x.2.1) ?_
    rintro ⟨r, τ⟩ ⟨f, ⟨a, b, d, e, g, h19⟩ | ⟨a, b, d⟩⟩
    · exact ⟨raX_dr f, f.2.2.2.2.2, Or.inl ⟨a, b, SyX_dr x f d h19 e g⟩⟩
    · exact ⟨raX_dr f, f.2.2.2.2.2, Or.inr ⟨a, b, d⟩⟩
theorem owF_0 (h : owF n tp m np idn O k = 0) : nF n tp (k + 3) 1 99 = 0 := by
  unfold owF at h
  split at h
  · split at h
    · split at h
      · omega
      · split at h
        · assumption
        · omega
    · omega
  · omega
theorem line_ow (hw : wfP n tp) (hW : tW n tp k = 10) (w : SyW n tp T O m np idn o LD LP) (y : SyM n tp N k c T O m np idn o LD LP σm) : LO n tp N hb K0 k (SyX n tp K0 k T O m np idn o LD LP) σm := by
  have hN := w.2.2.2.2.2.1
  have h99 := w.2.2.2.2.1
  refine line_of hw (F := owF n tp m np idn O k) (k1 := k + 4) (c1 := c) (T' := T) (O' := updN O (6 * fC n tp m np idn (k + 1) + fC n tp m np idn (k + 2)) (tV n tp (k + 3))) (m' := m) (np' := np) (idn' := idn) (o' := o) (LD' := LD) (LP' := LP) (S := rX_readOwes) (fun σx x => by have x7 := x.2.2.2.2.2.2.1; omega) (by omega) ?_ ?_ (fun σx x k26 i hi => x26_10 (x.1.2.2.2.2.1.trans hW) hi k26) ?_
  · intro h0
    have h1 := (nF_0 (owF_0 h0)).2
    obtain ⟨w1, w2, w3, w4, w5, w6, w7, w8⟩ := w
    refine ⟨w1, w2, w3, w4, fun q hq => ?_, w6, w7, w8⟩
    unfold updN
    split
    · exact h1
    · exact w5 q hq
  · rw [(rl_dis hw y.1).2.2.2.1 hW]
    refine wp_b1 (wp_mono (eM_readOwe hw y.1 (by omega) hN y.2.2.2.1 y.2.2.1 h99) ?_)
    rintro τ ⟨f, ⟨a, r, d⟩ | ⟨a, b, r⟩⟩
    · obtain ⟨-, a2, -, a4, a5, a6, a7, a8, a9, a10, a11⟩ := y
      have e6 : τ.1 6 = σm.1 6 := f.1 6 (by decide) (by decide)
      have e8 : ∀ q, q < 1100 + c → τ.1 8 q = σm.1 8 q ∧ τ.1 9 q = σm.1 9 q := fun q _ => ⟨by rw [f.1 8 (by decide) (by decide)], by rw [f.1 9 (by decide) (by decide)]⟩
      exact ⟨raM_ow f, Or.inl ⟨a, r, MDr_fr e6 a2, d, MNm_dr (f.2.1 17 (by decide)) (f.1 11 (by decide) (by decide)) (by rw [f.2.2]) a4, by rw [f.2.1 18 (by decide)]; exact a5, MLd_fr (by rw [e6]) e8 (Nat.le_refl _) a6, MLd_fr (by rw [e6]) e8 (Nat.le_refl _) a7, by rw [f.2.1 14 (by decide)]; exact a8, by omega, by rw [f.1 12 (by decide) (by decide)]; exact a10, by rw [f.1 13 (by decide) (by decide)]; exact a11⟩⟩
    · exact ⟨raM_ow f, Or.inr ⟨a, b, r⟩⟩
  · intro σx x
    refine wp_mono (eX_readOwes hw x.1 hN x.2.2.2.1 x.2.1.2.2.1 x.2.2.1 h99) ?_
    rintro ⟨r, τ⟩ ⟨f, g, hJ, ⟨a, b, d, e⟩ | ⟨a, b, d⟩⟩
    · obtain ⟨-, a2, -, a4, a5, a6, a7, a8⟩ := x
      exact ⟨raX_dr f, f.2.2.2.2.2, Or.inl ⟨a, b, d, XDr_fr (fun i h1 h2 => g i (by omega) (by omega) (by omega)) a2, e, XNm_fr (hJ 8 (by decide)) (hJ 9 (by decide)) a4, by rw [f.2.2.1 5 (by decide) (by decide)]; exact a5, XLd_fr (f.2.2.2.2.1 10 (by decide)) f.2.2.2.2.2 a6, by rw [Kn_eq f.2.2.2.2.2]; exact a7, (raX_dr f).2.2.2.2.2 a8⟩⟩
    · exact ⟨raX_dr f, f.2.2.2.2.2, Or.inr ⟨a, b, d⟩⟩
theorem seF_0 {e : Nat} (h : seF n tp o e k = 0) : nF n tp (k + 1) (seLo e) (seHi e) = 0 := by
  unfold seF at h
  split at h
  · split at h
    · assumption
    · omega
  · omega
theorem ob_lo : ∀ o, o < 32 → ∀ e, e < 3 → (o ||| 2 ^ (e + 2)) % 2 = o % 2 ∧ (o ||| 2 ^ (e + 2)) / 2 % 2 = o / 2 % 2 ∧ (o ||| 2 ^ (e + 2)) < 32 := by decide
theorem line_se (hw : wfP n tp) {e : Nat} (he : e < 3) (hW : tW n tp k = 13 + e) (w : SyW n tp T O m np idn o LD LP) (y : SyM n tp N k c T O m np idn o LD LP σm) : LO n tp N hb K0 k (SyX n tp K0 k T O m np idn o LD LP) σm := by
  have ho := w.2.2.2.2.2.2.1
  have ob := ob_lo o ho e he
  have eE : tW n tp k - 13 = e := by omega
  have eF : onF n tp o k = seF n tp o e k := by
    unfold onF
    rw [if_pos ⟨by omega, by omega⟩, eE]
  refine line_of hw (F := seF n tp o e k) (k1 := k + 2) (c1 := c) (T' := seT T e (tV n tp (k + 1))) (O' := O) (m' := m) (np' := np) (idn' := idn) (o' := o ||| 2 ^ (e + 2)) (LD' := LD) (LP' := LP) (S := rX_readSetting (13 + e)) (fun σx x => by have x7 := x.2.2.2.2.2.2.1; omega) (by omega) ?_ ?_ (fun σx x k26 i hi => x26_set he (x.1.2.2.2.2.1.trans hW) hi k26) ?_
  · intro h0
    have h1 := (nF_0 (seF_0 h0)).2
    obtain ⟨w1, w2, w3, w4, w5, w6, w7, w8⟩ := w
    have e3 : ∀ q, seT T e (tV n tp (k + 1)) 3 q = T 3 q := fun q => seT_n T _ _ (by omega)
    have e1 : seT T e (tV n tp (k + 1)) 0 1 = T 0 1 := seT_n T _ _ (by omega)
    refine ⟨seT_wf w1 he h1, by rw [e1]; exact w2, symT_cg e3 w3, by rw [E21_cg e3, e1]; exact w4, w5, ?_, ob.2.2, w8⟩
    rw [seT_n T _ _ (by omega), seT_n T _ _ (by omega)]
    exact w6
  · rw [(rl_dis hw y.1).2.2.2.2.2 (by omega) (by omega) (by omega) (by omega) (by omega) (by omega)]
    refine wp_b1 (wp_mono (eM_readOnce hw y.1 ho y.2.2.2.2.1 y.2.1) ?_)
    rintro τ ⟨f, ⟨a, r, d18, d⟩ | ⟨a, b, r⟩⟩
    · rw [eF] at a
      rw [eE] at d18 d
      obtain ⟨-, a2, a3, a4, a5, a6, a7, a8, a9, a10, a11⟩ := y
      have e8 : ∀ q, q < 1100 + c → τ.1 8 q = σm.1 8 q ∧ τ.1 9 q = σm.1 9 q := fun q _ => ⟨by rw [f.1 8 (by decide) (by decide)], by rw [f.1 9 (by decide) (by decide)]⟩
      refine ⟨raM_se f, Or.inl ⟨a, r, d, fun q hq => by rw [f.1 7 (by decide) (by decide)]; exact a3 q hq, MNm_dr (f.2.2.1 17 (by decide) (by decide) (by decide)) (f.1 11 (by decide) (by decide)) (by rw [f.2.2.2]) a4, d18, ?_, ?_, by rw [f.2.2.1 14 (by decide) (by decide) (by decide)]; exact a8, by omega, by rw [f.1 12 (by decide) (by decide)]; exact a10, by rw [f.1 13 (by decide) (by decide)]; exact a11⟩⟩
      · rw [ob.1]; exact MLd_fr (f.2.1 166 (by omega)) e8 (Nat.le_refl _) a6
      · rw [ob.2.1]; exact MLd_fr (f.2.1 167 (by omega)) e8 (Nat.le_refl _) a7
    · rw [eF] at a b r
      exact ⟨raM_se f, Or.inr ⟨a, b, r⟩⟩
  · intro σx x
    refine wp_mono (eX_readSetting hw he x.1 ho x.2.2.2.2.1 x.2.1) ?_
    rintro ⟨r, τ⟩ ⟨f, ⟨a, b, d, d5, e9⟩ | ⟨a, b, d⟩⟩
    · obtain ⟨-, a2, a3, a4, a5, a6, a7, a8⟩ := x
      refine ⟨raX_se f, f.2.2.2.2, Or.inl ⟨a, b, d, e9, fun q hq => by rw [f.1 19 (by decide) (by decide) (by decide)]; exact a3 q hq, XNm_fr (f.2.2.1 8 (by decide)) (f.2.2.1 9 (by decide)) a4, d5, XLd_fr (f.2.2.2.1 10 (by decide)) f.2.2.2.2 a6, ?_, (raX_se f).2.2.2.2.2 a8⟩⟩
      rw [Kn_eq f.2.2.2.2, ob.1, ob.2.1]
      exact a7
    · exact ⟨raX_se f, f.2.2.2.2, Or.inr ⟨a, b, d⟩⟩
theorem line_no (hw : wfP n tp) (hW : tW n tp k < 42 ∧ ¬ tW n tp k = 40 ∧ ¬ tW n tp k = 0 ∧ ¬ tW n tp k = 3 ∧ ¬ tW n tp k = 6 ∧ ¬ tW n tp k = 10 ∧ ¬ tW n tp k = 11 ∧ ¬ tW n tp k = 12 ∧ ¬ tW n tp k = 13 ∧ ¬ tW n tp k = 14 ∧ ¬ tW n tp k = 15) (w : SyW n tp T O m np idn o LD LP) (y : SyM n tp N k c T O m np idn o LD LP σm) : LO n tp N hb K0 k (SyX n tp K0 k T O m np idn o LD LP) σm := by
  have ho := w.2.2.2.2.2.2.1
  have hp := ps_le n tp k
  have hn := hw.1
  have eF : onF n tp o k = 1 + 16 * ps n tp k := by
    unfold onF
    rw [if_neg (by omega)]
  refine line_of hw (F := 1 + 16 * ps n tp k) (k1 := k + 1) (c1 := c) (T' := T) (O' := O) (m' := m) (np' := np) (idn' := idn) (o' := o) (LD' := LD) (LP' := LP) (S := rX_wrong (1 : Int32)) (fun σx x => by have x7 := x.2.2.2.2.2.2.1; omega) (by omega) (fun h => by omega) ?_ (fun σx x k26 i hi => x26_no x.1.2.2.2.2.1 hW hi k26) ?_
  · rw [(rl_dis hw y.1).2.2.2.2.2 (by omega) (by omega) (by omega) (by omega) (by omega) (by omega)]
    refine wp_b1 (wp_mono (eM_readOnce hw y.1 ho y.2.2.2.2.1 y.2.1) ?_)
    rintro τ ⟨f, ⟨a, -⟩ | ⟨a, b, r⟩⟩
    · omega
    · rw [eF] at r
      exact ⟨raM_se f, Or.inr ⟨by omega, by omega, r⟩⟩
  · intro σx x
    rw [litN, eX_wrong x.1]
    refine wp_some ⟨raX_rd (rdX_7 rdX_refl _ (Or.inl rfl)), rfl, Or.inr ⟨by omega, rfl, gI_same _ _ _ _⟩⟩
end
