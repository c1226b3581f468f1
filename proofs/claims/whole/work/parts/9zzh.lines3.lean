/-! a law: both readers -/
abbrev LwP (n : Nat) (tp : Nat → Nat) (hb j o k f kf : Nat) (E : List Nat) (σ : St) (r : Int32 × St) : Prop := ruX j σ r.2 ∧ ((¬ o / 2 ^ j % 2 = 0 ∧ r.1 = 0 ∧ r.2.1 7 4 = I (3 + 16 * ps n tp k) ∧ r.2.2.2.2 = σ.2.2.2 ∧ r.2.2.2.1 10 = σ.2.2.1 10) ∨ (o / 2 ^ j % 2 = 0 ∧ ((f = 0 ∧ r.1 = 1 ∧ KX n tp kf r.2 ∧ r.2.1 7 5 = I (o ||| 2 ^ j) ∧ r.2.2.2.1 10 (12 + j) = Kn σ + 2 ∧ r.2.2.2.2 = σ.2.2.2 ++ [(hb + Kn σ, E.map cX)]) ∨ (0 < f ∧ r.1 = 0 ∧ r.2.1 7 4 = I (f + 16 * ps n tp kf) ∧ r.2.2.2.2 = σ.2.2.2 ∧ r.2.2.2.1 10 = σ.2.2.1 10))))
theorem LwP_K {n : Nat} {tp : Nat → Nat} {hb j o k f kf : Nat} {E : List Nat} {σ : St} {r : Int32 × St} (p : LwP n tp hb j o k f kf E σ r) : (Kn r.2 = Kn σ ∧ ¬ (o / 2 ^ j % 2 = 0 ∧ f = 0)) ∨ (Kn r.2 = Kn σ + 1 ∧ o / 2 ^ j % 2 = 0 ∧ f = 0) := by
  rcases p.2 with ⟨a, -, -, b, -⟩ | ⟨a, ⟨b, -, -, -, -, d⟩ | ⟨b, -, -, d, -⟩⟩
  · exact Or.inl ⟨Kn_eq b, fun h => a h.1⟩
  · refine Or.inr ⟨?_, a, b⟩
    show r.2.2.2.2.length = _
    rw [d, List.length_append]
    rfl
  · exact Or.inl ⟨Kn_eq d, fun h => by omega⟩
theorem x141 {n : Nat} {tp : Nat → Nat} (hw : wfP n tp) {N b j k o hb K0 f kf i : Nat} {E : List Nat} {σ : St} (hj : (j = 0 ∧ b = 0) ∨ (j = 1 ∧ b = 5)) (hk : KX n tp k σ) (hkN : k + 1 ≤ N) (hN : N ≤ 1000) (hE : ps n tp N = n) (ho : o < 32) (h5 : σ.1 7 5 = I o) (hP : XN σ) (hK : Kn σ = K0 + o % 2 + o / 2 % 2) (hsy : o / 2 ^ j % 2 = 0 → ∃ m, syR (tW n tp) (tV n tp) b m (k + 1, true, [], []) = .inr (f, kf, E)) (hf5 : f < 20000) {k26 : Int32 → St → Option (Int32 × St)} {Q : Int32 × St → Prop} (hgo : ∀ r τ, LwP n tp hb j o k f kf E σ (r, τ) → wp (rX_readAll_184 hb K0 2 2000 k26 (I i) r τ) Q) : wp (rX_readAll_141 hb K0 2 2000 k26 (I i) (vB b) σ) Q := by
  have hbit : o / 2 ^ j % 2 = 0 → Kn σ + 1 ≤ K0 + 2 := by
    rcases hj with ⟨rfl, -⟩ | ⟨rfl, -⟩
    · intro h
      rw [Nat.pow_zero, Nat.div_one] at h
      omega
    · intro h
      rw [Nat.pow_one] at h
      omega
  have hK2 : K0 ≤ Kn σ ∧ Kn σ ≤ K0 + 2 := by omega
  unfold rX_readAll_141
  refine wp_bnd2 (wp_mono (eX_rreadLaw hw hj hk hkN hN hE ho h5 hP (Nat.le_refl _) ⟨by omega, by omega⟩ hsy hf5 (fun _ _ => ⟨by omega, by omega⟩)) ?_)
  rintro ⟨r8, τ8⟩ p8
  have k8 : (Kn τ8 = Kn σ ∧ ¬ (o / 2 ^ j % 2 = 0 ∧ f = 0)) ∨ (Kn τ8 = Kn σ + 1 ∧ o / 2 ^ j % 2 = 0 ∧ f = 0) := LwP_K (r := (r8, τ8)) p8
  show wp (bnd2 (rX_rreadLaw hb (Kn σ) (Kn τ8 - Kn σ) (1000 * (Kn τ8 - Kn σ)) (vB b) σ) fun r_12 σ_10 => chk (decide (Kn σ_10 = Kn τ8)) (chk (decide (K0 ≤ Kn σ ∧ Kn σ ≤ Kn σ_10 ∧ Kn σ_10 - K0 ≤ 2 ∧ 1000 * (Kn σ_10 - K0) ≤ 2000)) (nm r_12 fun v3_14 => rX_readAll_184 hb K0 2 2000 k26 (I i) v3_14 σ_10))) Q
  have k1 : Kn σ - Kn σ ≤ Kn τ8 - Kn σ ∧ 1000 * (Kn σ - Kn σ) ≤ 1000 * (Kn τ8 - Kn σ) := by omega
  have k2 : o / 2 ^ j % 2 = 0 → f = 0 → Kn σ + 1 - Kn σ ≤ Kn τ8 - Kn σ ∧ 1000 * (Kn σ + 1 - Kn σ) ≤ 1000 * (Kn τ8 - Kn σ) := by
    intro h1 h2
    rcases k8 with ⟨-, h3⟩ | ⟨h3, -⟩
    · exact absurd ⟨h1, h2⟩ h3
    · omega
  refine wp_bnd2 (wp_mono (eX_rreadLaw hw hj hk hkN hN hE ho h5 hP (Nat.le_refl _) k1 hsy hf5 k2) ?_)
  rintro ⟨r, τ⟩ p
  have k9 : (Kn τ = Kn σ ∧ ¬ (o / 2 ^ j % 2 = 0 ∧ f = 0)) ∨ (Kn τ = Kn σ + 1 ∧ o / 2 ^ j % 2 = 0 ∧ f = 0) := LwP_K (r := (r, τ)) p
  have k10 : Kn τ = Kn τ8 ∧ Kn σ ≤ Kn τ ∧ Kn τ ≤ K0 + 2 := by
    rcases k8 with ⟨a, b⟩ | ⟨a, b⟩
    · rcases k9 with ⟨c, d⟩ | ⟨c, d⟩
      · omega
      · exact absurd d b
    · rcases k9 with ⟨c, d⟩ | ⟨c, d⟩
      · exact absurd b d
      · have := hbit b.1
        omega
  show wp (chk (decide (Kn τ = Kn τ8)) (chk (decide (K0 ≤ Kn σ ∧ Kn σ ≤ Kn τ ∧ Kn τ - K0 ≤ 2 ∧ 1000 * (Kn τ - K0) ≤ 2000)) (nm r fun v3_14 => rX_readAll_184 hb K0 2 2000 k26 (I i) v3_14 τ))) Q
  rw [chk_t (decide_eq_true k10.1), chk_t (decide_eq_true ⟨hK2.1, k10.2.1, by omega, by omega⟩), nmE]
  exact hgo r τ p
theorem lawc_app {σ τ : St} {X : List (Nat × List Int32)} {d : Nat} (hK : τ.2.2.2 = σ.2.2.2 ++ X) (h : lawok σ d = true) : lawok τ d = true ∧ lawc τ d = lawc σ d := by
  have h' : d < σ.2.2.2.length + 2 := of_decide_eq_true h
  constructor
  · unfold lawok
    apply decide_eq_true
    show d < τ.2.2.2.length + 2
    rw [hK, List.length_append]
    omega
  · rcases d with _ | _ | d
    · rfl
    · rfl
    · show (τ.2.2.2.getD d (0, [])).2 = (σ.2.2.2.getD d (0, [])).2
      rw [hK, List.getD_eq_getElem?_getD, List.getD_eq_getElem?_getD, List.getElem?_append_left (by omega)]
theorem lawc_new {σ τ : St} {z : Nat} {xs : List Int32} (hK : τ.2.2.2 = σ.2.2.2 ++ [(z, xs)]) : lawok τ (Kn σ + 2) = true ∧ lawc τ (Kn σ + 2) = xs := by
  constructor
  · unfold lawok
    apply decide_eq_true
    show σ.2.2.2.length + 2 < τ.2.2.2.length + 2
    rw [hK, List.length_append]
    show σ.2.2.2.length + 2 < σ.2.2.2.length + 1 + 2
    omega
  · show (τ.2.2.2.getD σ.2.2.2.length (0, [])).2 = xs
    rw [hK, List.getD_eq_getElem?_getD, List.getElem?_append_right (Nat.le_refl _), Nat.sub_self]
    rfl
theorem XN_law {j : Nat} {σ τ : St} (hj2 : j < 2) (f : ruX j σ τ) (h10 : τ.2.2.1 10 (12 + j) = Kn σ + 2) (hK : Kn τ = Kn σ + 1) (h : XN σ) : XN τ := by
  unfold XN Pok at *
  have h' := of_decide_eq_true h
  have e1 : τ.2.2.1 23 12 = σ.2.2.1 23 12 := f.2.2.2 23 (by decide) 12 (by omega)
  have e2 : τ.2.2.1 23 13 = σ.2.2.1 23 13 := f.2.2.2 23 (by decide) 13 (by omega)
  have e3 : ∀ q, q ≠ 12 + j → τ.2.2.1 10 q = σ.2.2.1 10 q := fun q hq => f.2.2.2 10 (by decide) q (fun g => hq g.2)
  apply decide_eq_true
  rw [e1, e2, hK]
  have hj' : j = 0 ∨ j = 1 := by omega
  rcases hj' with rfl | rfl
  · rw [e3 13 (by omega), show τ.2.2.1 10 12 = Kn σ + 2 from h10]
    exact ⟨by omega, by omega, by omega, by omega⟩
  · rw [e3 12 (by omega), show τ.2.2.1 10 13 = Kn σ + 2 from h10]
    exact ⟨by omega, by omega, by omega, by omega⟩
theorem raX_law {j : Nat} {σ τ : St} (f : ruX j σ τ) (hK : ∃ X, τ.2.2.2 = σ.2.2.2 ++ X) (hN : XN σ → XN τ) : raX σ τ := ⟨fun i a b => f.1 i a (by omega) (by omega) (by omega) (by omega), f.2.1, fun i a _ _ => f.2.2.1 i a, fun i a b => funext fun q => f.2.2.2 i a q (fun g => b g.1), hK, hN⟩
theorem raX_law0 {j : Nat} {σ τ : St} (f : ruX j σ τ) (hK : τ.2.2.2 = σ.2.2.2) (h10 : τ.2.2.1 10 = σ.2.2.1 10) : raX σ τ := raX_law f ⟨[], by rw [List.append_nil]; exact hK⟩ (XN_P h10 (funext fun q => f.2.2.2 23 (by decide) q (by omega)) hK)
theorem ob_h2 : ∀ o, o < 32 → (o ||| 2 ^ 0) % 2 = 1 ∧ (o ||| 2 ^ 0) / 2 % 2 = o / 2 % 2 ∧ (o ||| 2 ^ 0) / 4 = o / 4 ∧ (o ||| 2 ^ 0) < 32 ∧ (o ||| 2 ^ 1) % 2 = o % 2 ∧ (o ||| 2 ^ 1) / 2 % 2 = 1 ∧ (o ||| 2 ^ 1) / 4 = o / 4 ∧ (o ||| 2 ^ 1) < 32 := by decide
theorem MDr_law {T : Vw} {σ τ : St} (h : ∀ q, q ≠ 166 → q ≠ 167 → τ.1 6 q = σ.1 6 q) (hx : MDr T σ) : MDr T τ := by
  obtain ⟨a0, a1, a2, a3, a4, a5, a6, a7, a8⟩ := hx
  exact ⟨(h 160 (by decide) (by decide)).trans a0, (h 161 (by decide) (by decide)).trans a1, (h 162 (by decide) (by decide)).trans a2, (h 163 (by decide) (by decide)).trans a3, (h 164 (by decide) (by decide)).trans a4, (h 165 (by decide) (by decide)).trans a5, fun s hs => ⟨(h (160 + (8 + 2 * s)) (by omega) (by omega)).trans (a6 s hs).1, (h (160 + (8 + 2 * s + 1)) (by omega) (by omega)).trans (a6 s hs).2⟩, fun q hq => ⟨(h (160 + (22 + 2 * q)) (by omega) (by omega)).trans (a7 q hq).1, fun h0 => (h (160 + (22 + 2 * q + 1)) (by omega) (by omega)).trans ((a7 q hq).2 h0)⟩, fun c hc => ⟨(h (160 + (120 + 4 * c)) (by omega) (by omega)).trans (a8 c hc).1, (h (160 + (120 + 4 * c + 1)) (by omega) (by omega)).trans (a8 c hc).2.1, (h (160 + (120 + 4 * c + 2)) (by omega) (by omega)).trans (a8 c hc).2.2.1, (h (160 + (120 + 4 * c + 3)) (by omega) (by omega)).trans (a8 c hc).2.2.2⟩⟩
section
variable {n : Nat} {tp : Nat → Nat} {N hb K0 k k' c j b z : Nat} {T : Vw} {O : Nat → Nat} {m : Nat} {np idn : Nat → Nat} {o : Nat} {LD LP E : List Nat} {σ τ σm : St}
theorem SyX_law (hj : (j = 0 ∧ b = 0) ∨ (j = 1 ∧ b = 5)) (x : SyX n tp K0 k T O m np idn o LD LP σ) (ho : o < 32) (hbit : o / 2 ^ j % 2 = 0) (f : ruX j σ τ) (hk : KX n tp k' τ) (h5 : τ.1 7 5 = I (o ||| 2 ^ j)) (h10 : τ.2.2.1 10 (12 + j) = Kn σ + 2) (hK : τ.2.2.2 = σ.2.2.2 ++ [(z, E.map cX)]) : raX σ τ ∧ SyX n tp K0 k' T O m np idn (o ||| 2 ^ j) (if j = 0 then E else LD) (if j = 0 then LP else E) τ := by
  have hj2 : j < 2 := by omega
  have hKn : Kn τ = Kn σ + 1 := by
    show τ.2.2.2.length = _
    rw [hK, List.length_append]
    rfl
  obtain ⟨-, a2, a3, a4, a5, a6, a7, a8⟩ := x
  have hN := XN_law hj2 f h10 hKn a8
  have ob := ob_h2 o ho
  have nw := lawc_new hK
  refine ⟨raX_law f ⟨_, hK⟩ (fun _ => hN), hk, XDr_fr (fun i h1 h2 => f.1 i (by omega) (by omega) (by omega) (by omega) (by omega)) a2, fun q hq => by rw [f.1 19 (by decide) (by decide) (by decide) (by decide) (by decide)]; exact a3 q hq, XNm_fr (f.2.2.1 8 (by decide)) (f.2.2.1 9 (by decide)) a4, h5, ?_, ?_, hN⟩
  · obtain ⟨b1, b2, b3, b4⟩ := a6
    rcases hj with ⟨rfl, rfl⟩ | ⟨rfl, rfl⟩
    · have e13 : τ.2.2.1 10 13 = σ.2.2.1 10 13 := f.2.2.2 10 (by decide) 13 (by omega)
      have e12 : τ.2.2.1 10 12 = Kn σ + 2 := h10
      have q := lawc_app hK b3
      rw [if_pos rfl, if_pos rfl]
      unfold XLd
      rw [e13, e12]
      exact ⟨nw.1, nw.2, q.1, q.2.trans b4⟩
    · have e12 : τ.2.2.1 10 12 = σ.2.2.1 10 12 := f.2.2.2 10 (by decide) 12 (by omega)
      have e13 : τ.2.2.1 10 13 = Kn σ + 2 := h10
      have q := lawc_app hK b1
      rw [if_neg (by decide), if_neg (by decide)]
      unfold XLd
      rw [e13, e12]
      exact ⟨q.1, q.2.trans b2, nw.1, nw.2⟩
  · rcases hj with ⟨rfl, rfl⟩ | ⟨rfl, rfl⟩
    · rw [Nat.pow_zero, Nat.div_one] at hbit
      rw [hKn, ob.1, ob.2.1]
      omega
    · rw [Nat.pow_one] at hbit
      rw [hKn, ob.2.2.2.2.1, ob.2.2.2.2.2.1]
      omega
theorem SyM_law (hj : (j = 0 ∧ b = 0) ∨ (j = 1 ∧ b = 5)) (y : SyM n tp N k c T O m np idn o LD LP σ) (ho : o < 32) (f : ruM c j σ τ) (r : RM n tp N k' 0 τ) (h14 : τ.1 0 14 = I (c + E.length + 1)) (hl : E.length + (k + 1) ≤ k') (h6 : τ.1 6 (166 + j) = I c) (hE : EM b τ (1100 + c) E) (h8 : τ.1 8 (1100 + c + E.length) = 0) : SyM n tp N k' (c + E.length + 1) T O m np idn (o ||| 2 ^ j) (if j = 0 then E else LD) (if j = 0 then LP else E) τ := by
  obtain ⟨-, a2, a3, a4, a5, a6, a7, a8, a9, a10, a11⟩ := y
  have ob := ob_h2 o ho
  have hj2 : j < 2 := by omega
  refine ⟨r, MDr_law (fun q h1 h2 => f.2.1 q (by omega)) a2, fun q hq => by rw [f.1 7 (by decide) (by decide) (by decide) (by decide)]; exact a3 q hq, MNm_dr (f.2.2.1 17 (by decide) (by decide) (by decide) (by decide)) (f.1 11 (by decide) (by decide) (by decide) (by decide)) (by rw [f.2.2.2.2]) a4, ?_, ?_, ?_, h14, by omega, by rw [f.1 12 (by decide) (by decide) (by decide) (by decide)]; exact a10, by rw [f.1 13 (by decide) (by decide) (by decide) (by decide)]; exact a11⟩
  · rw [f.2.2.1 18 (by decide) (by decide) (by decide) (by decide), a5]
    rcases hj with ⟨rfl, rfl⟩ | ⟨rfl, rfl⟩
    · rw [ob.2.2.1]
    · rw [ob.2.2.2.2.2.2.1]
  · rcases hj with ⟨rfl, rfl⟩ | ⟨rfl, rfl⟩
    · rw [ob.1, if_pos rfl]
      exact ⟨fun h => absurd h (by decide), fun _ => ⟨c, h6, by omega, hE, h8⟩⟩
    · rw [ob.2.2.2.2.1, if_neg (by decide)]
      exact MLd_fr (f.2.1 166 (by omega)) f.2.2.2.1 (by omega) a6
  · rcases hj with ⟨rfl, rfl⟩ | ⟨rfl, rfl⟩
    · rw [ob.2.1, if_pos rfl]
      exact MLd_fr (f.2.1 167 (by omega)) f.2.2.2.1 (by omega) a7
    · rw [ob.2.2.2.2.2.1, if_neg (by decide)]
      exact ⟨fun h => absurd h (by decide), fun _ => ⟨c, h6, by omega, hE, h8⟩⟩
theorem line_law (hw : wfP n tp) (hj : (j = 0 ∧ b = 0) ∨ (j = 1 ∧ b = 5)) (hW : tW n tp k = 11 + j) (w : SyW n tp T O m np idn o LD LP) (y : SyM n tp N k c T O m np idn o LD LP σm) : LO n tp N hb K0 k (SyX n tp K0 k T O m np idn o LD LP) σm := by
  have hn := hw.1
  have ho := w.2.2.2.2.2.2.1
  have hN := y.1.1.1
  have hE := y.1.1.2.2.1
  have hkN : k + 1 ≤ N := wd_in y.1 (by omega)
  have hck := y.2.2.2.2.2.2.2.2.1
  have b0 : o / 2 ^ j % 2 = 0 → σm.1 6 (166 + j) = -1 := by
    rcases hj with ⟨rfl, rfl⟩ | ⟨rfl, rfl⟩
    · intro h
      rw [Nat.pow_zero, Nat.div_one] at h
      exact (y.2.2.2.2.2.1.1 h).1
    · intro h
      rw [Nat.pow_one] at h
      exact (y.2.2.2.2.2.2.1.1 h).1
  have b1 : ¬ o / 2 ^ j % 2 = 0 → ∃ a, a < 1100 ∧ σm.1 6 (166 + j) = I a := by
    rcases hj with ⟨rfl, rfl⟩ | ⟨rfl, rfl⟩
    · intro h
      rw [Nat.pow_zero, Nat.div_one] at h
      obtain ⟨a, e, l, -⟩ := y.2.2.2.2.2.1.2 h
      exact ⟨a, by omega, e⟩
    · intro h
      rw [Nat.pow_one] at h
      obtain ⟨a, e, l, -⟩ := y.2.2.2.2.2.2.1.2 h
      exact ⟨a, by omega, e⟩
  obtain ⟨τm, em, fm, cs⟩ := eM_readRule hw (bit := o / 2 ^ j % 2) hj hW y.1 y.2.2.2.2.2.2.2.1 hck y.2.2.2.2.2.2.2.2.2.1 y.2.2.2.2.2.2.2.2.2.2 b0 b1
  clear b0 b1
  have em' : rM_readLine σm = some τm := by
    rw [(rl_dis hw y.1).2.2.2.2.1 (by omega), em]
    rfl
  have hp := ps_le n tp
  rcases cs with ⟨hb1, rm⟩ | ⟨hb0, ⟨k', E, g1, g2, g3, g4, g5, g6, g7, g8, g9⟩ | ⟨k', f, kf, rm, f0, f2, mb⟩⟩
  · have := hp k
    refine line_bad (F := 3 + 16 * ps n tp k) ⟨by omega, by omega⟩ (wp_eq em' ⟨raM_ru fm, k, rm⟩) ?_
    intro σx x k26 i Q hi hgo
    rw [x26_law hj (x.1.2.2.2.2.1.trans hW) hi k26]
    refine x141 hw hj x.1 hkN hN hE ho x.2.2.2.2.1 x.2.2.2.2.2.2.2 x.2.2.2.2.2.2.1 (f := 1) (kf := 0) (E := []) (fun h => absurd h hb1) (by omega) ?_
    rintro r τ ⟨p1, ⟨-, a, d, e, g⟩ | ⟨a, -⟩⟩
    · have a' : r = 0 := a
      subst a'
      exact hgo τ (raX_law0 p1 e g) d (by have h1 := x.2.2.2.2.2.2.1; have h2 : Kn τ = Kn σx := Kn_eq e; omega)
    · exact absurd a hb1
  · have := hp k'
    by_cases h32 : tW n tp k' = 32
    · have hk1 := g1.2.1
      refine line_good hw (k1 := k') (c1 := c + E.length + 1) (T' := T) (O' := O) (m' := m) (np' := np) (idn' := idn) (o' := o ||| 2 ^ j) (LD' := if j = 0 then E else LD) (LP' := if j = 0 then LP else E) (by omega) ?_ (wp_eq em' ⟨raM_ru fm, SyM_law hj y ho fm g1 g2 g3 g4 g5 g6⟩) ?_
      · obtain ⟨w1, w2, w3, w4, w5, w6, w7, v1, v2, v3, v4⟩ := w
        have ob := ob_h2 o ho
        have hO := g7 [] 0 (Nat.le_refl _) rfl
        rw [List.append_nil] at hO
        rcases hj with ⟨rfl, rfl⟩ | ⟨rfl, rfl⟩
        · refine ⟨w1, w2, w3, w4, w5, w6, ob.2.2.2.1, ?_⟩
          rw [if_pos rfl, if_pos rfl]
          exact ⟨hO, by omega, v3, v4⟩
        · refine ⟨w1, w2, w3, w4, w5, w6, ob.2.2.2.2.2.2.2, ?_⟩
          rw [if_neg (by decide), if_neg (by decide)]
          exact ⟨v1, v2, hO, by omega⟩
      · intro σx x k26 i Q hi hgo
        rw [x26_law hj (x.1.2.2.2.2.1.trans hW) hi k26]
        refine x141 hw hj x.1 hkN hN hE ho x.2.2.2.2.1 x.2.2.2.2.2.2.2 x.2.2.2.2.2.2.1 (f := 0) (kf := k') (E := E) (fun _ => sy_good g8 h32) (by omega) ?_
        rintro r τ ⟨p1, ⟨a, -⟩ | ⟨-, ⟨-, a, d, d5, d10, dK⟩ | ⟨a, -⟩⟩⟩
        · exact absurd hb0 a
        · have a' : r = 1 := a
          subst a'
          have q := SyX_law hj x ho hb0 p1 d d5 d10 dK
          exact hgo τ q.1 q.2
        · omega
    · obtain ⟨mm, out, hsy⟩ := sy_bad0 g8 h32 (fun h => tc_1 g9 h)
      refine Or.inr ⟨1 + 16 * ps n tp k', by omega, by omega, ?_, ?_⟩
      · refine wp_bnd1 (wp_eq em' ?_)
        refine wp_mono (eM_takeSign hw g1 (c := 59) (by decide)) ?_
        rintro υ ⟨f, ⟨a, r⟩ | ⟨a, r⟩⟩
        · exact absurd (a.trans (by decide)) h32
        · exact ⟨raM_tr (raM_ru fm) (raM_rd f), k', r⟩
      · intro σx x k26 i Q hi hg hb9
        rw [x26_law hj (x.1.2.2.2.2.1.trans hW) hi k26]
        refine x141 hw hj x.1 hkN hN hE ho x.2.2.2.2.1 x.2.2.2.2.2.2.2 x.2.2.2.2.2.2.1 (f := 1) (kf := k') (E := out) (fun _ => ⟨mm, hsy⟩) (by omega) ?_
        rintro r τ ⟨p1, ⟨a, -⟩ | ⟨-, ⟨a, -⟩ | ⟨-, a, d, e, g⟩⟩⟩
        · exact absurd hb0 a
        · omega
        · have a' : r = 0 := a
          subst a'
          exact x184_0 (hb9 τ ⟨rfl, raX_law0 p1 e g, d, by have h1 := x.2.2.2.2.2.2.1; have h2 : Kn τ = Kn σx := Kn_eq e; show Kn τ ≤ K0 + 2; omega⟩)
  · have := hp kf
    obtain ⟨mm, out, hsy⟩ := mb [] [] rfl ⟨by decide, by decide⟩
    refine line_bad (F := f + 16 * ps n tp kf) ⟨by omega, f2⟩ (wp_eq em' ⟨raM_ru fm, k', rm⟩) ?_
    intro σx x k26 i Q hi hgo
    rw [x26_law hj (x.1.2.2.2.2.1.trans hW) hi k26]
    refine x141 hw hj x.1 hkN hN hE ho x.2.2.2.2.1 x.2.2.2.2.2.2.2 x.2.2.2.2.2.2.1 (f := f) (kf := kf) (E := out) (fun _ => ⟨mm, hsy⟩) (by omega) ?_
    rintro r τ ⟨p1, ⟨a, -⟩ | ⟨-, ⟨a, -⟩ | ⟨-, a, d, e, g⟩⟩⟩
    · exact absurd hb0 a
    · omega
    · have a' : r = 0 := a
      subst a'
      exact hgo τ (raX_law0 p1 e g) d (by have h1 := x.2.2.2.2.2.2.1; have h2 : Kn τ = Kn σx := Kn_eq e; omega)
/-- one line of both -/
theorem line_any (hw : wfP n tp) (hW : ¬ tW n tp k = 40) (w : SyW n tp T O m np idn o LD LP) (y : SyM n tp N k c T O m np idn o LD LP σm) : LO n tp N hb K0 k (SyX n tp K0 k T O m np idn o LD LP) σm := by
  by_cases h0 : tW n tp k = 0
  · exact line_st hw h0 w y
  by_cases h3 : tW n tp k = 3
  · exact line_wy hw h3 w y
  by_cases h6 : tW n tp k = 6
  · exact line_cr hw h6 w y
  by_cases h10 : tW n tp k = 10
  · exact line_ow hw h10 w y
  by_cases h11 : tW n tp k = 11
  · exact line_law hw (j := 0) (b := 0) (Or.inl ⟨rfl, rfl⟩) h11 w y
  by_cases h12 : tW n tp k = 12
  · exact line_law hw (j := 1) (b := 5) (Or.inr ⟨rfl, rfl⟩) h12 w y
  by_cases h13 : tW n tp k = 13
  · exact line_se hw (e := 0) (by decide) h13 w y
  by_cases h14 : tW n tp k = 14
  · exact line_se hw (e := 1) (by decide) h14 w y
  by_cases h15 : tW n tp k = 15
  · exact line_se hw (e := 2) (by decide) h15 w y
  exact line_no hw ⟨tkW_lt, hW, h0, h3, h6, h10, h11, h12, h13, h14, h15⟩ w y
end
