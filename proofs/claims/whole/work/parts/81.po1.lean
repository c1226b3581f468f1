/-! the calls that only read -/
theorem MD0 {n : Nat} {D : Vw} {σ : St} (h : MD 0 n D σ) : (∀ q, q < 36 → σ.1 16 q = I (D 0 q)) ∧ σ.1 16 36 = I (D 4 5) ∧ σ.1 16 41 = I (D 4 6) ∧ σ.1 16 37 = I (D 4 1) ∧ σ.1 16 38 = I (D 4 3) ∧ σ.1 16 40 = I (D 4 4) ∧ σ.1 16 39 = I (D 4 0) ∧ σ.1 16 42 = I (D 4 2) ∧ (∀ i, i < D 4 2 → σ.1 16 (56 + 3 * i) = I (D 6 i) ∧ σ.1 16 (56 + 3 * i + 1) = I (D 7 i) ∧ σ.1 16 (56 + 3 * i + 2) = I (D 8 i)) ∧ (∀ s, s < n → σ.1 16 (43 + s) = I (D 3 s)) ∧ (∀ c, c < 6 → σ.1 16 (50 + c) = I (D 5 c)) := by
  simpa only [MD, Nat.zero_add] using h
theorem Inv_0 {σx σm : St} (v : Int32) (h : Inv σx σm) : Inv σx (setI σm 0 0 v) := by
  obtain ⟨T, R, D, Mk, U, n, tp, LD, LP, hw, hx, hm⟩ := h
  exact ⟨T, R, D, Mk, U, n, tp, LD, LP, hw, hx, GM_0 hw v hm⟩
theorem Inv_J {σx σm : St} (v : Int64) (h : Inv σx σm) : Inv (setJ σx 97 0 v) σm := by
  obtain ⟨T, R, D, Mk, U, n, tp, LD, LP, hw, hx, hm⟩ := h
  exact ⟨T, R, D, Mk, U, n, tp, LD, LP, hw, GX_fr (fun i _ _ => by rw [gJ_1]) (fun j _ _ => by rw [gJ_1]) (fun i hi => gJ_ne1 _ _ _ hi) rfl hx, hm⟩
theorem po_station : PO_station Inv := by
  intro σx σm h v w
  have h0 := h
  obtain ⟨T, R, D, Mk, U, n, tp, LD, LP, hw, hx, hm⟩ := h
  have hd := MD0 hm.2.1
  obtain ⟨r, e1, e2⟩ := q_station (σx := σx) (σm := σm) hw.1.1 hx.1.1 hm.1.1 (fun s hs => ⟨by rw [(hx.1.2.2.2.2.2.2.1 s hs).1, (hm.1.2.2.2.2.2.2.1 s hs).1], by rw [(hx.1.2.2.2.2.2.2.1 s hs).2, (hm.1.2.2.2.2.2.2.1 s hs).2], by rw [show σx.1 34 s = _ from hx.2.1.2.2.2.2.2.2.2.2.2.1 s hs, hd.2.2.2.2.2.2.2.2.2.1 s hs]⟩) v w
  exact ⟨r, _, _, e1, e2, Inv_0 0 h0⟩
theorem po_way : PO_way Inv := by
  intro σx σm h a b w
  have h0 := h
  obtain ⟨T, R, D, Mk, U, n, tp, LD, LP, hw, hx, hm⟩ := h
  obtain ⟨r, e1, e2⟩ := q_way (σx := σx) (σm := σm) hw.1.1 hx.1.1 hm.1.1 (fun q hq => by
    obtain ⟨x1, x2⟩ := hx.1.2.2.2.2.2.2.2.1 q hq
    obtain ⟨m1, m2⟩ := hm.1.2.2.2.2.2.2.2.1 q hq
    have hb := (hw.1.2.2.2.2.2.2.1 q hq).1
    refine ⟨by rw [x1, m1], fun hp => ?_⟩
    rw [x1, I0, I_lt (by omega) (by omega)] at hp
    rw [x2 hp, m2 hp]) a b w
  exact ⟨r, _, _, e1, e2, Inv_0 0 h0⟩
theorem po_count : PO_count Inv := by
  intro σx σm h v
  have h0 := h
  obtain ⟨T, R, D, Mk, U, n, tp, LD, LP, hw, hx, hm⟩ := h
  have hd := MD0 hm.2.1
  obtain ⟨r, e1, e2⟩ := q_count (σx := σx) (σm := σm) ⟨by rw [hx.1.1, hm.1.1], by rw [hx.1.2.1, hm.1.2.1], by rw [hx.1.2.2.1, hm.1.2.2.1], by rw [hx.2.1.2.2.2.2.1, hd.2.2.2.2.1], by rw [hx.2.1.2.2.2.2.2.2.1, hd.2.2.2.2.2.2.1], by rw [hx.1.2.2.2.2.2.1, hm.1.2.2.2.2.2.1], by rw [hx.2.1.2.2.2.2.2.2.2.1, hd.2.2.2.2.2.2.2.1], by rw [hx.2.2.2.2.1.1, hm.2.2.2.2.1.1], by rw [hx.2.2.2.2.2.1.1, hm.2.2.2.2.2.1.1]⟩ v
  exact ⟨r, _, _, e1, e2, Inv_0 0 h0⟩
theorem po_debt : PO_debt Inv := by
  intro σx σm h v
  have h0 := h
  obtain ⟨T, R, D, Mk, U, n, tp, LD, LP, hw, hx, hm⟩ := h
  have hd := MD0 hm.2.1
  rcases q_debt (σx := σx) (σm := σm) hw.1.2.1 hx.1.2.2.1 hm.1.2.2.1 (fun q hq => by rw [hd.1 q hq]; exact hx.2.1.1 q hq) v with ⟨r, e1, e2⟩ | ⟨e1, e2⟩
  · exact Or.inl ⟨r, _, _, _, e1, e2, by unfold rM_thrown; rw [gI_same], Inv_J _ (Inv_0 0 h0)⟩
  · exact Or.inr ⟨0, _, _, _, e1, e2, by unfold rM_thrown; rw [gI_same], Inv_0 1 h0⟩
theorem po_owes : PO_owes Inv := by
  intro σx σm h a b
  have h0 := h
  obtain ⟨T, R, D, Mk, U, n, tp, LD, LP, hw, hx, hm⟩ := h
  have hd := MD0 hm.2.1
  obtain ⟨r, e1, e2⟩ := q_owes (σx := σx) (σm := σm) hw.1.2.1 hx.1.2.2.1 hm.1.2.2.1 (fun q hq => by rw [hd.1 q hq]; exact hx.2.1.1 q hq) a b
  exact ⟨r, _, _, e1, e2, Inv_0 0 h0⟩
theorem po_paths : PO_paths Inv := by
  intro σx σm h
  have h0 := h
  obtain ⟨T, R, D, Mk, U, n, tp, LD, LP, hw, hx, hm⟩ := h
  obtain ⟨r, e1, e2⟩ := q_paths (σx := σx) (σm := σm) (by rw [hx.2.2.1.1, hm.2.2.1.1])
  exact ⟨r, _, _, e1, e2, Inv_0 0 h0⟩
theorem po_drank : PO_drank Inv := by
  intro σx σm h v w
  have h0 := h
  obtain ⟨T, R, D, Mk, U, n, tp, LD, LP, hw, hx, hm⟩ := h
  have hd := MD0 hm.2.1
  obtain ⟨r, e1, e2⟩ := q_drank (σx := σx) (σm := σm) hw.2.1.2.2.2.1 hx.2.1.2.2.2.2.2.2.2.1 hd.2.2.2.2.2.2.2.1 (fun i hi => by
    obtain ⟨x1, x2, x3⟩ := hx.2.1.2.2.2.2.2.2.2.2.1 i hi
    obtain ⟨m1, m2, m3⟩ := hd.2.2.2.2.2.2.2.2.1 i hi
    exact ⟨by rw [m1]; exact x1, by rw [m2]; exact x2, by rw [m3]; exact x3⟩) v w
  exact ⟨r, _, _, e1, e2, Inv_0 0 h0⟩
theorem po_carrier : PO_carrier Inv := by
  intro σx σm h v w
  have h0 := h
  obtain ⟨T, R, D, Mk, U, n, tp, LD, LP, hw, hx, hm⟩ := h
  have hd := MD0 hm.2.1
  have bit : ∀ m c : Nat, m < 64 → c < 6 → (I m >>> (I c &&& 31)) &&& 1 = I (m / 2 ^ c % 2) := fun m c h1 h2 => I_bit h1 h2
  rcases q_carrier (σx := σx) (σm := σm) hw.1.2.1 hx.1.2.2.1 hm.1.2.2.1 (fun c hc => by
      obtain ⟨x1, x2, x3, x4⟩ := hx.1.2.2.2.2.2.2.2.2 c hc
      obtain ⟨m1, m2, m3, m4⟩ := hm.1.2.2.2.2.2.2.2.2 c hc
      exact ⟨by rw [x1, m1], by rw [x2, m2], by rw [x3, m3], by rw [x4, m4]⟩)
    (fun c hc => by
      have e : σx.1 37 c = I (D 4 5 / 2 ^ c % 2) := hx.2.1.2.1 c hc
      rw [hd.2.1, bit _ _ hw.2.1.1 hc, e]
      have : D 4 5 / 2 ^ c % 2 = 0 ∨ D 4 5 / 2 ^ c % 2 = 1 := by omega
      exact ⟨by rcases this with h | h <;> rw [h]; exact Or.inl rfl; exact Or.inr rfl, rfl⟩)
    (fun c hc => by
      have e : σx.1 35 c = I (D 4 6 / 2 ^ c % 2) := hx.2.1.2.2.1 c hc
      rw [hd.2.2.1, bit _ _ hw.2.1.2.1 hc, e])
    (fun c hc => by rw [hd.2.2.2.2.2.2.2.2.2.2 c hc]; exact hx.2.1.2.2.2.2.2.2.2.2.2.2 c hc) v w with ⟨r, e1, e2⟩ | ⟨e1, r, e2⟩
  · exact Or.inl ⟨r, _, _, _, e1, e2, by unfold rM_thrown; rw [gI_same], Inv_J _ (Inv_0 0 h0)⟩
  · exact Or.inr ⟨r, _, _, _, e1, e2, by unfold rM_thrown; rw [gI_same], Inv_0 1 h0⟩
/-! paths, trips, the best way -/
theorem eX_rhas (v : Int32) (σ : St) : rX_rhas v σ = some (b01 (inR v (σ.1 42 3)), σ) := by
  unfold rX_rhas
  rw [brc_e, brc_e, two_if]
  unfold b01
  by_cases h : inR v (σ.1 42 3)
  · rw [if_pos h, if_pos h]; rfl
  · rw [if_neg h, if_neg h]; rfl
theorem eM_isPath (v : Int32) (σ : St) : rM_isPath v σ = some (b01 (inR v (σ.1 0 27)), σ) := by
  unfold rM_isPath
  rw [brc_e, brc_e, two_if]
  unfold b01
  by_cases h : inR v (σ.1 0 27)
  · rw [if_pos h, if_pos h]; rfl
  · rw [if_neg h, if_neg h]; rfl
theorem b01_t {p : Prop} [Decidable p] (h : p) : b01 p = 1 := if_pos h
theorem b01_f {p : Prop} [Decidable p] (h : ¬ p) : b01 p = 0 := if_neg h
theorem b01_1 : ¬ (1 : Int32) = 0 := by decide
abbrev okC (T : Vw) (v w : Int32) : Prop := inR v (I (T 0 2)) ∧ 0 ≤ w ∧ w ≤ I (hol T v.toNatClampNeg)
theorem holdsOf_I {k s : Nat} (hk : k < 1000) : holdsOf (I k) (I s) = I (if k = 2 then 2 * s else s) := by
  unfold holdsOf
  by_cases h : k = 2
  · rw [if_pos (by rw [h]; rfl), if_pos h, litN, I_mul]
  · rw [if_neg (by rw [litN, I_inj (by omega) (by omega)]; exact h), if_neg h]
theorem eX_holdsT {T : Vw} {σ : St} (hw : wfT T) (hT : XMt T σ) {c : Nat} (hc : c < T 0 2) : rX_holds (I c) σ = some (I (hol T c), σ) := by
  have h6 := hw.2.1
  have hb := hw.2.2.2.2.2.2.2 c hc
  rw [eX_holds σ (by omega), (hT.2.2.2.2.2.2.2.2 c hc).1, (hT.2.2.2.2.2.2.2.2 c hc).2.1, holdsOf_I (by omega)]
  rfl
theorem eM_holdsT {T : Vw} {σ : St} (hw : wfT T) (hT : MT T σ) {c : Nat} (hc : c < T 0 2) : rM_holds (I c) σ = some (I (hol T c), σ) := by
  have h6 := hw.2.1
  have hb := hw.2.2.2.2.2.2.2 c hc
  rw [eM_holds σ (by omega), (hT.2.2.2.2.2.2.2.2 c hc).1, (hT.2.2.2.2.2.2.2.2 c hc).2.1, holdsOf_I (by omega)]
  rfl
theorem hol_le {T : Vw} (hw : wfT T) {c : Nat} (hc : c < T 0 2) : hol T c ≤ 120 := by
  have hb := hw.2.2.2.2.2.2.2 c hc
  unfold hol
  split <;> omega
theorem eX_canCarry {T : Vw} {σ : St} (hw : wfT T) (hT : XMt T σ) (v w : Int32) : rX_canCarry v w σ = some (b01 (okC T v w), σ) := by
  unfold rX_canCarry rX_canCarry_31 rX_canCarry_32
  rw [eX_hasCarrier, bnd2_e, hT.2.2.1]
  by_cases hv : inR v (I (T 0 2))
  · obtain ⟨c, rfl, hc⟩ := inR_I (by have := hw.2.1; omega) hv
    rw [b01_t hv, brc_f b01_1]
    by_cases h0 : w < 0
    · rw [brc_t h0, b01_f (fun h => not_le32.mpr h0 h.2.1), chk_t (by decide)]
    · rw [brc_f h0, eX_holdsT hw hT hc, bnd2_e]
      have e : (I c).toNatClampNeg = c := I_cl (by have := hw.2.1; omega)
      by_cases h1 : I (hol T c) < w
      · rw [brc_t h1, b01_f (fun h => by have h2 := h.2.2; rw [e] at h2; exact not_le32.mpr h1 h2), chk_t (by decide)]
      · rw [brc_f h1, b01_t ⟨hv, not_lt32.mp h0, by rw [e]; exact not_lt32.mp h1⟩, chk_t (by decide)]
  · rw [b01_f hv, brc_t rfl, b01_f (fun h => hv h.1), chk_t (by decide)]
theorem eM_canCarry {T : Vw} {σ : St} (hw : wfT T) (hT : MT T σ) (v w : Int32) : rM_canCarry v w σ = some (b01 (okC T v w), σ) := by
  unfold rM_canCarry rM_canCarry_25 rM_canCarry_26
  rw [eM_isCarrier, bnd2_e, hT.2.2.1]
  by_cases hv : inR v (I (T 0 2))
  · obtain ⟨c, rfl, hc⟩ := inR_I (by have := hw.2.1; omega) hv
    rw [b01_t hv, brc_f b01_1]
    by_cases h0 : w < 0
    · rw [brc_t h0, b01_f (fun h => not_le32.mpr h0 h.2.1), chk_t (by decide)]
    · rw [brc_f h0, eM_holdsT hw hT hc, bnd2_e]
      have e : (I c).toNatClampNeg = c := I_cl (by have := hw.2.1; omega)
      by_cases h1 : I (hol T c) < w
      · rw [brc_t h1, b01_f (fun h => by have h2 := h.2.2; rw [e] at h2; exact not_le32.mpr h1 h2), chk_t (by decide)]
      · rw [brc_f h1, b01_t ⟨hv, not_lt32.mp h0, by rw [e]; exact not_lt32.mp h1⟩, chk_t (by decide)]
  · rw [b01_f hv, brc_t rfl, b01_f (fun h => hv h.1), chk_t (by decide)]
theorem okC_I {T : Vw} (hw : wfT T) {v w : Int32} (h : okC T v w) : ∃ c ld, v = I c ∧ w = I ld ∧ c < T 0 2 ∧ ld ≤ hol T c ∧ ld ≤ 120 := by
  obtain ⟨h1, h2, h3⟩ := h
  obtain ⟨c, rfl, hc⟩ := inR_I (by have := hw.2.1; omega) h1
  obtain ⟨ld, rfl, hl⟩ := I_of h2
  have := hol_le hw hc
  rw [I_cl (by have := hw.2.1; omega), I_le hl (by omega)] at h3
  exact ⟨c, ld, rfl, rfl, hc, h3, by omega⟩
theorem po_path : PO_path Inv := by
  intro σx σm h v w
  have h0 := h
  obtain ⟨T, R, D, Mk, U, n, tp, LD, LP, hw, hx, hm⟩ := h
  have hm' := GM_0 hw 0 hm
  have h37 := hw.2.2.1.1
  have key : ∃ r : Int32, rX_path v w σx = some (r, σx) ∧ rM_path v w σm = some (r, setI σm 0 0 0) := by
    unfold rX_path rX_path_27 rM_path rM_path_35 rM_path_36
    rw [eX_rhas, bnd2_e, hx.2.2.1.1, nmE, eM_isPath, bnd2_e, hm'.2.2.1.1]
    by_cases hv : inR v (I (R 0 0))
    · obtain ⟨p, rfl, hp⟩ := inR_I (by omega) hv
      obtain ⟨r1, -⟩ := hw.2.2.1.2 p hp
      rw [b01_t hv, brc_f b01_1, brc_f b01_1]
      by_cases hw0 : w < 0
      · rw [brc_t hw0, brc_t hw0]; exact ⟨_, rfl, rfl⟩
      · obtain ⟨i, rfl, hi⟩ := I_of (not_lt32.mp hw0)
        rw [brc_f hw0, brc_f hw0, eX_rlastOf hx.2.2.1 h37 hp, bnd2_e, eM_lengthOf hm'.2.2.1 h37 hp, bnd2_e]
        by_cases hle : i ≤ R 1 p
        · rw [brc_t (show I i ≤ I (R 1 p) by rw [I_le hi (by omega)]; exact hle), brc_f (show ¬ I (R 1 p + 1) ≤ I i by rw [I_le (by omega) hi]; omega), eX_rstationAt hx.2.2.1 h37 hp r1 hle, bnd2_e, eM_stationOf hm'.2.2.1 h37 hp r1 hle, bnd2_e]
          exact ⟨_, rfl, rfl⟩
        · rw [brc_f (show ¬ I i ≤ I (R 1 p) by rw [I_le hi (by omega)]; exact hle), brc_t (show I (R 1 p + 1) ≤ I i by rw [I_le (by omega) hi]; omega)]
          exact ⟨_, rfl, rfl⟩
    · rw [b01_f hv, brc_t rfl, brc_t rfl]; exact ⟨_, rfl, rfl⟩
  obtain ⟨r, e1, e2⟩ := key
  exact ⟨r, _, _, e1, e2, Inv_0 0 h0⟩
theorem within3 (v : Int32) : (0 ≤ v ∧ v ≤ 3) ↔ (v = 0 ∨ v = 1 ∨ v = 2 ∨ v = 3) := by
  constructor
  · rintro ⟨h1, h2⟩
    rw [Int32.le_iff_toInt_le] at h1 h2
    have e0 : (0 : Int32).toInt = 0 := rfl
    have e2 : (3 : Int32).toInt = 3 := rfl
    rw [e0] at h1
    rw [e2] at h2
    have : v.toInt = 0 ∨ v.toInt = 1 ∨ v.toInt = 2 ∨ v.toInt = 3 := by omega
    rcases this with h | h | h | h
    · exact Or.inl (Int32.toInt_inj.mp h)
    · exact Or.inr (Or.inl (Int32.toInt_inj.mp h))
    · exact Or.inr (Or.inr (Or.inl (Int32.toInt_inj.mp h)))
    · exact Or.inr (Or.inr (Or.inr (Int32.toInt_inj.mp h)))
  · rintro (rfl | rfl | rfl | rfl) <;> decide
theorem po_trip : PO_trip Inv := by
  intro σx σm h v w u z
  obtain ⟨T, R, D, Mk, U, n, tp, LD, LP, hw, hx, hm⟩ := h
  have hm' := GM_0 hw 0 hm
  have h37 := hw.2.2.1.1
  have mk : ∀ (r : Int32) (τ υ : St), rX_trip v w u z σx = some (r, τ) → rM_trip v w u z σm = some (r, υ) → sX σx τ → sM (setI σm 0 0 0) υ → ∃ (r : Int32) (x m : St), rX_trip v w u z σx = some (r, x) ∧ rM_trip v w u z σm = some (r, m) ∧ Inv x m := fun r τ υ e1 e2 f1 f2 =>
    ⟨r, τ, υ, e1, e2, T, R, D, Mk, U, n, tp, LD, LP, hw, GX_b (bX_of f1) hx, GM_b hw (bM_of f2) hm'⟩
  by_cases hc : okC T v u
  · by_cases hp : inR w (I (R 0 0))
    · obtain ⟨c, ld, rfl, rfl, hcc, hl, hl2⟩ := okC_I hw.1 hc
      obtain ⟨p, rfl, hpp⟩ := inR_I (by omega) hp
      obtain ⟨τ, e1, t1, f1⟩ := eX_goAll0 (ld := ld) (GW_W hw) hcc hpp (by omega) (GX_W hx)
      obtain ⟨υ, e2, t2, f2⟩ := eM_goesTrip (ld := ld) (GW_W hw) hcc hpp (by omega) (GM_W hm')
      have eX : rX_trip (I c) (I p) (I ld) z σx = brc ((z).toInt = 0) (some (τ.1 46 5, τ)) (brc ((z).toInt = 1) (some (τ.1 46 6, τ)) (brc ((z).toInt = 2) (some (τ.1 46 7, τ)) (brc ((z).toInt = 3) (some (τ.1 46 8, τ)) (some ((-1 : Int32), τ))))) := by
        unfold rX_trip
        rw [eX_canCarry hw.1 hx.1, bnd2_e, b01_t hc, brc_f b01_1, eX_rhas, bnd2_e, hx.2.2.1.1, b01_t hp, brc_t b01_1, e1, bnd1_e]
      have eM : rM_trip (I c) (I p) (I ld) z σm = brc (¬ b01 (0 ≤ z ∧ z ≤ 3) = 0) (brc (¬ z = 0) (brc (¬ z = (1 : Int32)) (brc (¬ z = (2 : Int32)) (some (υ.1 0 33, υ)) (some (υ.1 0 32, υ))) (some (υ.1 0 31, υ))) (some (υ.1 0 30, υ))) (some (-1, setI σm 0 0 0)) := by
        unfold rM_trip rM_trip_83 rM_trip_32
        rw [nmE, eM_canCarry hw.1 hm'.1, bnd2_e, b01_t hc, brc_f b01_1, eM_isPath, bnd2_e, hm'.2.2.1.1, b01_t hp, brc_f b01_1, eM_within, bnd2_e, e2, bnd1_e]
      by_cases hz : 0 ≤ z ∧ z ≤ 3
      · rw [b01_t hz, brc_t b01_1] at eM
        rcases (within3 z).mp hz with rfl | rfl | rfl | rfl
        · rw [brc_t (by decide), t1.1] at eX
          rw [brc_f (by decide), t2.1] at eM
          exact mk _ _ _ eX eM f1 f2
        · rw [brc_f (by decide), brc_t (by decide), t1.2.1] at eX
          rw [brc_t (by decide), brc_f (by decide), t2.2.1] at eM
          exact mk _ _ _ eX eM f1 f2
        · rw [brc_f (by decide), brc_f (by decide), brc_t (by decide), t1.2.2.1] at eX
          rw [brc_t (by decide), brc_t (by decide), brc_f (by decide), t2.2.2.1] at eM
          exact mk _ _ _ eX eM f1 f2
        · rw [brc_f (by decide), brc_f (by decide), brc_f (by decide), brc_t (by decide), t1.2.2.2] at eX
          rw [brc_t (by decide), brc_t (by decide), brc_t (by decide), t2.2.2.2] at eM
          exact mk _ _ _ eX eM f1 f2
      · have hz' := fun h => hz ((within3 z).mpr h)
        rw [b01_f hz, brc_f (fun h9 => h9 rfl)] at eM
        rw [brc_f (show ¬ z.toInt = 0 from toInt_ne (k := 0) (fun h => hz' (Or.inl h))), brc_f (show ¬ z.toInt = 1 from toInt_ne (k := 1) (fun h => hz' (Or.inr (Or.inl h)))), brc_f (show ¬ z.toInt = 2 from toInt_ne (k := 2) (fun h => hz' (Or.inr (Or.inr (Or.inl h))))), brc_f (show ¬ z.toInt = 3 from toInt_ne (k := 3) (fun h => hz' (Or.inr (Or.inr (Or.inr h)))))] at eX
        exact mk _ _ _ eX eM f1 frO_refl
    · refine mk (-1) σx (setI σm 0 0 0) ?_ ?_ frO_refl frO_refl
      · unfold rX_trip rX_trip_20
        rw [eX_canCarry hw.1 hx.1, bnd2_e, b01_t hc, brc_f b01_1, eX_rhas, bnd2_e, hx.2.2.1.1, b01_f hp, brc_f (fun h9 => h9 rfl)]
      · unfold rM_trip rM_trip_32
        rw [nmE, eM_canCarry hw.1 hm'.1, bnd2_e, b01_t hc, brc_f b01_1, eM_isPath, bnd2_e, hm'.2.2.1.1, b01_f hp, brc_t rfl]
  · refine mk (-1) σx (setI σm 0 0 0) ?_ ?_ frO_refl frO_refl
    · unfold rX_trip rX_trip_20
      rw [eX_canCarry hw.1 hx.1, bnd2_e, b01_f hc, brc_t rfl]
    · unfold rM_trip rM_trip_32
      rw [nmE, eM_canCarry hw.1 hm'.1, bnd2_e, b01_f hc, brc_t rfl]
theorem po_best : PO_best Inv := by
  intro σx σm h v u z
  obtain ⟨T, R, D, Mk, U, n, tp, LD, LP, hw, hx, hm⟩ := h
  have hm' := GM_0 hw 0 hm
  have mk : ∀ (r : Int32) (τ υ : St), rX_best v u z σx = some (r, τ) → rM_best v u z σm = some (r, υ) → bX σx τ → bM (setI σm 0 0 0) υ → ∃ (r : Int32) (x m : St), rX_best v u z σx = some (r, x) ∧ rM_best v u z σm = some (r, m) ∧ Inv x m := fun r τ υ e1 e2 f1 f2 =>
    ⟨r, τ, υ, e1, e2, T, R, D, Mk, U, n, tp, LD, LP, hw, GX_b f1 hx, GM_b hw f2 hm'⟩
  by_cases hc : okC T v u
  · by_cases hz : 0 ≤ z ∧ z ≤ 1
    · obtain ⟨c, ld, rfl, rfl, hcc, hl, hl2⟩ := okC_I hw.1 hc
      obtain ⟨τ, e1, t9, t10, f1⟩ := eX_pfindBest (ld := ld) (GW_W hw) hcc (by omega) (GX_W hx)
      obtain ⟨⟨r, υ⟩, e2, hr, u9, u10, f2⟩ := eM_findBest (ld := ld) (GW_W hw) hcc (by omega) (GM_W hm')
      simp only at hr u9 u10 f2
      have hb := bs_le T D R LD c ld (R 0 0)
      have h37 := hw.2.2.1.1
      have eX : rX_best (I c) (I ld) z σx = brc (¬ z = 0) (some (τ.1 49 10, τ)) (some (τ.1 49 9, τ)) := by
        unfold rX_best rX_best_50
        rw [eX_canCarry hw.1 hx.1, bnd2_e, b01_t hc, brc_f b01_1, brc_f (not_lt32.mpr hz.1), brc_t hz.2, e1, bnd1_e]
      have eM : rM_best (I c) (I ld) z σm = brc (¬ r = 0) (brc (¬ z = 0) (some (υ.1 0 35, υ)) (some (υ.1 0 34, υ))) (some (-1, υ)) := by
        unfold rM_best rM_best_49 rM_best_32
        rw [nmE, eM_canCarry hw.1 hm'.1, bnd2_e, b01_t hc, brc_f b01_1, eM_within, bnd2_e, b01_t hz, brc_f b01_1, e2, bnd2_e]
      by_cases hz0 : (bs T D R LD c ld (R 0 0)).1 = 0
      · rw [hr, b01_f (fun h => h hz0), brc_f (fun h => h rfl)] at eM
        rw [hz0, nz0] at t9
        rw [hb.2.2.mp hz0, nz0] at t10
        rw [t9, t10] at eX
        refine mk (-1) τ υ ?_ eM f1 f2
        by_cases h0 : z = 0
        · rw [eX, brc_f (fun h => h h0)]
        · rw [eX, brc_t h0]
      · rw [hr, b01_t hz0, brc_t b01_1] at eM
        by_cases h0 : z = 0
        · rw [brc_f (fun h => h h0), t9] at eX
          rw [brc_f (fun h => h h0), u9] at eM
          exact mk _ _ _ eX eM f1 f2
        · rw [brc_t h0, t10] at eX
          rw [brc_t h0, u10] at eM
          exact mk _ _ _ eX eM f1 f2
    · refine mk (-1) σx (setI σm 0 0 0) ?_ ?_ frO_refl frO_refl
      · unfold rX_best rX_best_18
        rw [eX_canCarry hw.1 hx.1, bnd2_e, b01_t hc, brc_f b01_1]
        by_cases h0 : z < 0
        · rw [brc_t h0]
        · rw [brc_f h0, brc_f (fun h => hz ⟨not_lt32.mp h0, h⟩)]
      · unfold rM_best rM_best_32
        rw [nmE, eM_canCarry hw.1 hm'.1, bnd2_e, b01_t hc, brc_f b01_1, eM_within, bnd2_e, b01_f hz, brc_t rfl]
  · refine mk (-1) σx (setI σm 0 0 0) ?_ ?_ frO_refl frO_refl
    · unfold rX_best rX_best_18
      rw [eX_canCarry hw.1 hx.1, bnd2_e, b01_f hc, brc_t rfl]
    · unfold rM_best rM_best_32
      rw [nmE, eM_canCarry hw.1 hm'.1, bnd2_e, b01_f hc, brc_t rfl]
