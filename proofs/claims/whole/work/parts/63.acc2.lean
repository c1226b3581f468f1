theorem eM_wayOf (σ : St) {a b w : Nat} (ha : a < 7) (hb : b < 7) (hw : w < 2) : rM_wayOf (I a) (I b) (I w) σ = some (σ.1 6 (22 + 2 * (7 * a + b) + w), σ) := by
  unfold rM_wayOf
  rw [show (22 : Int32) = I 22 from rfl, show (2 : Int32) = I 2 from rfl, show (7 : Int32) = I 7 from rfl]
  simp only [I_mul, I_add]
  rw [chk_t (ib_I (by omega) (by omega)), I_cl (by omega)]
theorem eM_carrierOf (σ : St) {c w : Nat} (hc : c < 6) (hw : w < 4) : rM_carrierOf (I c) (I w) σ = some (σ.1 6 (120 + 4 * c + w), σ) := by
  unfold rM_carrierOf
  rw [show (120 : Int32) = I 120 from rfl, show (4 : Int32) = I 4 from rfl]
  simp only [I_mul, I_add]
  rw [chk_t (ib_I (by omega) (by omega)), I_cl (by omega)]
def holdsOf (kind skin : Int32) : Int32 := if kind = 2 then 2 * skin else skin
theorem eM_holds (σ : St) {c : Nat} (hc : c < 6) : rM_holds (I c) σ = some (holdsOf (σ.1 6 (120 + 4 * c)) (σ.1 6 (120 + 4 * c + 1)), σ) := by
  unfold rM_holds rM_holds_27
  rw [show (0 : Int32) = I 0 from rfl, show (1 : Int32) = I 1 from rfl, eM_carrierOf σ hc (by omega), bnd2_e, eM_carrierOf σ hc (by omega), bnd2_e, bnd2_e, brc_e, Nat.add_zero]
  unfold holdsOf
  by_cases h : σ.1 6 (120 + 4 * c) = 2
  · rw [if_neg (fun h9 => h9 h), if_pos h]
  · rw [if_pos h, if_neg h]
theorem eX_holds (σ : St) {c : Nat} (hc : c < 6) : rX_holds (I c) σ = some (holdsOf (σ.1 28 c) (σ.1 29 c), σ) := by
  unfold rX_holds rX_holds_27
  rw [chk_t (ib_I hc (by omega)), chk_t (ib_I hc (by omega)), chk_t (ib_I hc (by omega)), I_cl (by omega), brc_e]
  unfold holdsOf
  by_cases h : σ.1 28 c = 2
  · rw [if_neg (fun h9 => h9 h), if_pos h]
  · rw [if_pos h, if_neg h]
theorem eX_hasWay (σ : St) {a b : Nat} (ha : a < 7) (hb : b < 7) : rX_hasWay (I a) (I b) σ = some (b01 (0 < σ.1 26 (7 * a + b)), σ) := by
  unfold rX_hasWay
  rw [show (7 : Int32) = I 7 from rfl]
  simp only [I_mul, I_add]
  rw [chk_t (ib_I (by omega) (by omega)), I_cl (by omega), brc_e, Nat.mul_comm a 7]
  unfold b01
  by_cases h : 0 < σ.1 26 (7 * a + b)
  · rw [if_neg (not_le32.mpr h), if_pos h]; rfl
  · rw [if_pos (not_lt32.mp h), if_neg h]; rfl
