/-! debts -/
def balUp (d : Nat → Int32) (c : Nat) : Nat → Int32
  | 0 => 0
  | j + 1 => balUp d c j + (d (6 * c + j) - d (6 * j + c))
def balOf (d : Nat → Int32) (c : Nat) : Int32 := balUp d c 6
theorem eX_balance (σ : St) {c : Nat} (hc : c < 6) : rX_balance (I c) σ = some (balOf (σ.1 38) c, σ) := by
  show lp rX_balance_4L (4090 + 6) (I c, 0, I 0, σ) = _
  rw [show lp rX_balance_4L (4090 + 6) (I c, 0, I 0, σ) = _ from lp_for (fun j => (I c, balUp (σ.1 38) c j, I j, σ)) 6 (fun j hj k => by
    show rX_balance_4 (fun v1 v2 v3 σ => k (v1, v2, v3, σ)) (I c) (balUp (σ.1 38) c j) (I j) σ = _
    unfold rX_balance_4 nm
    rw [show (6 : Int32) = I 6 from rfl, show Int32.ofInt 1 = I 1 from rfl]
    simp only [I_mul, I_add]
    rw [brc_f (by rw [I_le (by omega) (by omega)]; omega), chk_t (ib_I (by omega) (by omega)), chk_t (ib_I (by omega) (by omega)), I_cl (by omega), I_cl (by omega), Nat.mul_comm c 6, Nat.mul_comm j 6]
    rfl) 4090]
  show rX_balance_4 (fun v1 v2 v3 σ => lp rX_balance_4L 4089 (v1, v2, v3, σ)) (I c) (balUp (σ.1 38) c 6) (I 6) σ = _
  unfold rX_balance_4
  rw [brc_t (by rw [show (6 : Int32) = I 6 from rfl, I_le (by omega) (by omega)]; omega)]
  rfl
theorem eM_debtOf (σ : St) {c : Nat} (hc : c < 6) : rM_debtOf (I c) σ = some (balOf (σ.1 16) c, σ) := by
  show lp rM_debtOf_4L (4090 + 6) (I c, 0, I 0, σ) = _
  rw [show lp rM_debtOf_4L (4090 + 6) (I c, 0, I 0, σ) = _ from lp_for (fun j => (I c, balUp (σ.1 16) c j, I j, σ)) 6 (fun j hj k => by
    show rM_debtOf_4 (fun v1 v2 v3 σ => k (v1, v2, v3, σ)) (I c) (balUp (σ.1 16) c j) (I j) σ = _
    unfold rM_debtOf_4 nm
    rw [show (6 : Int32) = I 6 from rfl, show Int32.ofInt 1 = I 1 from rfl]
    simp only [I_mul, I_add]
    rw [brc_f (by rw [I_le (by omega) (by omega)]; omega), chk_t (ib_I (by omega) (by omega)), chk_t (ib_I (by omega) (by omega)), I_cl (by omega), I_cl (by omega)]
    rfl) 4090]
  show rM_debtOf_4 (fun v1 v2 v3 σ => lp rM_debtOf_4L 4089 (v1, v2, v3, σ)) (I c) (balUp (σ.1 16) c 6) (I 6) σ = _
  unfold rM_debtOf_4
  rw [brc_t (by rw [show (6 : Int32) = I 6 from rfl, I_le (by omega) (by omega)]; omega)]
  rfl
