/-! what is wrong with a way -/
abbrev fS (n : Nat) (tp : Nat → Nat) (m : Nat) (np idn : Nat → Nat) (k : Nat) : Nat := fdI n tp np idn (ps n tp k) m
def wyF (n : Nat) (tp : Nat → Nat) (m : Nat) (np idn : Nat → Nat) (T : Vw) (k : Nat) : Nat := if T 0 1 < 12 then (if tdF n tp m np idn (k + 1) 0 7 = 0 then (if tdF n tp m np idn (k + 2) 0 7 = 0 then (if fS n tp m np idn (k + 1) = fS n tp m np idn (k + 2) ∨ 0 < T 3 (7 * fS n tp m np idn (k + 1) + fS n tp m np idn (k + 2)) then 3 + 16 * ps n tp (k + 2) else (if afF n tp (k + 3) 4 1 99 = 0 then afF n tp (k + 5) 5 0 9 else afF n tp (k + 3) 4 1 99)) else tdF n tp m np idn (k + 2) 0 7 + 16 * ps n tp (k + 2)) else tdF n tp m np idn (k + 1) 0 7 + 16 * ps n tp (k + 1)) else 5 + 16 * ps n tp k
theorem eX_hasWayD {T : Vw} {σ : St} {a b : Nat} (ha : a < 7) (hb : b < 7) (hx : XDr T σ) (h99 : T 3 (7 * a + b) ≤ 99) : rX_hasWayD (I a) (I b) σ = some (if 0 < T 3 (7 * a + b) then 1 else 0, σ) := by
  have e1 : I a * (7 : Int32) + I b = I (7 * a + b) := by
    have e : I a * (7 : Int32) = I (a * 7) := by rw [litN, I_mul]
    rw [e, I_add, Nat.mul_comm]
  have e13 : σ.1 13 (7 * a + b) = I (T 3 (7 * a + b)) := (hx.2.2.2.2.2.2.2.1 (7 * a + b) (by omega)).1
  unfold rX_hasWayD rX_hasWayD_19
  rw [e1, chk_t (ib_I (by omega) (by omega)), I_cl (by omega), e13]
  by_cases e : 0 < T 3 (7 * a + b)
  · rw [if_pos e, brc_f (by rw [I0, I_le (by omega) (by omega)]; omega), chk_t (by decide)]
  · rw [if_neg e, brc_t (by rw [I0, I_le (by omega) (by omega)]; omega), chk_t (by decide)]
