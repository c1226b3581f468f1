theorem eM_isPatched (σ : St) (v : Int32) : rM_isPatched v σ = some (b01 ((σ.1 16 36 >>> (v &&& 31)) &&& 1 = 1), σ) := by
  unfold rM_isPatched rM_isPatched_20
  rw [show ib (36 : Int32) 6000 = true from rfl, chk_e, show (36 : Int32).toNatClampNeg = 36 from rfl, brc_e]
  unfold b01
  by_cases h : (σ.1 16 36 >>> (v &&& 31)) &&& 1 = 1
  · rw [if_neg (fun h9 => h9 h), if_pos h]; rfl
  · rw [if_pos h, if_neg h]; rfl
