theorem q_paths {σx σm : St} (h : σx.1 42 3 = σm.1 0 27) : ∃ r : Int32, rX_paths σx = some (r, σx) ∧ rM_paths σm = some (r, setI σm 0 0 0) := by
  refine ⟨σx.1 42 3, rfl, ?_⟩
  unfold rM_paths
  rw [nmE, setI_same]
  have : upd (σm.1 0) 0 0 27 = σm.1 0 27 := if_neg (by decide)
  rw [this, h]
