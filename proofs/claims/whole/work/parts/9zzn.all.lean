/-! all of it -/
theorem pure_all : PureAll := by
  obtain ⟨t0, t1, t2, a1, a2, a3, a4, a5, a6⟩ := start_ok
  exact ⟨Inv, t0, t1, t2, ⟨po_feed, po_mountain, po_station, po_way, po_carrier, po_paths, po_path, po_trip, po_send, po_rest, po_seed, po_drank, po_best, po_plan, po_relay, po_owe, po_owes, po_debt, po_settled, po_missed, po_odds, po_patch, po_undo, po_mark, po_count⟩, a1, a2, a3, a4, a5, a6⟩
theorem i_vc : Claimed_1_1 ∧ Claimed_1_2 := i_vc_of pure_all
