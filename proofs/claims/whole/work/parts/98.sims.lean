/-! ===== every call keeps the relation, and answers alike ===== -/
theorem sims_ok : Sims RelW := ⟨sim_yard, sim_at, sim_ofBlock, sim_push, sim_would, sim_tracks, sim_undo, sim_keep, sim_back, sim_fewest, sim_won, sim_first, sim_rows, sim_sand, sim_thaw, sim_sheet, sim_lose, sim_put, sim_cell, sim_copy, sim_tell, sim_kick, sim_as, sim_trace, sim_fault, sim_many⟩
