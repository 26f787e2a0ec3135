theorem tb_x1_in : ∀ w ∈ tb_x1, w ∈ lw_tbl := by decide +kernel
theorem tb_X_in : ∀ w ∈ tb_X, w ∈ lw_tbl := fun w h => (List.mem_append.mp h).elim (fun h => wsL_law_in0 w h) (fun h => (List.mem_append.mp h).elim (fun h => tb_x0_in w h) (fun h => tb_x1_in w h))
