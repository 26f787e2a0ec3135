theorem tb_x0_in : ∀ w ∈ tb_x0, w ∈ lw_tbl := by decide +kernel
