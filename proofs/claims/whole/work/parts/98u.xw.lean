/-! the throw's words are the tables' -/
theorem XW_tbl : ∀ w ∈ XW, w ∈ lw_tbl := by decide +kernel
