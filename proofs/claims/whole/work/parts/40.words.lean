/-! The words of the machine among the claim's. -/
theorem jz_xw : ∀ w ∈ jx_xw, w ∈ lw_tbl := by decide +kernel
theorem jz_lw : ∀ w ∈ jx_lw, w ∈ lw_tbl := by decide +kernel
theorem jz_lz : ∀ w ∈ jl_lz, w ∈ lw_tbl := by decide +kernel
