/-! The start's facts. -/
theorem ja_ZU {args : Array Value} {s : State} (hts : ∀ w ∈ lw_tbl, w.before args s = true) (hgv : (Jvm.Cond.and given_1 narrow_1).before args s = true) : vx_Zq Bundle.tN "UNASSIGNED_STACK" Bundle.steD (fun q => s.heap.size ≤ q) s s.heap := by
  have hg := flat_of_before _ hgv
  refine vx_Zqof (args := args) ?_ ?_ ?_ (fun a h1 h2 => absurd h1 (Nat.not_lt.mpr h2))
  · first | exact hts _ (by decide +kernel) | exact hg _ (by decide +kernel)
  · first | exact hts _ (by decide +kernel) | exact hg _ (by decide +kernel)
  · first | exact hts _ (by decide +kernel) | exact hg _ (by decide +kernel)
theorem ja_ZS {args : Array Value} {s : State} (hts : ∀ w ∈ lw_tbl, w.before args s = true) (hgv : (Jvm.Cond.and given_1 narrow_1).before args s = true) : vx_Zq Bundle.tN "SUPPRESSED_SENTINEL" Bundle.listD (fun q => s.heap.size ≤ q) s s.heap := by
  have hg := flat_of_before _ hgv
  refine vx_Zqof (args := args) ?_ ?_ ?_ (fun a h1 h2 => absurd h1 (Nat.not_lt.mpr h2))
  · first | exact hts _ (by decide +kernel) | exact hg _ (by decide +kernel)
  · first | exact hts _ (by decide +kernel) | exact hg _ (by decide +kernel)
  · first | exact hts _ (by decide +kernel) | exact hg _ (by decide +kernel)
theorem ja_N {args : Array Value} {s : State} (hgv : (Jvm.Cond.and given_1 narrow_1).before args s = true) : va_Nc (jx_xr 1).2.2 (jx_xr 0).2.2 s := va_Nc.of (args := args) (flat_of_before _ hgv _ (by decide +kernel))
