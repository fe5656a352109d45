/-! The start's facts. -/
theorem ja_ZU {args : Array Value} {s : State} (hts : ∀ w ∈ lw_tbl, w.before args s = true) (hgv : (Jvm.Cond.and given_1 narrow_1).before args s = true) : vx_Zq Bundle.tN "UNASSIGNED_STACK" Bundle.steD (fun q => s.heap.size ≤ q) s s.heap := by
  have hg := flat_of_before _ hgv
  refine vx_Zqof (args := args) ?_ ?_ ?_ (fun a h1 h2 => absurd h1 (Nat.not_lt.mpr h2))
  · first | exact hts _ (by decide +kernel) | exact hg _ (by decide +kernel)
  · first | exact hts _ (by decide +kernel) | exact hg _ (by decide +kernel)
  · first | exact hts _ (by decide +kernel) | exact hg _ (by decide +kernel)
theorem ja_ZS {args : Array Value} {s : State} (hts : ∀ w ∈ lw_tbl, w.before args s = true) (hgv : (Jvm.Cond.and given_1 narrow_1).before args s = true) : vx_Zq Bundle.tN "SUPPRESSED_SENTINEL" Bundle.listD (fun q => s.heap.size ≤ q) s s.heap := by
  have hg := flat_of_before _ hgv
  refine vx_Zqof (args := args) ?_ ?_ ?_ (fun a h1 h2 => absurd h1 (Nat.not_lt.mpr h2))
  · first | exact hts _ (by decide +kernel) | exact hg _ (by decide +kernel)
  · first | exact hts _ (by decide +kernel) | exact hg _ (by decide +kernel)
  · first | exact hts _ (by decide +kernel) | exact hg _ (by decide +kernel)
theorem ja_N {args : Array Value} {s : State} (hgv : (Jvm.Cond.and given_1 narrow_1).before args s = true) : va_Nc (jx_xr 1).2.2 (jx_xr 0).2.2 s := va_Nc.of (args := args) (flat_of_before _ hgv _ (by decide +kernel))
theorem ja_C {args : Array Value} {s : State} (hts : ∀ w ∈ lw_tbl, w.before args s = true) : ∀ x, x < 3 → va_Nw (.castable (jx_xr x).2.2 (jx_xr x).2.2) s := by
  intro x hx
  have h : (Cond.castable (jx_xr x).2.2 (jx_xr x).2.2).before args s = true := by
    rcases (show x = 0 ∨ x = 1 ∨ x = 2 by omega) with rfl | rfl | rfl
    · exact hts _ (by decide +kernel)
    · exact hts _ (by decide +kernel)
    · exact hts _ (by decide +kernel)
  exact va_tabs rfl rfl h
theorem ja_D {args : Array Value} {s : State} (hts : ∀ w ∈ lw_tbl, w.before args s = true) : ∀ y ∈ jx_xd, va_Nw (.declares y) s := by
  intro y hy
  have h : (Cond.declares y).before args s = true := by
    simp only [jx_xd, List.mem_cons, List.not_mem_nil, or_false] at hy
    rcases hy with rfl | rfl | rfl
    · exact hts _ (by decide +kernel)
    · exact hts _ (by decide +kernel)
    · exact hts _ (by decide +kernel)
  exact va_tabs rfl rfl h
theorem ja_ref {own cls : String} {k : Nat} {A : Array Value} {U : State} (h : (Cond.exactly (.string own k) cls).before A U = true) : ∃ a, (Term.string own k).eval A U none [] U = some (.ref a) := by
  simp only [Cond.before, Cond.holds, Cond.value] at h
  cases he : (Term.string own k).eval A U none [] U with
  | none => rw [he] at h; simp at h
  | some v =>
    rw [he] at h
    cases v <;> first | exact ⟨_, rfl⟩ | (exfalso; revert h; cases U.vm.findClass cls <;> simp)
theorem ja_R {args : Array Value} {s : State} (hts : ∀ w ∈ lw_tbl, w.before args s = true) (hgv : (Jvm.Cond.and given_1 narrow_1).before args s = true) : ∀ q ∈ jx_sl, ∃ sa, vk_R "DotVault" q.1 q.2 sa s := by
  have hg := flat_of_before _ hgv
  intro q hq
  have h1 : (Cond.stringRef "DotVault" q.1 q.2).before args s = true ∧ (Cond.exactly (.string "DotVault" q.1) "java/lang/String").before args s = true := by
    simp only [jx_sl, List.mem_cons, List.not_mem_nil, or_false] at hq
    rcases hq with rfl | rfl | rfl | rfl | rfl | rfl | rfl | rfl | rfl | rfl <;> exact ⟨hts _ (by decide +kernel), hg _ (by decide +kernel)⟩
  obtain ⟨a, ha⟩ := ja_ref h1.2
  exact ⟨a, vk_R.of (A := args) h1.1 ha⟩
theorem ja_XS {args : Array Value} {s : State} (hts : ∀ w ∈ lw_tbl, w.before args s = true) (hgv : (Jvm.Cond.and given_1 narrow_1).before args s = true) : jx_XS (fun q => s.heap.size ≤ q) s s.heap := ⟨ja_ZU hts hgv, ja_ZS hts hgv, ja_R hts hgv, ja_C hts, ja_D hts, ja_N hgv⟩
