/-! The static tables at the start. -/
theorem ja_t {args : Array Value} {s : State} {C n : String} {vs : List Nat} {A : Nat → Prop} (hN : vs.length < 2 ^ 31) (hl : (Cond.laysStatic C n "[I").before args s = true) (hini : (Cond.initialized C).before args s = true) (harr : (Cond.arrayOf (.static C n "[I") .int).before args s = true) (hlen : (Cond.eq (.length (.static C n "[I")) (.int (Int32.ofNat vs.length))).before args s = true) (hel : ∀ j : Nat, j < vs.length → (Cond.eq (.elem (.static C n "[I") (.int (Int32.ofNat j))) (.int (nI (vs.getD j 0)))).before args s = true) (hA : ∀ a : Nat, a < s.heap.size → ¬ A a) : ∃ t : Nat, va_Z C n "[I" (.ref t) A s s.heap ∧ va_T .int t vs.length (fun j => .int (nI (vs.getD j 0))) A s s.heap := by
  obtain ⟨t, h1, h2⟩ := va_Tof (f := fun j => .int (nI (vs.getD j 0))) hN harr (va_eqt hlen) (fun j hj => va_eqt (hel j hj)) hA
  exact ⟨t, va_Zof hl hini h1 hA, h2⟩
theorem ja_D4 {args : Array Value} {s : State} (hts : ∀ w ∈ lw_tbl, w.before args s = true) (hgv : (Jvm.Cond.and given_1 narrow_1).before args s = true) : ∃ t : Nat, va_Z "DotVault$Row" "DIVISOR" "[I" (.ref t) (fun q => s.heap.size ≤ q) s s.heap ∧ va_T .int t [7, 8, 12, 13].length (fun j => .int (nI ([7, 8, 12, 13].getD j 0))) (fun q => s.heap.size ≤ q) s s.heap := by
  have hg := flat_of_before _ hgv
  refine ja_t (args := args) (by decide) (hts _ (by decide +kernel)) (hts _ (by decide +kernel)) (hg _ (by decide +kernel)) (hg _ (by decide +kernel)) (fun j hj => ?_) (fun a h1 h2 => absurd h1 (Nat.not_lt.mpr h2))
  have hj4 : j < 4 := hj
  rcases (show j = 0 ∨ j = 1 ∨ j = 2 ∨ j = 3 by omega) with rfl | rfl | rfl | rfl <;> exact hg _ (by decide +kernel)
