/-! The static tables at the start. -/
theorem ja_t {args : Array Value} {s : State} {C n : String} {vs : List Nat} {A : Nat → Prop} (hN : vs.length < 2 ^ 31) (hl : (Cond.laysStatic C n "[I").before args s = true) (hini : (Cond.initialized C).before args s = true) (harr : (Cond.arrayOf (.static C n "[I") .int).before args s = true) (hlen : (Cond.eq (.length (.static C n "[I")) (.int (Int32.ofNat vs.length))).before args s = true) (hel : ∀ j : Nat, j < vs.length → (Cond.eq (.elem (.static C n "[I") (.int (Int32.ofNat j))) (.int (nI (vs.getD j 0)))).before args s = true) (hA : ∀ a : Nat, a < s.heap.size → ¬ A a) : ∃ t : Nat, va_Z C n "[I" (.ref t) A s s.heap ∧ va_T .int t vs.length (fun j => .int (nI (vs.getD j 0))) A s s.heap := by
  obtain ⟨t, h1, h2⟩ := va_Tof (f := fun j => .int (nI (vs.getD j 0))) hN harr (va_eqt hlen) (fun j hj => va_eqt (hel j hj)) hA
  exact ⟨t, va_Zof hl hini h1 hA, h2⟩
theorem ja_D4 {args : Array Value} {s : State} (hts : ∀ w ∈ lw_tbl, w.before args s = true) (hgv : (Jvm.Cond.and given_1 narrow_1).before args s = true) : ∃ t : Nat, va_Z "DotVault$Row" "DIVISOR" "[I" (.ref t) (fun q => s.heap.size ≤ q) s s.heap ∧ va_T .int t [7, 8, 12, 13].length (fun j => .int (nI ([7, 8, 12, 13].getD j 0))) (fun q => s.heap.size ≤ q) s s.heap := by
  have hg := flat_of_before _ hgv
  refine ja_t (args := args) (by decide) (hts _ (by decide +kernel)) (hts _ (by decide +kernel)) (hg _ (by decide +kernel)) (hg _ (by decide +kernel)) (fun j hj => ?_) (fun a h1 h2 => absurd h1 (Nat.not_lt.mpr h2))
  have hj4 : j < 4 := hj
  rcases (show j = 0 ∨ j = 1 ∨ j = 2 ∨ j = 3 by omega) with rfl | rfl | rfl | rfl <;> exact hg _ (by decide +kernel)
theorem ja_D15 {args : Array Value} {s : State} (hts : ∀ w ∈ lw_tbl, w.before args s = true) (hgv : (Jvm.Cond.and given_1 narrow_1).before args s = true) : ∃ t : Nat, va_Z "DotVault$Symbols" "POWERS" "[I" (.ref t) (fun q => s.heap.size ≤ q) s s.heap ∧ va_T .int t [1, 2, 4, 8, 3, 6, 12, 11, 5, 10, 7, 14, 15, 13, 9].length (fun j => .int (nI ([1, 2, 4, 8, 3, 6, 12, 11, 5, 10, 7, 14, 15, 13, 9].getD j 0))) (fun q => s.heap.size ≤ q) s s.heap := by
  have hg := flat_of_before _ hgv
  refine ja_t (args := args) (by decide) (hts _ (by decide +kernel)) (hts _ (by decide +kernel)) (hg _ (by decide +kernel)) (hg _ (by decide +kernel)) (fun j hj => ?_) (fun a h1 h2 => absurd h1 (Nat.not_lt.mpr h2))
  have hj4 : j < 15 := hj
  rcases (show j = 0 ∨ j = 1 ∨ j = 2 ∨ j = 3 ∨ j = 4 ∨ j = 5 ∨ j = 6 ∨ j = 7 ∨ j = 8 ∨ j = 9 ∨ j = 10 ∨ j = 11 ∨ j = 12 ∨ j = 13 ∨ j = 14 by omega) with rfl | rfl | rfl | rfl | rfl | rfl | rfl | rfl | rfl | rfl | rfl | rfl | rfl | rfl | rfl <;> exact hg _ (by decide +kernel)
theorem ja_D16 {args : Array Value} {s : State} (hts : ∀ w ∈ lw_tbl, w.before args s = true) (hgv : (Jvm.Cond.and given_1 narrow_1).before args s = true) : ∃ t : Nat, va_Z "DotVault$Symbols" "EXPONENTS" "[I" (.ref t) (fun q => s.heap.size ≤ q) s s.heap ∧ va_T .int t [0, 0, 1, 4, 2, 8, 5, 10, 3, 14, 9, 7, 6, 13, 11, 12].length (fun j => .int (nI ([0, 0, 1, 4, 2, 8, 5, 10, 3, 14, 9, 7, 6, 13, 11, 12].getD j 0))) (fun q => s.heap.size ≤ q) s s.heap := by
  have hg := flat_of_before _ hgv
  refine ja_t (args := args) (by decide) (hts _ (by decide +kernel)) (hts _ (by decide +kernel)) (hg _ (by decide +kernel)) (hg _ (by decide +kernel)) (fun j hj => ?_) (fun a h1 h2 => absurd h1 (Nat.not_lt.mpr h2))
  have hj4 : j < 16 := hj
  rcases (show j = 0 ∨ j = 1 ∨ j = 2 ∨ j = 3 ∨ j = 4 ∨ j = 5 ∨ j = 6 ∨ j = 7 ∨ j = 8 ∨ j = 9 ∨ j = 10 ∨ j = 11 ∨ j = 12 ∨ j = 13 ∨ j = 14 ∨ j = 15 by omega) with rfl | rfl | rfl | rfl | rfl | rfl | rfl | rfl | rfl | rfl | rfl | rfl | rfl | rfl | rfl | rfl <;> exact hg _ (by decide +kernel)
/-- the three tables, at addresses of the start's heap -/
theorem ja_SF {args : Array Value} {s : State} (hts : ∀ w ∈ lw_tbl, w.before args s = true) (hgv : (Jvm.Cond.and given_1 narrow_1).before args s = true) : ∃ a40 a41 a42 : Nat, ∀ G : jxG, G.2.2 40 0 = a40 → G.2.2 41 0 = a41 → G.2.2 42 0 = a42 → jx_SF G (fun q => s.heap.size ≤ q) s s.heap := by
  obtain ⟨a40, p1, p2⟩ := ja_D15 hts hgv
  obtain ⟨a41, x1, x2⟩ := ja_D16 hts hgv
  obtain ⟨a42, d1, d2⟩ := ja_D4 hts hgv
  refine ⟨a40, a41, a42, fun G h40 h41 h42 k q hk => ?_⟩
  by_cases e40 : k = 40
  · subst e40
    cases hk
    rw [h40]
    exact ⟨p1, p2⟩
  by_cases e41 : k = 41
  · subst e41
    cases hk
    rw [h41]
    exact ⟨x1, x2⟩
  by_cases e42 : k = 42
  · subst e42
    cases hk
    rw [h42]
    exact ⟨d1, d2⟩
  exfalso
  have hn : ∀ k, k < 60 → k ≠ 40 → k ≠ 41 → k ≠ 42 → jx_tv k = none := by decide +kernel
  by_cases hlt : k < 60
  · rw [hn k hlt e40 e41 e42] at hk
    cases hk
  · rw [(jx_big hlt).2.2.2.1] at hk
    cases hk
