/-! The nine wrappers. -/
/-- behind a wrapper: 0 and the reference will answer what lies in out, or t and the reference will have thrown t -/
def WQ (κ : Nat) (as : List jxV) : Int32 → jxH → Prop := fun k h' => (k = nI 0 ∧ ∃ f9, jx_MW κ as h' (RQ f9 (f9 0))) ∨ (∃ t, 0 < t ∧ t < 3 ∧ k = nI t ∧ jx_MW κ as h' (RT t))
def WQd (κ : Nat) (as : List jxV) : Int32 → jxH → Prop := fun k h' => (k = nI 0 ∧ ∃ f9 r, jx_MW κ as h' (RQ f9 r) ∧ (r = 0 → f9 0 = nI 0) ∧ (¬ r = 0 → f9 0 = nI 1)) ∨ (∃ t, 0 < t ∧ t < 3 ∧ k = nI t ∧ jx_MW κ as h' (RT t))
def WQf (κ : Nat) (as : List jxV) : Int32 → jxH → Prop := fun k h' => ∃ t, t < 3 ∧ k = nI t ∧ jx_MW κ as h' (RT t)
theorem M_load {b : Int32} {h : jxH} (hR : REL h) : jx_MWR 112 [(0, 9, 12, 13), (0, 9, 15, 15)] [jR 0 0, jI b, jR 33 0] h (WQ 30 [jR 20 0, jI b]) := by
  refine jx_WR (ω := 112) (κ := 2) (idx := 7) (cpc := 4) (as := [jI b]) (rest := [jI (nI 0), jR 33 0]) (ls := [some (jR 0 0), some (jI b), some (jR 33 0), none]) (by decide) rfl rfl (Nat.le_of_ble_eq_true rfl) rfl (by decide) (by decide) (show (parseMethodDescriptor (jx_nm 2).desc).map (fun d => d.parameters.length) = some 1 by decide +kernel) (Nat.le_of_ble_eq_true rfl) (by decide) (by decide) (fun v hv => ?_) (jx_BM_MX (by decide) (Nat.le_of_ble_eq_true rfl) (Q_load hR)) (by decide +kernel) (fun V rule hv => ?_) (fun V rule r h1 hE => ?_) (fun x h1 hx hT => ?_)
  · simp only [List.mem_cons, List.not_mem_nil, or_false] at hv
    rcases hv with rfl | rfl <;> trivial
  · refine rule (Nat.beq 4) 20 0 _ _ _ ?_
    exact hv
  · refine rule (fun _ => false) 20 7 _ _ _ ?_
    refine Exists.intro 0 (And.intro (And.intro (by decide) rfl) ?_)
    exact Or.inl (And.intro rfl (Exists.intro (upd (h1 33 0) 0 r) (hE (upd (h1 33 0) 0 r))))
  · obtain ⟨rfl, ⟨rfl, hT⟩ | ⟨rfl, hT⟩⟩ := hT
    · exact ⟨[], ⟨0, 9, 12, 13⟩, [⟨0, 9, 15, 15⟩], 1, by decide, rfl, fun _ hy => (by cases hy), by decide, rfl, Or.inl ⟨3, by decide, by decide +kernel, by decide +kernel, by decide +kernel⟩, Or.inr (Exists.intro 1 (And.intro (by decide) (And.intro (by decide) (And.intro rfl hT))))⟩
    · exact ⟨[⟨0, 9, 12, 13⟩], ⟨0, 9, 15, 15⟩, [], 2, by decide, rfl, fun y hy => (by cases List.mem_singleton.mp hy; exact ⟨rfl, rfl⟩), by decide, rfl, Or.inl ⟨3, by decide, by decide +kernel, by decide +kernel, by decide +kernel⟩, Or.inr (Exists.intro 2 (And.intro (by decide) (And.intro (by decide) (And.intro rfl hT))))⟩
theorem M_print {h : jxH} (hR : REL h) : jx_MWR 113 [(0, 8, 11, 15)] [jR 0 0, jR 33 0] h (WQ 105 [jR 20 0]) := by
  refine jx_WR (ω := 113) (κ := 107) (idx := 17) (cpc := 3) (as := []) (rest := [jI (nI 0), jR 33 0]) (ls := [some (jR 0 0), some (jR 33 0), none]) (by decide) rfl rfl (Nat.le_of_ble_eq_true rfl) rfl (by decide) (by decide) (show (parseMethodDescriptor (jx_nm 107).desc).map (fun d => d.parameters.length) = some 0 by decide +kernel) (Nat.le_of_ble_eq_true rfl) (by decide) (by decide) (fun v hv => ?_) (jx_BM_MX (by decide) (Nat.le_of_ble_eq_true rfl) (Q_print hR)) (by decide +kernel) (fun V rule hv => ?_) (fun V rule r h1 hE => ?_) (fun x h1 hx hT => ?_)
  · simp only [List.mem_cons, List.not_mem_nil, or_false] at hv
    subst hv
    trivial
  · refine rule (Nat.beq 3) 20 0 _ _ _ ?_
    exact hv
  · refine rule (fun _ => false) 20 6 _ _ _ ?_
    refine Exists.intro 0 (And.intro (And.intro (by decide) rfl) ?_)
    exact Or.inl (And.intro rfl (Exists.intro (upd (h1 33 0) 0 r) (hE (upd (h1 33 0) 0 r))))
  · obtain ⟨rfl, rfl, hT⟩ := hT
    exact ⟨[], ⟨0, 8, 11, 15⟩, [], 1, by decide, rfl, fun _ hy => (by cases hy), by decide, rfl, Or.inl ⟨2, by decide, by decide +kernel, by decide +kernel, by decide +kernel⟩, Or.inr (Exists.intro 1 (And.intro (by decide) (And.intro (by decide) (And.intro rfl hT))))⟩
theorem M_dot {pg x y : Int32} {h : jxH} (hR : REL h) : jx_MWR 114 [(0, 19, 22, 13)] [jR 0 0, jI pg, jI x, jI y, jR 33 0] h (WQd 66 [jR 20 0, jI pg, jI x, jI y]) := by
  refine jx_WR (ω := 114) (κ := 77) (idx := 21) (cpc := 7) (as := [jI pg, jI x, jI y]) (rest := [jI (nI 0), jR 33 0]) (ls := [some (jR 0 0), some (jI pg), some (jI x), some (jI y), some (jR 33 0), none]) (by decide) rfl rfl (Nat.le_of_ble_eq_true rfl) rfl (by decide) (by decide) (show (parseMethodDescriptor (jx_nm 77).desc).map (fun d => d.parameters.length) = some 3 by decide +kernel) (Nat.le_of_ble_eq_true rfl) (by decide) (by decide) (fun v hv => ?_) (jx_BM_MX (by decide) (Nat.le_of_ble_eq_true rfl) (Q_dot hR)) (by decide +kernel) (fun V rule hv => ?_) (fun V rule r h1 hE => ?_) (fun x h1 hx hT => ?_)
  · simp only [List.mem_cons, List.not_mem_nil, or_false] at hv
    rcases hv with rfl | rfl | rfl | rfl <;> trivial
  · refine rule (Nat.beq 7) 20 0 _ _ _ ?_
    exact hv
  · refine rule (fun _ => false) 20 10 _ _ _ ?_
    refine br_c (fun q => ?_) (fun q => ?_)
    · refine Exists.intro 0 (And.intro (And.intro (by decide) rfl) ?_)
      exact Or.inl (And.intro rfl (Exists.intro (upd (h1 33 0) 0 (nI 0)) (Exists.intro r (And.intro (hE _) (And.intro (fun _ => rfl) (fun z => absurd q z))))))
    · refine Exists.intro 0 (And.intro (And.intro (by decide) rfl) ?_)
      exact Or.inl (And.intro rfl (Exists.intro (upd (h1 33 0) 0 (nI 1)) (Exists.intro r (And.intro (hE _) (And.intro (fun z => absurd z q) (fun _ => rfl))))))
  · obtain ⟨rfl, rfl, hT⟩ := hT
    exact ⟨[], ⟨0, 19, 22, 13⟩, [], 1, by decide, rfl, fun _ hy => (by cases hy), by decide, rfl, Or.inr ⟨5, by decide, by decide +kernel, by decide +kernel, by decide +kernel⟩, Or.inr (Exists.intro 1 (And.intro (by decide) (And.intro (by decide) (And.intro rfl hT))))⟩
theorem M_blot {pg x y wi hi : Int32} {c : Bool} {h : jxH} (hR : REL h) : jx_MWR 115 [(0, 18, 21, 13)] [jR 0 0, jI pg, jI x, jI y, jI wi, jI hi, jI (nI c.toNat), jR 33 0] h (WQ 64 [jR 20 0, jI pg, jI x, jI y, jI wi, jI hi, jI (nI c.toNat)]) := by
  refine jx_WR (ω := 115) (κ := 76) (idx := 25) (cpc := 13) (as := [jI pg, jI x, jI y, jI wi, jI hi, jI (nI c.toNat)]) (rest := [jI (nI 0), jR 33 0]) (ls := [some (jR 0 0), some (jI pg), some (jI x), some (jI y), some (jI wi), some (jI hi), some (jI (nI c.toNat)), some (jR 33 0), none]) (by decide) rfl rfl (Nat.le_of_ble_eq_true rfl) rfl (by decide) (by decide) (show (parseMethodDescriptor (jx_nm 76).desc).map (fun d => d.parameters.length) = some 6 by decide +kernel) (Nat.le_of_ble_eq_true rfl) (by decide) (by decide) (fun v hv => ?_) (jx_BM_MX (by decide) (Nat.le_of_ble_eq_true rfl) (Q_blot hR)) (by decide +kernel) (fun V rule hv => ?_) (fun V rule r h1 hE => ?_) (fun x h1 hx hT => ?_)
  · simp only [List.mem_cons, List.not_mem_nil, or_false] at hv
    rcases hv with rfl | rfl | rfl | rfl | rfl | rfl | rfl <;> trivial
  · refine rule (Nat.beq 13) 20 0 _ _ _ ?_
    exact hv
  · refine rule (fun _ => false) 20 16 _ _ _ ?_
    refine Exists.intro 0 (And.intro (And.intro (by decide) rfl) ?_)
    exact Or.inl (And.intro rfl (Exists.intro (upd (h1 33 0) 0 r) (hE (upd (h1 33 0) 0 r))))
  · obtain ⟨rfl, rfl, hT⟩ := hT
    exact ⟨[], ⟨0, 18, 21, 13⟩, [], 1, by decide, rfl, fun _ hy => (by cases hy), by decide, rfl, Or.inr ⟨8, by decide, by decide +kernel, by decide +kernel, by decide +kernel⟩, Or.inr (Exists.intro 1 (And.intro (by decide) (And.intro (by decide) (And.intro rfl hT))))⟩
theorem M_flip {pg x y : Int32} {h : jxH} (hR : REL h) : jx_MWR 116 [(0, 7, 10, 13)] [jR 0 0, jI pg, jI x, jI y] h (WQf 68 [jR 20 0, jI pg, jI x, jI y]) := by
  refine jx_WR (ω := 116) (κ := 78) (idx := 29) (cpc := 4) (as := [jI pg, jI x, jI y]) (rest := []) (ls := [some (jR 0 0), some (jI pg), some (jI x), some (jI y), none]) (by decide) rfl rfl (Nat.le_of_ble_eq_true rfl) rfl (by decide) (by decide) (show (parseMethodDescriptor (jx_nm 78).desc).map (fun d => d.parameters.length) = some 3 by decide +kernel) (Nat.le_of_ble_eq_true rfl) (by decide) (by decide) (fun v hv => ?_) (jx_BM_MX (by decide) (Nat.le_of_ble_eq_true rfl) (Q_flip hR)) (by decide +kernel) (fun V rule hv => ?_) (fun V rule r h1 hE => ?_) (fun x h1 hx hT => ?_)
  · simp only [List.mem_cons, List.not_mem_nil, or_false] at hv
    rcases hv with rfl | rfl | rfl | rfl <;> trivial
  · refine rule (Nat.beq 4) 20 0 _ _ _ ?_
    exact hv
  · refine rule (fun _ => false) 20 7 _ _ _ ?_
    exact Exists.intro 0 (And.intro (by decide) (And.intro rfl hE))
  · obtain ⟨rfl, rfl, hT⟩ := hT
    exact ⟨[], ⟨0, 7, 10, 13⟩, [], 1, by decide, rfl, fun _ hy => (by cases hy), by decide, rfl, Or.inr ⟨4, by decide, by decide +kernel, by decide +kernel, by decide +kernel⟩, Exists.intro 1 (And.intro (by decide) (And.intro rfl hT))⟩
theorem M_feed {pg tn : Int32} {h : jxH} (hR : REL h) : jx_MWR 117 [(0, 10, 13, 13)] [jR 0 0, jI pg, jI tn, jR 33 0] h (WQ 110 [jR 20 0, jI pg, jI tn]) := by
  refine jx_WR (ω := 117) (κ := 111) (idx := 33) (cpc := 5) (as := [jI pg, jI tn]) (rest := [jI (nI 0), jR 33 0]) (ls := [some (jR 0 0), some (jI pg), some (jI tn), some (jR 33 0), none]) (by decide) rfl rfl (Nat.le_of_ble_eq_true rfl) rfl (by decide) (by decide) (show (parseMethodDescriptor (jx_nm 111).desc).map (fun d => d.parameters.length) = some 2 by decide +kernel) (Nat.le_of_ble_eq_true rfl) (by decide) (by decide) (fun v hv => ?_) (jx_BM_MX (by decide) (Nat.le_of_ble_eq_true rfl) (Q_feed hR)) (by decide +kernel) (fun V rule hv => ?_) (fun V rule r h1 hE => ?_) (fun x h1 hx hT => ?_)
  · simp only [List.mem_cons, List.not_mem_nil, or_false] at hv
    rcases hv with rfl | rfl | rfl <;> trivial
  · refine rule (Nat.beq 5) 20 0 _ _ _ ?_
    exact hv
  · refine rule (fun _ => false) 20 8 _ _ _ ?_
    refine Exists.intro 0 (And.intro (And.intro (by decide) rfl) ?_)
    exact Or.inl (And.intro rfl (Exists.intro (upd (h1 33 0) 0 r) (hE (upd (h1 33 0) 0 r))))
  · obtain ⟨rfl, rfl, hT⟩ := hT
    exact ⟨[], ⟨0, 10, 13, 13⟩, [], 1, by decide, rfl, fun _ hy => (by cases hy), by decide, rfl, Or.inr ⟨4, by decide, by decide +kernel, by decide +kernel, by decide +kernel⟩, Or.inr (Exists.intro 1 (And.intro (by decide) (And.intro (by decide) (And.intro rfl hT))))⟩
theorem M_errors {r : Int32} {h : jxH} (hR : REL h) : jx_MWR 118 [(0, 9, 12, 13)] [jR 0 0, jI r, jR 33 0] h (WQ 27 [jR 20 0, jI r]) := by
  refine jx_WR (ω := 118) (κ := 45) (idx := 37) (cpc := 4) (as := [jI r]) (rest := [jI (nI 0), jR 33 0]) (ls := [some (jR 0 0), some (jI r), some (jR 33 0), none]) (by decide) rfl rfl (Nat.le_of_ble_eq_true rfl) rfl (by decide) (by decide) (show (parseMethodDescriptor (jx_nm 45).desc).map (fun d => d.parameters.length) = some 1 by decide +kernel) (Nat.le_of_ble_eq_true rfl) (by decide) (by decide) (fun v hv => ?_) (jx_BM_MX (by decide) (Nat.le_of_ble_eq_true rfl) (Q_errors hR)) (by decide +kernel) (fun V rule hv => ?_) (fun V rule r h1 hE => ?_) (fun x h1 hx hT => ?_)
  · simp only [List.mem_cons, List.not_mem_nil, or_false] at hv
    rcases hv with rfl | rfl <;> trivial
  · refine rule (Nat.beq 4) 20 0 _ _ _ ?_
    exact hv
  · refine rule (fun _ => false) 20 7 _ _ _ ?_
    refine Exists.intro 0 (And.intro (And.intro (by decide) rfl) ?_)
    exact Or.inl (And.intro rfl (Exists.intro (upd (h1 33 0) 0 r) (hE (upd (h1 33 0) 0 r))))
  · obtain ⟨rfl, rfl, hT⟩ := hT
    exact ⟨[], ⟨0, 9, 12, 13⟩, [], 1, by decide, rfl, fun _ hy => (by cases hy), by decide, rfl, Or.inl ⟨3, by decide, by decide +kernel, by decide +kernel, by decide +kernel⟩, Or.inr (Exists.intro 1 (And.intro (by decide) (And.intro (by decide) (And.intro rfl hT))))⟩
theorem M_rebuild {h : jxH} (hR : REL h) : jx_MWR 119 [(0, 8, 11, 15)] [jR 0 0, jR 33 0] h (WQ 91 [jR 20 0]) := by
  refine jx_WR (ω := 119) (κ := 108) (idx := 40) (cpc := 3) (as := []) (rest := [jI (nI 0), jR 33 0]) (ls := [some (jR 0 0), some (jR 33 0), none]) (by decide) rfl rfl (Nat.le_of_ble_eq_true rfl) rfl (by decide) (by decide) (show (parseMethodDescriptor (jx_nm 108).desc).map (fun d => d.parameters.length) = some 0 by decide +kernel) (Nat.le_of_ble_eq_true rfl) (by decide) (by decide) (fun v hv => ?_) (jx_BM_MX (by decide) (Nat.le_of_ble_eq_true rfl) (Q_rebuild hR)) (by decide +kernel) (fun V rule hv => ?_) (fun V rule r h1 hE => ?_) (fun x h1 hx hT => ?_)
  · simp only [List.mem_cons, List.not_mem_nil, or_false] at hv
    subst hv
    trivial
  · refine rule (Nat.beq 3) 20 0 _ _ _ ?_
    exact hv
  · refine rule (fun _ => false) 20 6 _ _ _ ?_
    refine Exists.intro 0 (And.intro (And.intro (by decide) rfl) ?_)
    exact Or.inl (And.intro rfl (Exists.intro (upd (h1 33 0) 0 r) (hE (upd (h1 33 0) 0 r))))
  · obtain ⟨rfl, rfl, hT⟩ := hT
    exact ⟨[], ⟨0, 8, 11, 15⟩, [], 1, by decide, rfl, fun _ hy => (by cases hy), by decide, rfl, Or.inl ⟨2, by decide, by decide +kernel, by decide +kernel, by decide +kernel⟩, Or.inr (Exists.intro 1 (And.intro (by decide) (And.intro (by decide) (And.intro rfl hT))))⟩
theorem M_out {i : Int32} {h : jxH} (hR : REL h) : jx_MWR 120 [(0, 9, 12, 46)] [jR 0 0, jI i, jR 33 0] h (WQ 34 [jR 20 0, jI i]) := by
  refine jx_WR (ω := 120) (κ := 48) (idx := 43) (cpc := 4) (as := [jI i]) (rest := [jI (nI 0), jR 33 0]) (ls := [some (jR 0 0), some (jI i), some (jR 33 0), none]) (by decide) rfl rfl (Nat.le_of_ble_eq_true rfl) rfl (by decide) (by decide) (show (parseMethodDescriptor (jx_nm 48).desc).map (fun d => d.parameters.length) = some 1 by decide +kernel) (Nat.le_of_ble_eq_true rfl) (by decide) (by decide) (fun v hv => ?_) (jx_BM_MX (by decide) (Nat.le_of_ble_eq_true rfl) (Q_out hR)) (by decide +kernel) (fun V rule hv => ?_) (fun V rule r h1 hE => ?_) (fun x h1 hx hT => ?_)
  · simp only [List.mem_cons, List.not_mem_nil, or_false] at hv
    rcases hv with rfl | rfl <;> trivial
  · refine rule (Nat.beq 4) 20 0 _ _ _ ?_
    exact hv
  · refine rule (fun _ => false) 20 7 _ _ _ ?_
    refine Exists.intro 0 (And.intro (And.intro (by decide) rfl) ?_)
    exact Or.inl (And.intro rfl (Exists.intro (upd (h1 33 0) 0 r) (hE (upd (h1 33 0) 0 r))))
  · obtain ⟨rfl, rfl, hT⟩ := hT
    exact ⟨[], ⟨0, 9, 12, 46⟩, [], 1, by decide, rfl, fun _ hy => (by cases hy), by decide, rfl, Or.inl ⟨3, by decide, by decide +kernel, by decide +kernel, by decide +kernel⟩, Or.inr (Exists.intro 1 (And.intro (by decide) (And.intro (by decide) (And.intro rfl hT))))⟩
