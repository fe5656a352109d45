/-! Methods of the class that throw: from the pure body contract to the machine's. -/
def jx_sl : List (Nat × String) := [(60, "a byte is 0 .. 255"), (67, "the document is full"), (70, "the document is empty"), (84, "no such page or dot"), (90, "a blot is 1 .. 18 wide and high"), (109, "no such page"), (111, "a page is turned 0 .. 3 times"), (125, "no such row"), (138, "too few pages are kept"), (148, "no such byte was rebuilt")]
def jx_xr (x : Nat) : Nat × Nat × String := match x with
  | 0 => (58, 62, "java/lang/IllegalArgumentException")
  | 1 => (65, 69, "java/lang/IllegalStateException")
  | _ => (146, 150, "java/lang/IndexOutOfBoundsException")
def jx_xn : List String := ["java/lang/RuntimeException", "java/lang/Exception"]
def jx_xa (x : Nat) : List Cond := vx_atS "DotVault" (jx_xr x).2.1 (jx_xr x).2.2 jx_xn
def jx_xd : List MethodName := [Bundle.initS "java/lang/RuntimeException", Bundle.initS "java/lang/Exception", Bundle.initS Bundle.tN]
def jx_xB (x : Nat) : List Cond := Cond.castable (jx_xr x).2.2 (jx_xr x).2.2 :: jx_xd.map (fun y => Cond.declares y)
def jx_xw1 (x : Nat) : List Cond := .classLink "DotVault" (jx_xr x).1 (jx_xr x).2.2 :: .initialized (jx_xr x).2.2 :: (jx_xa x).filter goodWord
theorem jx_xa_bad : ∀ x, x < 3 → (((jx_xa x).filter (fun w => !goodWord w)).all (fun w => decide (w ∈ jx_xB x)) && (Cond.classLink "DotVault" (jx_xr x).1 (jx_xr x).2.2 :: .initialized (jx_xr x).2.2 :: jx_xa x).all vx_ot) = true := by decide +kernel
def jx_xw : List Cond := (List.range 3).flatMap jx_xw1
theorem jx_xw_good : jx_xw.all goodWord = true := by decide +kernel
def jx_sck (κ : Nat) (e : Nat × Instr × Nat × List Nat) : Bool := match e with
  | (pc, .new idx, _, _) => match jx_ex 0 idx with
    | some x => jx_sl.any (fun q => decide (decode (jx_cd κ) (pc + 3) = .ok (.dup, 1)) && decide (decode (jx_cd κ) (pc + 4) = .ok (.ldc q.1, 2)) && decide (decode (jx_cd κ) (pc + 6) = .ok (.invokespecial (jx_xr x).2.1, 3)) && decide (decode (jx_cd κ) (pc + 9) = .ok (.athrow, 1)) && Nat.beq idx (jx_xr x).1 && Nat.blt x 3)
    | none => true
  | _ => true
def jx_xl : List Nat := [2, 45, 48, 76, 77, 78, 107, 108, 111]
theorem jx_sck_ok : jx_xl.all (fun κ => (jx_tb κ).all (jx_sck κ) && Nat.beq (jx_ow κ) 0 && Nat.blt κ jx_nn) = true := by decide +kernel
/-- what a throw asks of the state beside words: two statics, the texts -/
def jx_XS (A : Nat → Prop) (U : State) (H : Heap) : Prop := vx_Zq Bundle.tN "UNASSIGNED_STACK" Bundle.steD A U H ∧ vx_Zq Bundle.tN "SUPPRESSED_SENTINEL" Bundle.listD A U H ∧ (∀ q ∈ jx_sl, ∃ sa, vk_R "DotVault" q.1 q.2 sa U) ∧ (∀ x, x < 3 → va_Nw (.castable (jx_xr x).2.2 (jx_xr x).2.2) U) ∧ (∀ y ∈ jx_xd, va_Nw (.declares y) U) ∧ va_Nc (jx_xr 1).2.2 (jx_xr 0).2.2 U
theorem jx_Nw_D {y : MethodName} {s U : State} (hW : s.WarmedH U.vm) (hZ : va_Nw (.declares y) s) : va_Nw (.declares y) U := va_tabs rfl (rfl : (s.setVm U.vm).vm = U.vm) (by rw [Cond.declares_setVm hW.alike]; exact hZ)
theorem jx_XS.kept {A : Nat → Prop} {U : State} {H H1 : Heap} (h : jx_XS A U H) (hq : ∀ a : Nat, a < H.size → ¬ A a → H1[a]? = H[a]?) : jx_XS A U H1 := ⟨h.1.kept hq, h.2.1.kept hq, h.2.2⟩
theorem jx_XS.narrow {A B : Nat → Prop} {U : State} {H : Heap} (h : jx_XS A U H) (hAB : ∀ q, B q → A q) : jx_XS B U H := ⟨h.1.narrow hAB, h.2.1.narrow hAB, h.2.2⟩
theorem jx_XS.warm {A : Nat → Prop} {s U : State} {H : Heap} (hW : s.WarmedH U.vm) (h : jx_XS A s H) : jx_XS A U H := ⟨h.1.moved hW.alike, h.2.1.moved hW.alike, fun q hq => by
  obtain ⟨sa, hs⟩ := h.2.2.1 q hq
  exact ⟨sa, hs.warm hW⟩, fun x hx => va_Nw.warmC hW (h.2.2.2.1 x hx), fun y hy => jx_Nw_D hW (h.2.2.2.2.1 y hy), h.2.2.2.2.2.moved hW.alike⟩
def jx_XC (G : jxG) (A : Nat → Prop) (TH : Nat → jxH → Prop) : String → State → State → Prop := fun E st t => ∃ (x : Nat) (h' : jxH), x < 3 ∧ TH x h' ∧ E = (jx_xr x).2.2 ∧ jx_PX G h' t ∧ va_F A st t
def jx_rx (κ : Nat) : Room := { frames := max 6 (jx_dp κ), cells := 1, slots := 6, locals := max 82 (jx_lc κ) }
def jx_wx (κ : Nat) : List Cond := .code (jx_nm κ) (jx_cd κ) (jx_mx κ) (jx_rt κ) :: (jx_all ++ jx_xw)
def jx_MX (κ : Nat) (as : List jxV) (h : jxH) (E : Int32 → jxH → Prop) (TH : Nat → jxH → Prop) : Prop :=
  ∀ (l : Launch) (G : jxG) (sz : Nat), l.stackTraces = false → (∀ v ∈ as, jx_ok v) → (∀ v ∈ as, jx_w1 v) → vx_Met l (jx_nm κ) (jx_wx κ) (jx_rx κ) (va_Pc (as.map (jx_cv G)) (fun U => U.heap.size = sz ∧ jx_PX G h U ∧ jx_XS (va_A (jx_ws G h) U.heap.size) U U.heap)) (jx_Qc G κ (va_A (jx_ws G h) sz) E) (jx_XC G (va_A (jx_ws G h) sz) TH) 1 6 (va_A (jx_ws G h) sz)
theorem jx_MX_by {κ : Nat} {as : List jxV} {h : jxH} {E : Int32 → jxH → Prop} {TH : Nat → jxH → Prop} (hκl : κ ∈ jx_xl) (hn : as.length ≤ jx_mx κ) (hB : jx_BD κ as h E TH) : jx_MX κ as h E TH := by
  have hck := List.all_eq_true.mp jx_sck_ok κ hκl
  rw [Bool.and_eq_true, Bool.and_eq_true] at hck
  obtain ⟨⟨hck, how⟩, hκ⟩ := hck
  have hκ : κ < jx_nn := by simpa [Nat.blt_eq] using hκ
  have how := Nat.eq_of_beq_eq_true how
  intro l G sz hst hok hk1
  refine vx_ofW (cc := jx_cd κ) (maxL := jx_mx κ) (ret := jx_rt κ) (jx_plain hκ) rfl ?_
  intro p e s m args below meth c s₁ B hml htab hv
  obtain ⟨rfl, hsz, ⟨hP, hK, hD0, hSF⟩, hXS⟩ := hv
  subst hsz
  have hD := hD0.self (sz := s.heap.size)
  have hws : ∀ w ∈ jx_wx κ, w.before ((as.map (jx_cv G)).toArray) s = true := atoms_spec (ws := jx_wx κ) B.pre
  have X : jx_X p (headSpec (jx_wx κ) (jx_rx κ)).room s m ((as.map (jx_cv G)).toArray) meth c G (va_A (jx_ws G h) s.heap.size) κ 0 0 := by
    refine ⟨B.exec, B.bytes, hml, findClass_of_methodNamed B.named, fun w hw => hws w (List.mem_cons_of_mem _ (List.mem_append_left _ hw)), hK, fun h' => jx_D_any hD, hSF, fun h' sz' q hsz' hq => ?_, B.returns, B.notSynchronized, jx_nnt hκ, Nat.le_max_right _ _, Nat.le_max_right _ _, Nat.zero_le _, Nat.zero_le _⟩
    rcases jx_A_any (h' := h) hq with h1 | h1
    · exact Or.inl h1
    · exact Or.inr (Nat.le_trans hsz' h1)
  have hl := lv_entry (as.map (jx_cv G)) (n := jx_mx κ) (by rw [jx_sl_len G as hk1]; exact hn)
  rw [lg_entry_eq]
  have hmem : ∀ (j : Nat) (v : jxV), (as.map some ++ List.replicate (jx_mx κ - as.length) none)[j]? = some (some v) → as[j]? = some v := by
    intro j v hj
    by_cases hja : j < as.length
    · rw [List.getElem?_append_left (by simpa using hja), List.getElem?_map] at hj
      cases ha : as[j]? with
      | none => rw [ha] at hj; cases hj
      | some w => rw [ha] at hj; cases hj; rfl
    · rw [List.getElem?_append_right (by simpa using hja)] at hj
      have := List.mem_of_getElem? hj
      rw [List.mem_replicate] at this
      cases this.2
  have hfin : ∀ t, MQ below (jx_Qc G κ (va_A (jx_ws G h) s.heap.size) E) ((as.map (jx_cv G)).toArray) s 0 0 (va_A (jx_ws G h) s.heap.size) t → vx_MQ below (jx_Qc G κ (va_A (jx_ws G h) s.heap.size) E) (jx_XC G (va_A (jx_ws G h) s.heap.size) TH) ((as.map (jx_cv G)).toArray) s 1 6 (va_A (jx_ws G h) s.heap.size) t := by
    rintro t ⟨o, h1, h2, h3, L, h4, h5⟩
    exact ⟨o, h1, h2, Or.inl ⟨h3, L, ⟨h4.1, h4.2.1, h4.2.2.mono (by decide) (by decide)⟩, h5⟩⟩
  have hth : ∀ pc nx idx tg ls h' x, jx_ent κ pc = some (.new idx, nx, tg) → jx_ex (jx_ow κ) idx = some x → TH x h' → jx_V p l e (headSpec (jx_wx κ) (jx_rx κ)).room s m ((as.map (jx_cv G)).toArray) below meth c G (va_A (jx_ws G h) s.heap.size) κ 0 0 (vx_MQ below (jx_Qc G κ (va_A (jx_ws G h) s.heap.size) E) (jx_XC G (va_A (jx_ws G h) s.heap.size) TH) ((as.map (jx_cv G)).toArray) s 1 6 (va_A (jx_ws G h) s.heap.size)) pc ls [] h' := by
    intro pc nx idx tg ls h' x hent hex hT H locs la hlo hst9 hls hP' hS
    rw [how] at hex
    have hc := List.all_eq_true.mp hck _ (jx_ent_in hent)
    simp only [jx_sck, hex, List.any_eq_true, Bool.and_eq_true, decide_eq_true_eq] at hc
    obtain ⟨q, hq, ⟨⟨⟨⟨c3, c4⟩, c6⟩, c9⟩, cx⟩, c33⟩ := hc
    have cx := Nat.eq_of_beq_eq_true cx
    have cl3 : x < 3 := by simpa [Nat.blt_eq] using c33
    subst cx
    obtain ⟨hexec, hb, -, hown, -, hK9, hD9, hSF9, hAw, -, hlk, -⟩ := X
    rw [how] at hown
    have hdec := ((jx_ent_ok (jx_nnt hκ) hent).1 (show 0 < 3 by decide)).1
    have hw1 : ∀ w ∈ jx_xw1 x, w ∈ jx_xw := fun w hw => List.mem_flatMap.mpr ⟨x, List.mem_range.mpr cl3, hw⟩
    have hwb : ∀ w ∈ jx_xw1 x, w.before ((as.map (jx_cv G)).toArray) s = true := fun w hw => hws w (List.mem_cons_of_mem _ (List.mem_append_right _ (hw1 w hw)))
    obtain ⟨sa, hsa⟩ := hXS.2.2.1 q hq
    have hsize : la.size = c.maxLocals := by
      obtain ⟨-, lv, h1, -⟩ := hlo
      rw [hml]; exact h1.1
    have hbad := jx_xa_bad x cl3
    rw [Bool.and_eq_true] at hbad
    have hfit : Bundle.fit (jx_xr x).2.2 = true := by
      rcases (show x = 0 ∨ x = 1 ∨ x = 2 by omega) with rfl | rfl | rfl <;> decide +kernel
    refine vx_throwS (own := "DotVault") (cls := (jx_xr x).2.2) (names := jx_xn) (ik := (jx_xr x).1) (is := q.1) (ic := (jx_xr x).2.1) (text := q.2) (sa := sa) (A := va_A (jx_ws G h) s.heap.size) hexec hb hst hown hfit (by decide +kernel) (hwb _ List.mem_cons_self) (hwb _ (List.mem_cons_of_mem _ List.mem_cons_self)) hsa (vx_hat (L := jx_xa x) (B := jx_xB x) (fun w hw => hwb w (List.mem_cons_of_mem _ (List.mem_cons_of_mem _ hw))) (fun w hw => of_decide_eq_true (List.all_eq_true.mp hbad.1 w hw)) (fun w hw => by
      rcases List.mem_cons.mp hw with rfl | hw
      · exact va_Nw.use (A := (as.map (jx_cv G)).toArray) rfl (hXS.2.2.2.1 x cl3)
      · obtain ⟨y, hy, rfl⟩ := List.mem_map.mp hw
        exact va_Nw.use (A := (as.map (jx_cv G)).toArray) rfl (hXS.2.2.2.2.1 y hy))) (fun w hw => List.all_eq_true.mp hbad.2 w hw) hXS.1 hXS.2.1 hS hsize hdec c3 c4 c6 c9 (fun z hz => (htab z hz).elim) ?_ ?_ (show 0 + 1 ≤ 1 by decide) (show 0 + 6 ≤ 6 by decide) hlk (fun t hal hsz hkp => ?_) hS.2.2 (by decide) (by decide)
    · show 5 < max 6 (jx_dp κ)
      omega
    · show 0 + 82 ≤ max 82 (jx_lc κ)
      omega
    · have hP2 : va_P G.1 jx_cl (jx_ws G h') t.heap := hP'.kept (fun k q hk => hkp q.1 ((hP' k q hk).lt))
      refine ⟨x, h', cl3, hT, rfl, ⟨hP2, va_K.moved hal hK9, (hD9 h').weaken (fun _ _ _ _ => trivial), ?_⟩, Nat.le_trans hS.1 hsz, fun a h1 h2 => ?_⟩
      · have hkk : ∀ a : Nat, a < s.heap.size → ¬ va_A (jx_ws G h) s.heap.size a → t.heap[a]? = s.heap[a]? := fun a h1 h2 => (hkp a (Nat.lt_of_lt_of_le h1 hS.1)).trans (hS.2.1 a h1 h2)
        exact jx_SF_narrow (jx_SF_moved hal (jx_SF_kept hSF9 hkk)) (fun q hq => hAw h' t.heap.size q (Nat.le_trans hS.1 hsz) hq)
      · exact (hkp a (Nat.lt_of_lt_of_le h1 hS.1)).trans (hS.2.1 a h1 h2)
  refine hB (jx_V p l e _ s m _ below meth c G _ κ 0 0 _) (fun cut n pc ls st h hb => jx_blk_ok X hfin hth cut n pc ls st h hb) s.heap [] _ ⟨?_, _, hl, fun j v hj => ?_⟩ (fun v hv => by cases hv) (fun j v hj => hok v (List.mem_of_getElem? (hmem j v hj))) hP va_S.rf
  · simp
    omega
  · have := jx_args_mem G as 0 j v hk1 (hmem j v hj)
    rw [Nat.zero_add] at this
    exact ⟨this, hk1 v (List.mem_of_getElem? (hmem j v hj))⟩
theorem jx_MX_mono {κ : Nat} {as : List jxV} {h : jxH} {E E' : Int32 → jxH → Prop} {TH TH' : Nat → jxH → Prop} (hM : jx_MX κ as h E TH) (hE : ∀ r h', E r h' → E' r h') (hT : ∀ x h', TH x h' → TH' x h') : jx_MX κ as h E' TH' := by
  intro l G sz hst hok hk1 p e ha hc hk s m args below hf happ hP hK
  obtain ⟨n, o, h1, h2, h3, h4⟩ := hM l G sz hst hok hk1 p e ha hc hk s m args below hf happ hP hK
  refine ⟨n, o, h1, h2, h3, ?_⟩
  rcases h4 with ⟨⟨⟨r, h', e1, e2, e3⟩, e4⟩, h5⟩ | ⟨q, e1, E9, ce, L, ⟨x, h', e0, e2, e3, e4⟩, h6⟩
  · exact Or.inl ⟨⟨⟨r, h', e1, hE r h' e2, e3⟩, e4⟩, h5⟩
  · exact Or.inr ⟨q, e1, E9, ce, L, ⟨x, h', e0, hT x h' e2, e3, e4⟩, h6⟩
theorem jx_BM_MX {κ : Nat} {as : List jxV} {h : jxH} {E : Int32 → jxH → Prop} {TH : Nat → jxH → Prop} (hκl : κ ∈ jx_xl) (hn : as.length ≤ jx_mx κ) (hB : jx_BM κ as h E TH) : jx_MX κ as h E TH := by
  obtain ⟨E0, T0, h1, h2, h3⟩ := hB
  exact jx_MX_mono (jx_MX_by hκl hn h1) h2 h3
