/-! The law's wrappers. -/
def jx_lmk : List (Nat × Nat) := [(7, 2), (17, 107), (21, 77), (25, 76), (29, 78), (33, 111), (37, 45), (40, 108), (43, 48)]
def jx_lw : List Cond := [.classLink "DotVaultLaw" 13 (jx_xr 0).2.2, .classLink "DotVaultLaw" 15 (jx_xr 1).2.2, .classLink "DotVaultLaw" 46 (jx_xr 2).2.2] ++ jx_lmk.map (fun q => .methodLink "DotVaultLaw" q.1 (jx_nm q.2))
def jx_tw : List Cond := jx_all ++ (jx_xw ++ jx_lw)
theorem jx_lw_good : jx_lw.all goodWord = true := by decide +kernel
theorem jx_goodX {κ : Nat} (h : κ < jx_nn) : GoodIn jx_tw (jx_wx κ) := by
  intro w hw
  rcases List.mem_cons.mp hw with rfl | h1
  · exact ⟨List.mem_append_left _ (jx_code_in h), Or.inl rfl⟩
  · rcases List.mem_append.mp h1 with h2 | h2
    · exact ⟨List.mem_append_left _ h2, jx_all_good w h2⟩
    · exact ⟨List.mem_append_right _ (List.mem_append_left _ h2), good_of_word (List.all_eq_true.mp jx_xw_good w h2)⟩
def jx_ww (ω : Nat) (hh : List (Nat × Nat × Nat × Nat)) : List Cond := .codeWith (jx_nm ω) (jx_cd ω) (jx_mx ω) (some .int) hh :: jx_tw
def jx_rw (ω : Nat) : Room := { frames := jx_dp ω, cells := 1, slots := 6, locals := jx_lc ω }
def jx_tv9 (κ : Nat) (r : Int32) : List jxV := match jx_rt κ with
  | none => []
  | some _ => [jI r]
theorem jx_tv9_cv (G : jxG) (κ : Nat) (r : Int32) : (jx_tv9 κ r).map (jx_cv G) = (jx_rv κ r).toList := by
  unfold jx_tv9 jx_rv
  cases jx_rt κ <;> rfl
theorem jx_xl_is : jx_xl.all (fun κ => jx_is κ == false) = true := by decide +kernel
section JW
variable {p : Program} {l : Launch} {e : Env} {R : Room} {s : State} {m : MethodId} {args : Array Value} {below : List Frame} {meth : Method} {c : Code} {G : jxG} {A : Nat → Prop} {ω : Nat} {Qf : State → Prop}
theorem jx_callX {κ idx pc : Nat} {as rest : List jxV} {h : jxH} {E : Int32 → jxH → Prop} {TH : Nat → jxH → Prop} {la : Array Slot} {H : Heap} {locs : List Loc}
    (X : jx_X p R s m args meth c G A ω 0 0) (hts : ∀ w ∈ jx_tw, w.before args s = true) (hXS : jx_XS A s s.heap) (how : jx_ow ω = 8) (hst : l.stackTraces = false) (hP : va_P G.1 jx_cl (jx_ws G h) H) (hS : va_S A s.heap H locs) (hla : la.size = jx_mx ω) (hok : ∀ v ∈ jR 0 0 :: as, jx_ok v) (hk1 : ∀ v ∈ jR 0 0 :: as, jx_w1 v)
    (hκl : κ ∈ jx_xl) (hmd : (idx, κ) ∈ jx_lmk) (hn : (parseMethodDescriptor (jx_nm κ).desc).map (fun d => d.parameters.length) = some as.length) (hrest : jx_wg rest ≤ 8) (hdp : max 6 (jx_dp κ) < R.frames) (hlc : 19 + jx_mx κ + max 82 (jx_lc κ) ≤ R.locals) (hRc : 1 ≤ R.cells) (hRs : 6 ≤ R.slots)
    (hM : jx_MX κ (jR 0 0 :: as) h E TH) (hdg : decode (jx_cd ω) pc = .ok (.invokevirtual idx, 3))
    (kk : ∀ (r : Int32) (h' : jxH) (H1 : Heap) (locs1 : List Loc), E r h' → va_P G.1 jx_cl (jx_ws G h') H1 → va_S A s.heap H1 locs1 → W p l e R s m args below meth c H1 locs1 1 6 Qf (F0 m (pc + 3) la ((jx_rv κ r).toList ++ rest.map (jx_cv G))))
    (kx : ∀ (x : Nat) (h' : jxH) (q : Addr) (ce : Cell) (H1 : Heap) (locs1 : List Loc), x < 3 → TH x h' → va_P G.1 jx_cl (jx_ws G h') H1 → va_S A s.heap H1 locs1 → H1[q]? = some ce → ce.vm = .none → s.vm.findClass (jx_xr x).2.2 = some ce.cls → vx_W p l e R s m args below meth c H1 locs1 1 6 Qf (F0 m pc la (rest.map (jx_cv G))) q) :
    W p l e R s m args below meth c H locs 0 0 Qf (F0 m pc la (((jR 0 0 :: as).reverse ++ rest).map (jx_cv G))) := by
  have hck := List.all_eq_true.mp jx_sck_ok κ hκl
  rw [Bool.and_eq_true, Bool.and_eq_true] at hck
  obtain ⟨⟨-, hoκ⟩, hκ⟩ := hck
  have hκ : κ < jx_nn := by simpa [Nat.blt_eq] using hκ
  have hoκ := Nat.eq_of_beq_eq_true hoκ
  obtain ⟨hx, hb, hml, hown, -, hK, hD, hSF, hAw, -⟩ := X
  rw [how] at hown
  obtain ⟨q0, hq0⟩ := jx_find (k := 0) (i := 0) (by decide) (by decide)
  have hat := jx_at (G := G) (h := h) hq0
  obtain ⟨fs, hfl⟩ : ∃ fs, jx_fl 0 = some (0, fs) := ⟨_, rfl⟩
  have hcf : jx_cf G 0 0 (h 0 0) = .inr (0, fs.mapIdx (jx_fv G 0 (h 0 0))) := by simp [jx_cf, hfl]
  rw [hcf] at hat
  have hrecv := va_recv hK hP (show jx_cl[0]? = some ("DotVault", jx_T0, 9) from rfl) hat
  have hsub : ∀ q, va_A (jx_ws G h) H.size q → A q := fun q hq => hAw h H.size q hS.1 hq
  have his : jx_is κ = false := by
    have := List.all_eq_true.mp jx_xl_is κ hκl
    simpa using this
  have hcls : (jx_nm κ).cls = "DotVault" := by
    show jx_cn (jx_ow κ) = _
    rw [hoκ]
    rfl
  have hmw : ∀ w ∈ jx_mws κ, w.before args s = true := fun w hw => hts w (List.mem_append_left _ (List.mem_append_right _ (List.mem_append_left _ (List.mem_append_right _ (List.mem_flatMap.mpr ⟨κ, List.mem_range.mpr hκ, hw⟩)))))
  simp only [jx_mws, his, Bool.false_eq_true, if_false] at hmw
  have hinst := hmw _ (List.mem_cons_self)
  have hsel := hmw _ (List.mem_cons_of_mem _ List.mem_cons_self)
  have hini := hmw _ (List.mem_cons_of_mem _ (List.mem_cons_of_mem _ List.mem_cons_self))
  have hlink : (Cond.methodLink "DotVaultLaw" idx (jx_nm κ)).before args s = true := hts _ (List.mem_append_right _ (List.mem_append_right _ (List.mem_append_right _ (List.mem_map.mpr ⟨(idx, κ), hmd, rfl⟩))))
  have hsel' : (Cond.selects "DotVault" (jx_nm κ) (jx_nm κ)).before args s = true := by rw [← hcls]; exact hsel
  have hbl : FrameBlind (va_Pc ((jR 0 0 :: as).map (jx_cv G)) (fun U => U.heap.size = H.size ∧ jx_PX G h U ∧ jx_XS (va_A (jx_ws G h) U.heap.size) U U.heap)) := fun a U g mk q => by
    obtain ⟨q0, q1, ⟨qP, qK, qD, qS⟩, qX⟩ := q
    exact ⟨q0, q1, ⟨qP, va_K.moved (u := U) (U := U.calling g mk a) (Vm.Alike.refl U.vm) qK, qD, jx_SF_moved (u := U) (U := U.calling g mk a) (Vm.Alike.refl U.vm) qS⟩, jx_XS.warm (s := U) (U := U.calling g mk a) (State.WarmedH.refl U) qX⟩
  have hpre : ∀ U : State, U.heap = H → s.WarmedH U.vm → va_Pc ((jR 0 0 :: as).map (jx_cv G)) (fun U => U.heap.size = H.size ∧ jx_PX G h U ∧ jx_XS (va_A (jx_ws G h) U.heap.size) U U.heap) (((jR 0 0 :: as).map (jx_cv G)).toArray) U := fun U hU hW => by
    refine ⟨rfl, by rw [hU], ⟨by rw [hU]; exact hP, va_K.moved hW.alike hK, (hD h).weaken (fun _ _ _ _ => trivial), ?_⟩, ?_⟩
    · rw [hU]
      exact jx_SF_narrow (jx_SF_moved hW.alike (jx_SF_kept hSF hS.2.1)) hsub
    · rw [hU]
      exact jx_XS.narrow (jx_XS.warm hW (jx_XS.kept hXS hS.2.1)) hsub
  have hr := vx_runV (p := p) (e := e) (below := below) (meth := meth) (locs := locs) (cells := 0) (slots := 0) (C := "DotVault") (b := G.2.2 0 0) (As := as.map (jx_cv G)) (rest := rest.map (jx_cv G)) (n := as.length) (g := F0 m pc la (((jR 0 0 :: as).reverse ++ rest).map (jx_cv G))) (index := idx) (Ts := jx_tw) (own := "DotVaultLaw") (nL := jx_mx ω) ⟨hx, hb, hml, hown, hts⟩ (hM l G H.size hst hok hk1) ⟨callB_of (bytes := jx_cd κ) (maxL := jx_mx κ) (ret := jx_rt κ) as.length hts (jx_goodX hκ) rfl rfl rfl hini hlink ⟨by rw [hcls]; decide, by rw [hcls]; decide, hn⟩ ⟨hdp, by show 8 + (jx_mx κ + 11) + max 82 (jx_lc κ) ≤ R.locals; omega⟩, hinst, hsel'⟩ ⟨hbl, hrecv, hpre⟩ rfl (by simp) hla (by simp [F0, jx_cv]) (lv_room (by rw [jx_cats]; exact hrest)) hdg ⟨by omega, by omega⟩
  intro T hT Y
  rcases hr T hT Y with ⟨v, st₀, t, T', L, h0, Y', hL, e1, e2, ⟨⟨r, h', hv, hE, hPX⟩, hz, hk⟩, stp⟩ | ⟨q, st₀, t, T', L, E9, ce, h0, Y', hL, e1, e2, ⟨x, h', hx3, hTH, rfl, hPX, hz, hk⟩, hce, hcv, hcl, stp⟩
  · cases hv
    rw [h0] at hz hk
    obtain ⟨t2, a1, b1⟩ := kk r h' T'.heap (locs ++ L) hE (by rw [e1]; exact hPX.1)
      ⟨Nat.le_trans hS.1 (by rw [e1]; exact hz), fun q h1 h2 => by rw [e1, hk q (Nat.lt_of_lt_of_le h1 hS.1) (fun z => h2 (hsub q z))]; exact hS.2.1 q h1 h2, fun q hq => by
        rcases List.mem_append.mp hq with h9 | h9
        · exact hS.2.2 q h9
        · exact hsub _ (hL q h9)⟩ T' rfl Y'
    exact ⟨t2, stp t2 a1, b1⟩
  · rw [h0] at hz hk
    obtain ⟨t2, a1, b1⟩ := kx x h' q ce T'.heap (locs ++ L) hx3 hTH (by rw [e1]; exact hPX.1)
      ⟨Nat.le_trans hS.1 (by rw [e1]; exact hz), fun q h1 h2 => by rw [e1, hk q (Nat.lt_of_lt_of_le h1 hS.1) (fun z => h2 (hsub q z))]; exact hS.2.1 q h1 h2, fun q hq => by
        rcases List.mem_append.mp hq with h9 | h9
        · exact hS.2.2 q h9
        · exact hsub _ (hL q h9)⟩ (by rw [e1]; exact hce) hcv hcl T' rfl Y'
    exact ⟨t2, stp.trans a1, b1⟩
end JW
theorem jx_ofWT {l : Launch} {y : MethodName} {ws ws' : List Cond} {rm : Room} {Pc : Array Value → State → Prop} {Qc : Array Value → State → Outcome → State → Prop} {mc ms : Nat} {free : Addr → Prop} {cc : ByteArray} {maxL : Nat} {ret : Option FieldType} {hh : List (Nat × Nat × Nat × Nat)}
    (hy : plainName y.cls = true) (hw : ws = Cond.codeWith y cc maxL ret hh :: ws')
    (body : ∀ p e s m args below meth c s₁, BodyLoose p l y (headSpec ws rm) cc maxL ret e s m args below meth c s₁ → c.maxLocals = maxL → Pc args s →
      W p l e (headSpec ws rm).room s m args below meth c s.heap [] 0 0 (MQ below Qc args s mc ms free) (entryFrame m args maxL)) : Met l y ws rm Pc Qc mc ms free := by
  refine MetFree.of_bodyS (code := cc) (maxLocals := maxL) (ret := ret) hy ?_ ?_
  · intro args s m h hn
    obtain ⟨m9, meth, c, hn9, h1, h2, h3, h4, -, h5, h6, -⟩ := Cond.codeWith_spec (atoms_spec (ws := ws) h _ (by rw [hw]; exact List.mem_cons_self))
    cases hn.symm.trans hn9
    exact ⟨meth, c, h1, h2, h3, h4, h5, h6⟩
  · intro p e s m args below meth c s₁ B hml hP _
    have hh0 : s₁.heap = s.heap := by rw [B.state]; rfl
    obtain ⟨t, a1, o, b1, b2, b3⟩ := body p e s m args below meth c s₁ B hml hP s₁ hh0 (Stand.of_body B)
    exact ⟨t, o, a1, b1, b2, b3⟩
def jx_hnd (ω hp k : Nat) : Prop :=
  (∃ j : Fin 4, j.val < jx_mx ω ∧ decode (jx_cd ω) hp = .ok (.astore_n j, 1) ∧ decode (jx_cd ω) (hp + 1) = .ok (.iconst (Int.ofNat k), 1) ∧ decode (jx_cd ω) (hp + 2) = .ok (.ireturn, 1)) ∨
  (∃ j : Nat, j < jx_mx ω ∧ decode (jx_cd ω) hp = .ok (.astore j, 2) ∧ decode (jx_cd ω) (hp + 2) = .ok (.iconst (Int.ofNat k), 1) ∧ decode (jx_cd ω) (hp + 3) = .ok (.ireturn, 1))
def jx_lx : List Nat := [13, 15, 46]
def jx_MWR (ω : Nat) (hh : List (Nat × Nat × Nat × Nat)) (as : List jxV) (h : jxH) (E : Int32 → jxH → Prop) : Prop :=
  ∀ (l : Launch) (G : jxG) (sz : Nat), l.stackTraces = false → (∀ v ∈ as, jx_ok v) → (∀ v ∈ as, jx_w1 v) → Met l (jx_nm ω) (jx_ww ω hh) (jx_rw ω) (va_Pc (as.map (jx_cv G)) (fun U => U.heap.size = sz ∧ jx_PX G h U ∧ jx_XS (va_A (jx_ws G h) U.heap.size) U U.heap)) (jx_Qc G ω (va_A (jx_ws G h) sz) E) 1 6 (va_A (jx_ws G h) sz)
theorem jx_WR {ω κ idx cpc : Nat} {hh : List (Nat × Nat × Nat × Nat)} {as rest asW : List jxV} {ls : jxL} {h : jxH} {E E' : Int32 → jxH → Prop} {TH : Nat → jxH → Prop}
    (hωt : ω < jx_nt) (how : jx_ow ω = 8) (hrt : jx_rt ω = some .int) (hwn : asW.length ≤ jx_mx ω) (hls : asW.map some ++ List.replicate (jx_mx ω - asW.length) none = ls) (hκl : κ ∈ jx_xl) (hmd : (idx, κ) ∈ jx_lmk) (hn : (parseMethodDescriptor (jx_nm κ).desc).map (fun d => d.parameters.length) = some as.length) (hrest : jx_wg rest ≤ 8) (hdp : max 6 (jx_dp κ) < jx_dp ω) (hlc : 19 + jx_mx κ + max 82 (jx_lc κ) ≤ jx_lc ω)
    (hk1A : ∀ v ∈ jR 0 0 :: as, jx_w1 v) (hM : jx_MX κ (jR 0 0 :: as) h E TH) (hdg : decode (jx_cd ω) cpc = .ok (.invokevirtual idx, 3))
    (hfirst : ∀ V : Nat → jxL → List jxV → jxH → Prop, (∀ (cut : Nat → Bool) (n pc : Nat) (ls : jxL) (st : List jxV) (h : jxH), jx_blk ω cut V E' (fun _ _ => False) n pc ls st h → V pc ls st h) → V cpc ls ((jR 0 0 :: as).reverse ++ rest) h → V 0 ls [] h)
    (hnext : ∀ V : Nat → jxL → List jxV → jxH → Prop, (∀ (cut : Nat → Bool) (n pc : Nat) (ls : jxL) (st : List jxV) (h : jxH), jx_blk ω cut V E' (fun _ _ => False) n pc ls st h → V pc ls st h) → ∀ r h1, E r h1 → V (cpc + 3) ls (jx_tv9 κ r ++ rest) h1)
    (hcat : ∀ x h1, x < 3 → TH x h1 → ∃ (pre : List ExceptionTableEntry) (z : ExceptionTableEntry) (suf : List ExceptionTableEntry) (k : Nat), k < 2048 ∧ tableOf hh = pre ++ z :: suf ∧ (∀ y ∈ pre, y.catchType = 13 ∧ x = 1) ∧ covers z cpc = true ∧ z.catchType = jx_lx.getD x 0 ∧ jx_hnd ω z.handlerPc k ∧ E' (nI k) h1) : jx_MWR ω hh asW h E' := by
  intro l G sz hst hok hk1
  refine jx_ofWT (cc := jx_cd ω) (maxL := jx_mx ω) (ret := some .int) (hh := hh) (by show plainName (jx_cn (jx_ow ω)) = true; rw [how]; decide +kernel) rfl ?_
  intro p e s m args below meth c s₁ B hml hv
  obtain ⟨rfl, hsz, ⟨hP, hK, hD0, hSF⟩, hXS⟩ := hv
  subst hsz
  have hD := hD0.self (sz := s.heap.size)
  have hws : ∀ w ∈ jx_ww ω hh, w.before ((asW.map (jx_cv G)).toArray) s = true := atoms_spec (ws := jx_ww ω hh) B.pre
  have htab : c.exceptionTable.toList = tableOf hh := vx_table (x := jx_nm ω) B (hws _ List.mem_cons_self)
  have hts : ∀ w ∈ jx_tw, w.before ((asW.map (jx_cv G)).toArray) s = true := fun w hw => hws w (List.mem_cons_of_mem _ hw)
  have hA9 : ∀ (h' : jxH) (sz' q : Nat), s.heap.size ≤ sz' → va_A (jx_ws G h') sz' q → va_A (jx_ws G h) s.heap.size q := fun h' sz' q hsz' hq => by
    rcases jx_A_any (h' := h) hq with h1 | h1
    · exact Or.inl h1
    · exact Or.inr (Nat.le_trans hsz' h1)
  have XX : ∀ cs ss, cs ≤ 1 → ss ≤ 6 → jx_X p (headSpec (jx_ww ω hh) (jx_rw ω)).room s m ((asW.map (jx_cv G)).toArray) meth c G (va_A (jx_ws G h) s.heap.size) ω cs ss := fun cs ss h1 h2 =>
    ⟨B.exec, B.bytes, hml, findClass_of_methodNamed B.named, fun w hw => hts w (List.mem_append_left _ hw), hK, fun h' => jx_D_any hD, hSF, hA9, by rw [B.returns, hrt], B.notSynchronized, hωt, Nat.le_refl _, Nat.le_refl _, h1, h2⟩
  have X0 := XX 0 0 (by decide) (by decide)
  have X1 := XX 1 6 (by decide) (by decide)
  have hl := lv_entry (asW.map (jx_cv G)) (n := jx_mx ω) (by rw [jx_sl_len G asW hk1]; exact hwn)
  rw [lg_entry_eq]
  have hmem : ∀ (j : Nat) (v : jxV), ls[j]? = some (some v) → asW[j]? = some v := by
    intro j v hj
    rw [← hls] at hj
    by_cases hja : j < asW.length
    · rw [List.getElem?_append_left (by simpa using hja), List.getElem?_map] at hj
      cases ha : asW[j]? with
      | none => rw [ha] at hj; cases hj
      | some w => rw [ha] at hj; cases hj; rfl
    · rw [List.getElem?_append_right (by simpa using hja)] at hj
      have := List.mem_of_getElem? hj
      rw [List.mem_replicate] at this
      cases this.2
  have hfin0 : ∀ t, MQ below (jx_Qc G ω (va_A (jx_ws G h) s.heap.size) E') ((asW.map (jx_cv G)).toArray) s 0 0 (va_A (jx_ws G h) s.heap.size) t → MQ below (jx_Qc G ω (va_A (jx_ws G h) s.heap.size) E') ((asW.map (jx_cv G)).toArray) s 1 6 (va_A (jx_ws G h) s.heap.size) t := by
    rintro t ⟨o, h1, h2, h3, L, h4, h5⟩
    exact ⟨o, h1, h2, h3, L, ⟨h4.1, h4.2.1, h4.2.2.mono (by decide) (by decide)⟩, h5⟩
  refine hfirst (jx_V p l e _ s m _ below meth c G _ ω 0 0 _) (fun cut n pc ls st h hb => jx_blk_ok X0 hfin0 (fun _ _ _ _ _ _ _ _ _ h9 => False.elim h9) cut n pc ls st h hb) ?_ s.heap [] _ ⟨?_, _, hl, fun j v hj => ?_⟩ (fun v hv => by cases hv) (fun j v hj => hok v (List.mem_of_getElem? (hmem j v hj))) hP va_S.rf
  · intro H locs la hlo hst9 hls9 hP9 hS9
    have hsize : la.size = jx_mx ω := by
      obtain ⟨-, lv, h1, -⟩ := hlo
      exact h1.1
    refine jx_callX X0 hts hXS how hst hP9 hS9 hsize (fun v hv => hst9 v (List.mem_append_left _ (List.mem_reverse.mpr hv))) hk1A hκl hmd hn hrest hdp hlc (Nat.le_refl _) (Nat.le_refl _) hM hdg (fun r h' H1 locs1 hE hP1 hS1 => ?_) (fun x h' q ce H1 locs1 hx3 hTH hP1 hS1 hce hcv hcl => ?_)
    · have := hnext (jx_V p l e _ s m _ below meth c G _ ω 1 6 _) (fun cut n pc ls st h hb => jx_blk_ok X1 (fun t ht => ht) (fun _ _ _ _ _ _ _ _ _ h9 => False.elim h9) cut n pc ls st h hb) r h' hE H1 locs1 la hlo (fun v hv => by
        rcases List.mem_append.mp hv with h9 | h9
        · unfold jx_tv9 at h9
          cases hr9 : jx_rt κ with
          | none => rw [hr9] at h9; cases h9
          | some _ => rw [hr9] at h9; cases List.mem_singleton.mp h9; trivial
        · exact hst9 v (List.mem_append_right _ h9)) hls9 hP1 hS1
      rw [List.map_append, jx_tv9_cv] at this
      exact this
    · obtain ⟨pre, z, suf, k, hk9, c1, c2, c3, c4, c5, c6⟩ := hcat x h' hx3 hTH
      have hown : s.vm.findClass "DotVaultLaw" = some m.cls := by
        have := findClass_of_methodNamed B.named
        rw [show (jx_nm ω).cls = "DotVaultLaw" by show jx_cn (jx_ow ω) = _; rw [how]; rfl] at this
        exact this
      have hlk : ∀ y, y < 3 → (Cond.classLink "DotVaultLaw" (jx_lx.getD y 0) (jx_xr y).2.2).before ((asW.map (jx_cv G)).toArray) s = true := fun y hy => hts _ (List.mem_append_right _ (List.mem_append_right _ (List.mem_append_left _ (by
        rcases (show y = 0 ∨ y = 1 ∨ y = 2 by omega) with rfl | rfl | rfl
        · exact List.mem_cons_self
        · exact List.mem_cons_of_mem _ List.mem_cons_self
        · exact List.mem_cons_of_mem _ (List.mem_cons_of_mem _ List.mem_cons_self)))))
      have h13 : ∀ y, y < 3 → jx_lx.getD y 0 ≠ 0 := by decide
      have hend : ∀ t : State, t.heap = H1 → s.WarmedH t.vm → jx_Qc G ω (va_A (jx_ws G h) s.heap.size) E' ((asW.map (jx_cv G)).toArray) s (.returned (some (.int (nI k)))) t := by
        intro t ht hW
        refine ⟨⟨nI k, h', by simp [jx_rv, hrt], c6, ⟨by rw [ht]; exact hP1, va_K.moved hW.alike hK, (jx_D_any hD).weaken (fun _ _ _ _ => trivial), ?_⟩⟩, hS1.F ht⟩
        rw [ht]
        exact jx_SF_narrow (jx_SF_moved hW.alike (jx_SF_kept hSF hS1.2.1)) (fun q hq => hA9 h' H1.size q hS1.1 hq)
      have hik : Int32.ofInt (Int.ofNat k) = nI k := (jx_int_a k hk9).1
      refine vx_catch (own := "DotVaultLaw") (name := (jx_xr x).2.2) (E := (jx_xr x).2.2) hown pre z suf (by rw [htab]; exact c1) (fun y hy => ?_) c3 (by rw [c4]; exact h13 x hx3) (by rw [c4]; exact hlk x hx3) (va_Nw.use (A := (asW.map (jx_cv G)).toArray) rfl (hXS.2.2.2.1 x hx3)) hce hcv hcl ?_
      · obtain ⟨y1, rfl⟩ := c2 y hy
        exact Or.inr ⟨by rw [y1]; decide, _, by rw [y1]; exact hlk 0 (by decide), hXS.2.2.2.2.2⟩
      · obtain ⟨-, lv, hlv, -⟩ := hlo
        rcases c5 with ⟨j, hj, e0, e1, e2⟩ | ⟨j, hj, e0, e1, e2⟩
        · refine lv_astore_n (x := q) (i := j.val) B.exec B.bytes e0 rfl hlv hj rfl (fun la' h9 => ?_)
          refine lv_iconst (v := nI k) B.exec B.bytes e1 hik ?_
          exact W.iret B.exec B.bytes B.returns hend hS1.2.2 e2
        · refine lv_astore (x := q) B.exec B.bytes e0 hlv hj rfl (fun la' h9 => ?_)
          refine lv_iconst (v := nI k) B.exec B.bytes e1 hik ?_
          exact W.iret B.exec B.bytes B.returns hend hS1.2.2 e2
  · rw [← hls]
    simp
    omega
  · have := jx_args_mem G asW 0 j v hk1 (hmem j v hj)
    rw [Nat.zero_add] at this
    exact ⟨this, hk1 v (List.mem_of_getElem? (hmem j v hj))⟩
