/-! The law's loop: a block machine over the pure one, with the script and the wrappers. -/
def jl_wl : List (Nat × Nat × List (Nat × Nat × Nat × Nat)) := [(52, 112, [(0, 9, 12, 13), (0, 9, 15, 15)]), (65, 113, [(0, 8, 11, 15)]), (69, 114, [(0, 19, 22, 13)]), (73, 115, [(0, 18, 21, 13)]), (77, 116, [(0, 7, 10, 13)]), (81, 117, [(0, 10, 13, 13)]), (85, 118, [(0, 9, 12, 13)]), (92, 119, [(0, 8, 11, 15)]), (95, 120, [(0, 9, 12, 46)])]
def jl_wr (idx : Nat) : Option (Nat × List (Nat × Nat × Nat × Nat)) := (jl_wl.find? (fun e => Nat.beq e.1 idx)).map (fun e => e.2)
def jl_lz : List Cond := jl_wl.flatMap (fun e => [.methodLink "DotVaultLaw" e.1 (jx_nm e.2.1), .static (jx_nm e.2.1), .initialized (jx_nm e.2.1).cls, .codeWith (jx_nm e.2.1) (jx_cd e.2.1) (jx_mx e.2.1) (some .int) e.2.2])
def jl_lt : List Cond := jx_tw ++ jl_lz
theorem jl_lz_good : jl_lz.all goodWord = true := by decide +kernel
theorem jl_wl_ok : jl_wl.all (fun e => decide ((parseMethodDescriptor (jx_nm e.2.1).desc).map (fun d => d.parameters.length) = some (jx_np e.2.1)) && Nat.ble (jx_dp e.2.1) 7 && Nat.ble (19 + jx_mx e.2.1 + jx_lc e.2.1) 378 && (jx_rt e.2.1 == some .int) && Nat.beq (jx_ow e.2.1) 8) = true := by decide +kernel
theorem jl_wr_in {idx ω : Nat} {hh : List (Nat × Nat × Nat × Nat)} (h : jl_wr idx = some (ω, hh)) : (idx, ω, hh) ∈ jl_wl := by
  unfold jl_wr at h
  cases hf : jl_wl.find? (fun e => Nat.beq e.1 idx) with
  | none => rw [hf] at h; cases h
  | some q =>
    rw [hf] at h
    have h1 := List.mem_of_find?_eq_some hf
    have h2 := List.find?_some hf
    obtain ⟨a, b⟩ := q
    cases h
    have h3 : a = idx := Nat.eq_of_beq_eq_true h2
    rw [h3] at h1
    exact h1
def jl_op (SL : Nat × (Nat → Int32)) (go : Nat → Nat → jxL → List jxV → jxH → Prop) (n : Nat) (i : Instr) (nx : Nat) (tg : List Nat) (ls : jxL) (st : List jxV) (h : jxH) : Prop := match i with
  | .arraylength => jx_r st (fun k j st => cond (Nat.beq k 34 && Nat.beq j 0) (go n nx ls (.inl (nI SL.1) :: st) h) False)
  | .iaload => jx_i st (fun x st => jx_r st (fun k b st => cond (Nat.beq k 34 && Nat.beq b 0) (∃ j, (j < SL.1 ∧ x = nI j) ∧ go n nx ls (.inl (SL.2 j) :: st) h) False))
  | .invokestatic idx => match jl_wr idx with
    | some q => jx_pk (jx_np q.1) st [] (fun as rest => cond (Nat.ble (jx_wg rest) 8) (n < 600 ∧ jx_MWR q.1 q.2 as h (fun r h' => go (n + 1) nx ls (.inl r :: rest) h')) False)
    | none => False
  | i => jx_op 121 (go n) (fun _ _ => False) (fun _ _ => False) i nx tg ls st h
def jl_blk (SL : Nat × (Nat → Int32)) (cut : Nat → Bool) (V : Nat → Nat → jxL → List jxV → jxH → Prop) : Nat → Nat → Nat → jxL → List jxV → jxH → Prop
  | 0, n, pc, ls, st, h => V n pc ls st h
  | f + 1, n, pc, ls, st, h => match jx_ent 121 pc with
    | some (i, nx, tg) => jl_op SL (fun n' pc' ls' st' h' => cond (cut pc') (V n' pc' ls' st' h') (jl_blk SL cut V f n' pc' ls' st' h')) n i nx tg ls st h
    | none => False
def jl_al (q : Nat × Instr × Nat × List Nat) : Bool := match q with
  | (pc, .arraylength, nx, _) => decide (decode (jx_cd 121) pc = .ok (.arraylength, 1)) && Nat.beq nx (pc + 1)
  | _ => true
theorem jl_al_ok : (jx_tb 121).all jl_al = true := by decide +kernel
section JL
variable {p : Program} {l : Launch} {e : Env} {R : Room} {s : State} {m : MethodId} {args : Array Value} {below : List Frame} {meth : Method} {c : Code} {G : jxG} {A : Nat → Prop} {Qf : State → Prop} {SL : Nat × (Nat → Int32)} {c0 s0 : Nat}
theorem jl_call {ω idx pc cs ss : Nat} {hh : List (Nat × Nat × Nat × Nat)} {as rest : List jxV} {h : jxH} {E : Int32 → jxH → Prop} {la : Array Slot} {H : Heap} {locs : List Loc}
    (X : jx_X p R s m args meth c G A 121 cs ss) (hts : ∀ w ∈ jl_lt, w.before args s = true) (hXS : jx_XS A s s.heap) (hst : l.stackTraces = false) (hP : va_P G.1 jx_cl (jx_ws G h) H) (hS : va_S A s.heap H locs) (hla : la.size = jx_mx 121) (hok : ∀ v ∈ as, jx_ok v) (hk1 : ∀ v ∈ as, jx_w1 v)
    (hwr : jl_wr idx = some (ω, hh)) (hn : as.length = jx_np ω) (hrest : jx_wg rest ≤ 8) (hRf : 8 ≤ R.frames) (hRl : 378 ≤ R.locals) (hRc : cs + 1 ≤ R.cells) (hRs : ss + 6 ≤ R.slots)
    (hM : jx_MWR ω hh as h E) (hdg : decode (jx_cd 121) pc = .ok (.invokestatic idx, 3))
    (kk : ∀ (r : Int32) (h' : jxH) (H1 : Heap) (locs1 : List Loc), E r h' → va_P G.1 jx_cl (jx_ws G h') H1 → va_S A s.heap H1 locs1 → W p l e R s m args below meth c H1 locs1 (cs + 1) (ss + 6) Qf (F0 m (pc + 3) la (.int r :: rest.map (jx_cv G)))) :
    W p l e R s m args below meth c H locs cs ss Qf (F0 m pc la ((as.reverse ++ rest).map (jx_cv G))) := by
  have hin := jl_wr_in hwr
  have hck := List.all_eq_true.mp jl_wl_ok _ hin
  simp only [Bool.and_eq_true, decide_eq_true_eq] at hck
  obtain ⟨⟨⟨⟨k1, k2⟩, k3⟩, k4⟩, k5⟩ := hck
  have k2 := Nat.le_of_ble_eq_true k2
  have k3 := Nat.le_of_ble_eq_true k3
  have k4 : jx_rt ω = some .int := eq_of_beq k4
  have k5 := Nat.eq_of_beq_eq_true k5
  have hcls : (jx_nm ω).cls = "DotVaultLaw" := by
    show jx_cn (jx_ow ω) = _
    rw [k5]
    rfl
  obtain ⟨hx, hb, hml, hown, -, hK, hD, hSF, hAw, -⟩ := X
  have hsub : ∀ q, va_A (jx_ws G h) H.size q → A q := fun q hq => hAw h H.size q hS.1 hq
  have hz : ∀ w ∈ ([.methodLink "DotVaultLaw" idx (jx_nm ω), .static (jx_nm ω), .initialized (jx_nm ω).cls, .codeWith (jx_nm ω) (jx_cd ω) (jx_mx ω) (some .int) hh] : List Cond), w ∈ jl_lt ∧ ((w.onTables && w.keeps) = true ∨ ∃ ty, w = .arrayClass ty) := fun w hw => by
    have h1 : w ∈ jl_lz := List.mem_flatMap.mpr ⟨_, hin, hw⟩
    exact ⟨List.mem_append_right _ h1, good_of_word (List.all_eq_true.mp jl_lz_good w h1)⟩
  have htw : ∀ w ∈ jx_tw, w ∈ jl_lt ∧ ((w.onTables && w.keeps) = true ∨ ∃ ty, w = .arrayClass ty) := fun w hw => by
    refine ⟨List.mem_append_left _ hw, ?_⟩
    rcases List.mem_append.mp hw with h1 | h1
    · exact jx_all_good w h1
    · rcases List.mem_append.mp h1 with h2 | h2
      · exact good_of_word (List.all_eq_true.mp jx_xw_good w h2)
      · exact good_of_word (List.all_eq_true.mp jx_lw_good w h2)
  have hgood : GoodIn jl_lt (va_wsS "DotVaultLaw" idx (jx_nm ω) (jx_ww ω hh)) := by
    intro w hw
    simp only [va_wsS, jx_ww, List.mem_append, List.mem_cons, List.not_mem_nil, or_false] at hw
    rcases hw with (rfl | rfl | rfl) | rfl | hw
    · exact hz _ (by simp)
    · exact hz _ (by simp)
    · exact hz _ (by simp)
    · exact hz _ (by simp)
    · exact htw w hw
  have hbl : FrameBlind (va_Pc (as.map (jx_cv G)) (fun U => U.heap.size = H.size ∧ jx_PX G h U ∧ jx_XS (va_A (jx_ws G h) U.heap.size) U U.heap)) := fun a U g mk q => by
    obtain ⟨q0, q1, ⟨qP, qK, qD, qS⟩, qX⟩ := q
    exact ⟨q0, q1, ⟨qP, va_K.moved (u := U) (U := U.calling g mk a) (Vm.Alike.refl U.vm) qK, qD, jx_SF_moved (u := U) (U := U.calling g mk a) (Vm.Alike.refl U.vm) qS⟩, jx_XS.warm (s := U) (U := U.calling g mk a) (State.WarmedH.refl U) qX⟩
  have hpre : ∀ U : State, U.heap = H → s.WarmedH U.vm → va_Pc (as.map (jx_cv G)) (fun U => U.heap.size = H.size ∧ jx_PX G h U ∧ jx_XS (va_A (jx_ws G h) U.heap.size) U U.heap) ((as.map (jx_cv G)).toArray) U := fun U hU hW => by
    refine ⟨rfl, by rw [hU], ⟨by rw [hU]; exact hP, va_K.moved hW.alike hK, (hD h).weaken (fun _ _ _ _ => trivial), ?_⟩, ?_⟩
    · rw [hU]
      exact jx_SF_narrow (jx_SF_moved hW.alike (jx_SF_kept hSF hS.2.1)) hsub
    · rw [hU]
      exact jx_XS.narrow (jx_XS.warm hW (jx_XS.kept hXS hS.2.1)) hsub
  have hr := vx_runSW (p := p) (e := e) (below := below) (meth := meth) (locs := locs) (cells := cs) (slots := ss) (As := as.map (jx_cv G)) (rest := rest.map (jx_cv G)) (n := jx_np ω) (g := F0 m pc la ((as.reverse ++ rest).map (jx_cv G))) (index := idx) (Ts := jl_lt) (own := "DotVaultLaw") (nL := jx_mx 121) (hh := hh) (bytes := jx_cd ω) (maxL := jx_mx ω) (ret := some .int) ⟨hx, hb, hml, hown, hts⟩ (hM l G H.size hst hok hk1) (vx_cwSW (jx_np ω) hts hgood rfl rfl rfl ⟨by rw [hcls]; decide, by rw [hcls]; decide, k1⟩ ⟨by show jx_dp ω + 1 ≤ R.frames; omega, by show 8 + (jx_mx ω + 11) + jx_lc ω ≤ R.locals; omega⟩) ⟨hbl, hpre⟩ rfl (by simpa using hn) hla (by simp [F0]) (lv_room (by rw [jx_cats]; exact hrest)) hdg ⟨hRc, hRs⟩
  intro T hT Y
  obtain ⟨v, st₀, t, T', L, h0, Y', hL, e1, e2, ⟨⟨r, h', hv, hE, hPX⟩, hz9, hk⟩, stp⟩ := hr T hT Y
  have hv' : v = some (.int r) := by
    have := Outcome.returned.inj hv
    rw [this, jx_rv, k4]
  subst hv'
  rw [h0] at hz9 hk
  obtain ⟨t2, a1, b1⟩ := kk r h' T'.heap (locs ++ L) hE (by rw [e1]; exact hPX.1)
    ⟨Nat.le_trans hS.1 (by rw [e1]; exact hz9), fun q h1 h2 => by rw [e1, hk q (Nat.lt_of_lt_of_le h1 hS.1) (fun z => h2 (hsub q z))]; exact hS.2.1 q h1 h2, fun q hq => by
      rcases List.mem_append.mp hq with h9 | h9
      · exact hS.2.2 q h9
      · exact hsub _ (hL q h9)⟩ T' rfl Y'
  exact ⟨t2, stp t2 a1, b1⟩
theorem jl_step {go : Nat → Nat → jxL → List jxV → jxH → Prop} (XX : ∀ n, n ≤ 600 → jx_X p R s m args meth c G A 121 (c0 + n) (s0 + 6 * n)) (hts : ∀ w ∈ jl_lt, w.before args s = true) (hXS : jx_XS A s s.heap) (hst : l.stackTraces = false) (hscr : va_X (G.2.2 34 0) SL.1 SL.2 s s.heap) (hbl : G.2.2 34 0 < s.heap.size) (hbA : ¬ A (G.2.2 34 0)) (hL : SL.1 < 2 ^ 31) (hRf : 8 ≤ R.frames) (hRl : 378 ≤ R.locals)
    (hgo : ∀ n pc ls st h, n ≤ 600 → go n pc ls st h → jx_V p l e R s m args below meth c G A 121 (c0 + n) (s0 + 6 * n) Qf pc ls st h)
    {n pc nx : Nat} {i : Instr} {tg : List Nat} {ls : jxL} {st : List jxV} {h : jxH} (hn : n ≤ 600) (hent : jx_ent 121 pc = some (i, nx, tg)) (hs : jl_op SL go n i nx tg ls st h) : jx_V p l e R s m args below meth c G A 121 (c0 + n) (s0 + 6 * n) Qf pc ls st h := by
  have X := XX n hn
  have X0 := X
  have dft : jx_op 121 (go n) (fun _ _ => False) (fun _ _ => False) i nx tg ls st h → jx_V p l e R s m args below meth c G A 121 (c0 + n) (s0 + 6 * n) Qf pc ls st h := fun hs => by
    refine jx_step X0 (fun t ht => ?_) (fun _ _ _ _ _ _ _ _ _ h9 => False.elim h9) (fun pc ls st h hg => hgo n pc ls st h hn hg) hent hs
    obtain ⟨o, -, -, ⟨⟨r, h', -, h9, -⟩, -⟩, -⟩ := ht
    exact False.elim h9
  obtain ⟨hx, hb, hml, hown, -, hK, hD, hSF, hAw, hret, hlocks, hκ, hR1, hR2, hR3, hR4⟩ := X
  have hsub : n ≤ 600 := hn
  cases i with
  | arraylength =>
    have hdec : decode (jx_cd 121) pc = .ok (.arraylength, 1) ∧ nx = pc + 1 := by
      have := List.all_eq_true.mp jl_al_ok _ (jx_ent_in hent)
      simp only [jl_al, Bool.and_eq_true, decide_eq_true_eq] at this
      exact ⟨this.1, Nat.eq_of_beq_eq_true this.2⟩
    obtain ⟨hdec, rfl⟩ := hdec
    intro H locs la hl hst9 hls hP hS
    obtain ⟨k, b, st', rfl, hk⟩ := jx_r_inv hs
    obtain ⟨hkb, hk⟩ := jx_cond hk
    rw [Bool.and_eq_true] at hkb
    cases Nat.eq_of_beq_eq_true hkb.1
    cases Nat.eq_of_beq_eq_true hkb.2
    exact va_slen hx hb hscr hbl hbA hS hdec (hgo n _ _ _ _ hn hk H locs la hl (jx_oki (jx_okt hst9)) hls hP hS)
  | iaload =>
    have hdec := ((jx_ent_ok hκ hent).1 (show 0 < 1 by decide))
    obtain ⟨hdec, rfl⟩ := hdec
    intro H locs la hl hst9 hls hP hS
    obtain ⟨x, st1, rfl, hk⟩ := jx_i_inv hs
    obtain ⟨k, b, st', rfl, hk⟩ := jx_r_inv hk
    obtain ⟨hkb, hk2⟩ := jx_cond hk
    rw [Bool.and_eq_true] at hkb
    cases Nat.eq_of_beq_eq_true hkb.1
    cases Nat.eq_of_beq_eq_true hkb.2
    obtain ⟨j, ⟨hj, rfl⟩, hk3⟩ := hk2
    have hc : (nI j).toNatClampNeg = j := nI_clamp (by omega)
    refine va_sld hx hb hscr hbl hbA hS (vp_in_nI hj hL) hdec ?_
    rw [hc]
    exact hgo n _ _ _ _ hn hk3 H locs la hl (jx_oki (jx_okt (jx_okt hst9))) hls hP hS
  | invokestatic idx =>
    have hdec := ((jx_ent_ok hκ hent).1 (show 0 < 3 by decide))
    obtain ⟨hdec, rfl⟩ := hdec
    intro H locs la hl hst9 hls hP hS
    have hls0 : la.size = jx_mx 121 := by
      obtain ⟨-, lv, h1, -⟩ := hl
      exact h1.1
    cases hwr : jl_wr idx with
    | none => simp only [jl_op, hwr] at hs
    | some q =>
      simp only [jl_op, hwr] at hs
      obtain ⟨as, rest, h1, rfl, h2, h3⟩ := jx_pk_inv _ _ _ _ hs
      obtain ⟨h4, h5, h6⟩ := jx_cond h3
      rw [List.append_nil] at h6
      have hcc : c0 + 600 ≤ R.cells := (XX 600 (Nat.le_refl _)).2.2.2.2.2.2.2.2.2.2.2.2.2.2.1
      have hss : s0 + 6 * 600 ≤ R.slots := (XX 600 (Nat.le_refl _)).2.2.2.2.2.2.2.2.2.2.2.2.2.2.2
      refine jl_call X0 hts hXS hst hP hS hls0 (fun v hv => hst9 v (List.mem_append_left _ (List.mem_reverse.mpr hv))) h2 hwr h1 (Nat.le_of_ble_eq_true h4) hRf hRl (by omega) (by omega) h6 hdec (fun r h' H1 locs1 hE hP1 hS1 => ?_)
      exact hgo (n + 1) _ _ _ _ (by omega) hE H1 locs1 la hl (jx_oki (fun v hv => hst9 v (List.mem_append_right _ hv))) hls hP1 hS1
  | _ => exact dft hs
theorem jl_blk_ok (XX : ∀ n, n ≤ 600 → jx_X p R s m args meth c G A 121 (c0 + n) (s0 + 6 * n)) (hts : ∀ w ∈ jl_lt, w.before args s = true) (hXS : jx_XS A s s.heap) (hst : l.stackTraces = false) (hscr : va_X (G.2.2 34 0) SL.1 SL.2 s s.heap) (hbl : G.2.2 34 0 < s.heap.size) (hbA : ¬ A (G.2.2 34 0)) (hL : SL.1 < 2 ^ 31) (hRf : 8 ≤ R.frames) (hRl : 378 ≤ R.locals) (cut : Nat → Bool) : ∀ (f n pc : Nat) (ls : jxL) (st : List jxV) (h : jxH), n ≤ 600 → jl_blk SL cut (fun n => jx_V p l e R s m args below meth c G A 121 (c0 + n) (s0 + 6 * n) Qf) f n pc ls st h → jx_V p l e R s m args below meth c G A 121 (c0 + n) (s0 + 6 * n) Qf pc ls st h
  | 0, n, pc, ls, st, h, _, hb => hb
  | f + 1, n, pc, ls, st, h, hn, hb => by
    unfold jl_blk at hb
    cases hent : jx_ent 121 pc with
    | none => rw [hent] at hb; exact False.elim hb
    | some q =>
      obtain ⟨i, nx, tg⟩ := q
      rw [hent] at hb
      refine jl_step XX hts hXS hst hscr hbl hbA hL hRf hRl (fun n' pc' ls' st' h' hn' hg => ?_) hn hent hb
      cases hc : cut pc' with
      | true => simpa only [hc, cond_true] using hg
      | false =>
        have hg' : jl_blk SL cut (fun n => jx_V p l e R s m args below meth c G A 121 (c0 + n) (s0 + 6 * n) Qf) f n' pc' ls' st' h' := by simpa only [hc, cond_false] using hg
        exact jl_blk_ok XX hts hXS hst hscr hbl hbA hL hRf hRl cut f n' pc' ls' st' h' hn' hg'
end JL
