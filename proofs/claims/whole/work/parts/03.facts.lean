def jx_ent (κ pc : Nat) : Option (Instr × Nat × List Nat) := ((jx_tb κ).find? (fun e => Nat.beq e.1 pc)).map (fun e => e.2)
theorem jx_ent_in {κ pc nx : Nat} {i : Instr} {tg : List Nat} (h : jx_ent κ pc = some (i, nx, tg)) : (pc, i, nx, tg) ∈ jx_tb κ := by
  unfold jx_ent at h
  cases hf : (jx_tb κ).find? (fun e => Nat.beq e.1 pc) with
  | none => rw [hf] at h; cases h
  | some q =>
    rw [hf] at h
    have h1 := List.mem_of_find?_eq_some hf
    have h2 := List.find?_some hf
    obtain ⟨a, b⟩ := q
    cases h
    have h3 : a = pc := Nat.eq_of_beq_eq_true h2
    rw [h3] at h1
    exact h1
theorem jx_nnt {κ : Nat} (h : κ < jx_nn) : κ < jx_nt := Nat.lt_of_lt_of_le h (by decide)
theorem jx_ent_ok {κ pc nx : Nat} {i : Instr} {tg : List Nat} (hκ : κ < jx_nt) (h : jx_ent κ pc = some (i, nx, tg)) :
    (0 < jx_len i → decode (jx_cd κ) pc = .ok (i, jx_len i) ∧ nx = pc + jx_len i) ∧ (∀ o, jx_off i = some o → ∀ t, tg = [t] → (pc : Int) + o = (t : Int)) ∧
    (∀ d0 lo hi offs, i = .tableswitch d0 lo hi offs → ∀ d ts, tg = d :: ts → decode (jx_cd κ) pc = .ok (.tableswitch d0 lo hi offs, nx - pc) ∧ 0 ≤ lo ∧ hi = lo + (ts.length : Int) - 1 ∧ (pc : Int) + d0 = (d : Int) ∧ ∀ (j t : Nat), ts[j]? = some t → ∃ o, offs[j]? = some o ∧ (pc : Int) + o = (t : Int) ∧ lo.toNat + j < 2000) := by
  have hc := List.all_eq_true.mp (jx_tb_ok κ hκ) _ (jx_ent_in h)
  simp only [jx_chk, Bool.and_eq_true, Bool.or_eq_true, decide_eq_true_eq] at hc
  obtain ⟨⟨⟨⟨h1, h2⟩, h3⟩, h4⟩, h5⟩ := hc
  refine ⟨fun hl => ?_, fun o ho t ht => ?_, fun d0 lo hi offs hi0 d ts ht => ?_⟩
  · have h6 : nx = pc + jx_len i := by
      rcases h3 with h3 | h3
      · omega
      · exact h3
    refine ⟨?_, h6⟩
    rw [h1, h6, Nat.add_sub_cancel_left]
  · rw [ho] at h4
    subst ht
    simp only [Bool.and_eq_true, decide_eq_true_eq] at h4
    simpa using h4.2
  · subst hi0
    subst ht
    simp only [Bool.and_eq_true, decide_eq_true_eq] at h5
    obtain ⟨⟨⟨⟨⟨g1, g2⟩, g3⟩, g4⟩, g5⟩, g6⟩ := h5
    simp only [List.length_cons] at g3 g4 g6
    refine ⟨h1, g1, by omega, by simpa using g5, fun j t hj => ?_⟩
    have hjl := (List.getElem?_eq_some_iff.mp hj).1
    have g7 := List.all_eq_true.mp g6 j (List.mem_range.mpr (by omega))
    cases ho : offs[j]? with
    | none => rw [ho] at g7; cases g7
    | some o =>
      rw [ho] at g7
      simp only [decide_eq_true_eq] at g7
      refine ⟨o, rfl, ?_, by omega⟩
      rw [g7]
      simp [hj]
-- cells
def jx_cel (k : Nat) : Bool := (jx_fl k).isSome || (jx_ar k).isSome || (jx_ra k).isSome
def jx_c1 (k : Nat) : Bool := (match jx_fl k with
    | some q => (jx_tv k).isNone && (match jx_cl[q.1]? with
      | some (_, T, N) => decide (q.2.length = N) && (List.range N).all (fun j => match q.2[j]? with
        | some none => (T j).2.2.2 == false && decide (parseFieldDescriptor (T j).2.2.1 = some .int)
        | some (some (k', some c)) => decide (c < jx_ct k')
        | some (some (k', none)) => decide (jx_ct k ≤ jx_ct k')
        | none => false)
      | none => false)
    | none => true)
  && (match jx_ar k with
    | some q => (jx_tv k).isNone && (jx_fl k).isNone && decide (q.2 < 2 ^ 31)
    | none => true)
  && (match jx_ra k with
    | some (t, n, k') => (jx_tv k).isNone && (jx_fl k).isNone && (jx_ar k).isNone && decide (n < 2 ^ 31) && decide (n ≤ jx_ct k') && (match jx_tl[t]? with
      | some ty => ty.isReference
      | none => false)
    | none => true)
  && (match jx_tv k with
    | some q => decide (jx_ct k ≤ 1) && decide (q.2.2.length < 2 ^ 31)
    | none => !jx_cel k || (List.range (jx_ct k)).all (fun i => decide ((k, i) ∈ jx_ls)))
theorem jx_c1_ok : ∀ k, k < 60 → jx_c1 k = true := by decide +kernel
theorem jx_big {k : Nat} (h : ¬ k < 60) : jx_fl k = none ∧ jx_ar k = none ∧ jx_ra k = none ∧ jx_tv k = none ∧ jx_ct k = 0 := by
  have h1 : jx_fll.length ≤ k := Nat.le_trans (by decide) (Nat.not_lt.mp h)
  have h2 : jx_arl.length ≤ k := Nat.le_trans (by decide) (Nat.not_lt.mp h)
  have h3 : jx_ral.length ≤ k := Nat.le_trans (by decide) (Nat.not_lt.mp h)
  have h4 : jx_tvl.length ≤ k := Nat.le_trans (by decide) (Nat.not_lt.mp h)
  have h5 : jx_ctl.length ≤ k := Nat.le_trans (by decide) (Nat.not_lt.mp h)
  simp [jx_fl, jx_ar, jx_ra, jx_tv, jx_ct, List.getElem?_eq_none h1, List.getElem?_eq_none h2, List.getElem?_eq_none h3, List.getElem?_eq_none h4, List.getElem?_eq_none h5]
theorem jx_c1_all (k : Nat) : jx_c1 k = true := by
  by_cases h : k < 60
  · exact jx_c1_ok k h
  · obtain ⟨h1, h2, h3, h4, h5⟩ := jx_big h
    simp [jx_c1, jx_cel, h1, h2, h3, h4, h5]
theorem jx_tv_fl {k : Nat} {q : Nat × List (Option (Nat × Option Nat))} (h : jx_fl k = some q) : jx_tv k = none := by
  have h1 := jx_c1_all k
  simp only [jx_c1, h, Bool.and_eq_true, Option.isNone_iff_eq_none] at h1
  exact h1.1.1.1.1
theorem jx_tv_ar {k : Nat} {q : Nat × Nat} (h : jx_ar k = some q) : jx_tv k = none := by
  have h1 := jx_c1_all k
  simp only [jx_c1, h, Bool.and_eq_true, Option.isNone_iff_eq_none] at h1
  exact h1.1.1.2.1.1
theorem jx_ar_ok {k t n : Nat} (h : jx_ar k = some (t, n)) : n < 2 ^ 31 ∧ jx_fl k = none := by
  have h1 := jx_c1_all k
  simp only [jx_c1, h, Bool.and_eq_true, Option.isNone_iff_eq_none, decide_eq_true_eq] at h1
  exact ⟨h1.1.1.2.2, h1.1.1.2.1.2⟩
theorem jx_ra_ok {k t n k' : Nat} (h : jx_ra k = some (t, n, k')) : jx_tv k = none ∧ jx_fl k = none ∧ jx_ar k = none ∧ n < 2 ^ 31 ∧ n ≤ jx_ct k' ∧ ∃ ty, jx_tl[t]? = some ty ∧ ty.isReference = true := by
  have h1 := jx_c1_all k
  simp only [jx_c1, h, Bool.and_eq_true, Option.isNone_iff_eq_none, decide_eq_true_eq] at h1
  obtain ⟨⟨⟨⟨⟨g1, g2⟩, g3⟩, g4⟩, g5⟩, g6⟩ := h1.1.2
  refine ⟨g1, g2, g3, g4, g5, ?_⟩
  cases ht : jx_tl[t]? with
  | none => rw [ht] at g6; cases g6
  | some ty => rw [ht] at g6; exact ⟨ty, rfl, g6⟩
theorem jx_tv_ok {k i : Nat} {q : String × String × List Nat} (h : jx_tv k = some q) (hi : i < jx_ct k) : i = 0 ∧ q.2.2.length < 2 ^ 31 := by
  have h1 := jx_c1_all k
  simp only [jx_c1, h, Bool.and_eq_true, decide_eq_true_eq] at h1
  exact ⟨by omega, h1.2.2⟩
theorem jx_cel_tv {k : Nat} (hc : jx_cel k = true) : jx_tv k = none := by
  simp only [jx_cel, Bool.or_eq_true, Option.isSome_iff_exists] at hc
  rcases hc with (⟨q, hq⟩ | ⟨q, hq⟩) | ⟨⟨a, b, d⟩, hq⟩
  · exact jx_tv_fl hq
  · exact jx_tv_ar hq
  · exact (jx_ra_ok hq).1
theorem jx_in_ls (k i : Nat) (hi : i < jx_ct k) (hc : jx_cel k = true) : (k, i) ∈ jx_ls := by
  have h := jx_c1_all k
  simp only [jx_c1, jx_cel_tv hc, Bool.and_eq_true, hc, Bool.not_true, Bool.false_or] at h
  have := List.all_eq_true.mp h.2 i (List.mem_range.mpr hi)
  simpa using this
theorem jx_fl_at {k ci j : Nat} {fs : List (Option (Nat × Option Nat))} {d : Option (Nat × Option Nat)} (h : jx_fl k = some (ci, fs)) (hj : fs[j]? = some d) : ∃ C T N, jx_cl[ci]? = some (C, T, N) ∧ (match d with
    | none => (T j).2.2.2 = false ∧ parseFieldDescriptor (T j).2.2.1 = some .int
    | some (k', some c) => c < jx_ct k'
    | some (k', none) => jx_ct k ≤ jx_ct k') := by
  have h1 := jx_c1_all k
  simp only [jx_c1, h, Bool.and_eq_true] at h1
  have h2 := h1.1.1.1.2
  cases hc : jx_cl[ci]? with
  | none => rw [hc] at h2; cases h2
  | some q =>
    obtain ⟨C, T, N⟩ := q
    rw [hc] at h2
    simp only [Bool.and_eq_true, decide_eq_true_eq] at h2
    obtain ⟨h3, h4⟩ := h2
    have hjl := (List.getElem?_eq_some_iff.mp hj).1
    have h5 := List.all_eq_true.mp h4 j (List.mem_range.mpr (by omega))
    rw [hj] at h5
    refine ⟨C, T, N, rfl, ?_⟩
    match d, h5 with
    | none, h5 => simpa using h5
    | some (k', some c), h5 => simpa using h5
    | some (k', none), h5 => simpa using h5
theorem jx_fl_int {k ci j N : Nat} {fs : List (Option (Nat × Option Nat))} {C : String} {T : u_T} (h : jx_fl k = some (ci, fs)) (hj : fs[j]? = some none) (hc : jx_cl[ci]? = some (C, T, N)) : (T j).2.2.2 = false ∧ parseFieldDescriptor (T j).2.2.1 = some .int := by
  obtain ⟨C', T', N', h1, h2⟩ := jx_fl_at h hj
  cases h1.symm.trans hc
  exact h2
def jx_c2 (q : vw_C) : Bool := match q with
  | (_, T, N) => (List.range N).all (fun a => (parseFieldDescriptor (T a).2.2.1).isSome && (List.range N).all (fun b => (a == b) || !((T a).2.1 == (T b).2.1)))
theorem jx_c2_ok : jx_cl.all jx_c2 = true := by decide +kernel
theorem jx_cl_ok {ci N : Nat} {C : String} {T : u_T} (h : jx_cl[ci]? = some (C, T, N)) : (∀ k, k < N → parseFieldDescriptor (T k).2.2.1 = some ((parseFieldDescriptor (T k).2.2.1).getD .int)) ∧ (∀ a, a < N → ∀ b, b < N → a ≠ b → (T a).2.1 ≠ (T b).2.1) := by
  have h1 := List.all_eq_true.mp jx_c2_ok _ (List.mem_of_getElem? h)
  simp only [jx_c2] at h1
  refine ⟨fun k hk => ?_, fun a ha b hb hab hn => ?_⟩
  · have h2 := List.all_eq_true.mp h1 k (List.mem_range.mpr hk)
    simp only [Bool.and_eq_true] at h2
    cases hp : parseFieldDescriptor (T k).2.2.1 with
    | none => rw [hp] at h2; cases h2.1
    | some ty => rfl
  · have h2 := List.all_eq_true.mp h1 a (List.mem_range.mpr ha)
    simp only [Bool.and_eq_true] at h2
    have h3 := List.all_eq_true.mp h2.2 b (List.mem_range.mpr hb)
    simp [hab, hn] at h3
-- words
abbrev jx_yc (κ : Nat) : String := jx_cn (jx_ow κ)
def jx_cod (κ : Nat) : Cond := .code (jx_nm κ) (jx_cd κ) (jx_mx κ) (jx_rt κ)
def jx_mws (κ : Nat) : List Cond := if jx_is κ = true then [.static (jx_nm κ), .initialized (jx_nm κ).cls] else [.instanceMethod (jx_nm κ), .selects (jx_nm κ).cls (jx_nm κ) (jx_nm κ), .initialized (jx_nm κ).cls]
def jx_fw (e : Nat × Nat × Nat × Nat) : List Cond := match jx_cl[e.2.2.1]? with
  | some (C, T, _) => [.fieldLink (jx_cn e.1) e.2.1 C (T e.2.2.2).2.1 (T e.2.2.2).2.2.1]
  | none => []
def jx_sw1 (e : Nat × Nat × Nat) : List Cond := match jx_tv e.2.2 with
  | some q => [.fieldLink (jx_cn e.1) e.2.1 q.1 q.2.1 "[I"]
  | none => []
def jx_spw (e : Nat × Nat × Nat) : List Cond := if e.2.2 = 0 then [.methodLink (jx_cn e.1) e.2.1 Lib.Math.min.name, .static Lib.Math.min.name, .initialized "java/lang/Math", .code Lib.Math.min.name Lib.Math.min.code 2 (some .int)] else [.methodLink (jx_cn e.1) e.2.1 arraycopyName, .native arraycopyName, .static arraycopyName, .initialized "java/lang/System"]
def jx_oth : List Cond := jx_cl.flatMap (fun c => u_ws c.1 c.2.1 c.2.2) ++ jx_fdl.flatMap jx_fw ++ jx_sdl.flatMap jx_sw1 ++ jx_mdl.map (fun e => .methodLink (jx_cn e.1) e.2.1 (jx_nm e.2.2)) ++ (List.range jx_nn).flatMap jx_mws ++ jx_spl.flatMap jx_spw
def jx_all : List Cond := (List.range jx_nn).map jx_cod ++ jx_oth
def jx_fd (o idx : Nat) : Option (Nat × Nat) := (jx_fdl.find? (fun e => Nat.beq e.1 o && Nat.beq e.2.1 idx)).map (fun e => e.2.2)
def jx_sd (o idx : Nat) : Option Nat := (jx_sdl.find? (fun e => Nat.beq e.1 o && Nat.beq e.2.1 idx)).map (fun e => e.2.2)
def jx_md (o idx : Nat) : Option Nat := (jx_mdl.find? (fun e => Nat.beq e.1 o && Nat.beq e.2.1 idx)).map (fun e => e.2.2)
def jx_sp (o idx : Nat) : Option Nat := (jx_spl.find? (fun e => Nat.beq e.1 o && Nat.beq e.2.1 idx)).map (fun e => e.2.2)
def jx_ex (o idx : Nat) : Option Nat := (jx_exl.find? (fun e => Nat.beq e.1 o && Nat.beq e.2.1 idx)).map (fun e => e.2.2)
theorem jx_fnd {α : Type} {L : List (Nat × Nat × α)} {o idx : Nat} {a : α} (h : (L.find? (fun e => Nat.beq e.1 o && Nat.beq e.2.1 idx)).map (fun e => e.2.2) = some a) : (o, idx, a) ∈ L := by
  cases hf : L.find? (fun e => Nat.beq e.1 o && Nat.beq e.2.1 idx) with
  | none => rw [hf] at h; cases h
  | some q =>
    rw [hf] at h
    have h1 := List.mem_of_find?_eq_some hf
    have h2 := List.find?_some hf
    obtain ⟨a', b', c'⟩ := q
    cases h
    simp only [Bool.and_eq_true] at h2
    rw [Nat.eq_of_beq_eq_true h2.1, Nat.eq_of_beq_eq_true h2.2] at h1
    exact h1
theorem jx_code_in {κ : Nat} (h : κ < jx_nn) : Cond.code (jx_nm κ) (jx_cd κ) (jx_mx κ) (jx_rt κ) ∈ jx_all := List.mem_append_left _ (List.mem_map.mpr ⟨κ, List.mem_range.mpr h, rfl⟩)
theorem jx_oth_good : jx_oth.all goodWord = true := by decide +kernel
theorem jx_all_good : ∀ w ∈ jx_all, (w.onTables && w.keeps) = true ∨ ∃ ty, w = .arrayClass ty := by
  intro w hw
  rcases List.mem_append.mp hw with h | h
  · obtain ⟨κ, -, rfl⟩ := List.mem_map.mp h
    exact Or.inl rfl
  · exact good_of_word (List.all_eq_true.mp jx_oth_good w h)
def jx_c3 (e : Nat × Nat × Nat × Nat) : Bool := match jx_cl[e.2.2.1]? with
  | some (C, T, N) => decide (e.2.2.2 < N) && (T e.2.2.2).1 == C
  | none => false
theorem jx_c3_ok : jx_fdl.all jx_c3 = true := by decide +kernel
theorem jx_fd_ok {o idx ci j : Nat} (h : jx_fd o idx = some (ci, j)) : ∃ C T N, jx_cl[ci]? = some (C, T, N) ∧ j < N ∧ (T j).1 = C ∧ Cond.fieldLink (jx_cn o) idx C (T j).2.1 (T j).2.2.1 ∈ jx_all ∧ ∀ w ∈ u_ws C T N, w ∈ jx_all := by
  have h0 := jx_fnd h
  have h1 := List.all_eq_true.mp jx_c3_ok _ h0
  simp only [jx_c3] at h1
  cases hc : jx_cl[ci]? with
  | none => rw [hc] at h1; cases h1
  | some q =>
    obtain ⟨C, T, N⟩ := q
    rw [hc] at h1
    simp only [Bool.and_eq_true, decide_eq_true_eq, beq_iff_eq] at h1
    refine ⟨C, T, N, rfl, h1.1, h1.2, ?_, fun w hw => ?_⟩
    · refine List.mem_append_right _ (List.mem_append_left _ (List.mem_append_left _ (List.mem_append_left _ (List.mem_append_left _ (List.mem_append_right _ (List.mem_flatMap.mpr ⟨_, h0, ?_⟩))))))
      simp [jx_fw, hc]
    · exact List.mem_append_right _ (List.mem_append_left _ (List.mem_append_left _ (List.mem_append_left _ (List.mem_append_left _ (List.mem_append_left _ (List.mem_flatMap.mpr ⟨_, List.mem_of_getElem? hc, hw⟩))))))
theorem jx_fl_ok {k ci j i k' : Nat} {c : Option Nat} {fs : List (Option (Nat × Option Nat))} (h : jx_fl k = some (ci, fs)) (hj : fs[j]? = some (some (k', c))) (hi : i < jx_ct k) : c.getD i < jx_ct k' := by
  cases c with
  | some c =>
    obtain ⟨C, T, N, -, h2⟩ := jx_fl_at h hj
    exact h2
  | none =>
    obtain ⟨C, T, N, -, h2⟩ := jx_fl_at h hj
    exact Nat.lt_of_lt_of_le hi h2
def jx_c4 (e : Nat × Nat × Nat) : Bool := (jx_tv e.2.2).isSome && decide (0 < jx_ct e.2.2)
theorem jx_c4_ok : jx_sdl.all jx_c4 = true := by decide +kernel
theorem jx_sd_ok {o idx k : Nat} (h : jx_sd o idx = some k) : ∃ q, jx_tv k = some q ∧ Cond.fieldLink (jx_cn o) idx q.1 q.2.1 "[I" ∈ jx_all ∧ 0 < jx_ct k := by
  have h0 := jx_fnd h
  have h1 := List.all_eq_true.mp jx_c4_ok _ h0
  simp only [jx_c4, Bool.and_eq_true, decide_eq_true_eq] at h1
  cases hq : jx_tv k with
  | none => rw [hq] at h1; cases h1.1
  | some q =>
    refine ⟨q, rfl, ?_, h1.2⟩
    refine List.mem_append_right _ (List.mem_append_left _ (List.mem_append_left _ (List.mem_append_left _ (List.mem_append_right _ (List.mem_flatMap.mpr ⟨_, h0, ?_⟩)))))
    simp [jx_sw1, hq]
def jx_c5 (κ : Nat) : Bool := plainName (jx_nm κ).cls && decide ((jx_nm κ).cls ≠ "java/lang/invoke/MethodHandle") && decide ((jx_nm κ).cls ≠ "java/lang/invoke/VarHandle") && decide (jx_mx κ ≤ 45)
  && (if jx_is κ = true then decide ((parseMethodDescriptor (jx_nm κ).desc).map (fun d => d.parameters.length) = some (jx_np κ)) else decide ((parseMethodDescriptor (jx_nm κ).desc).map (fun d => d.parameters.length) = some (jx_np κ - 1)) && (match jx_cl[jx_ow κ]? with
    | some q => q.1 == (jx_nm κ).cls
    | none => false))
theorem jx_c5_ok : ∀ κ, κ < jx_nn → jx_c5 κ = true := by decide +kernel
theorem jx_plain {κ : Nat} (h : κ < jx_nn) : plainName (jx_nm κ).cls = true := by
  have h1 := jx_c5_ok κ h
  simp only [jx_c5, Bool.and_eq_true] at h1
  exact h1.1.1.1.1
theorem jx_mx_le {κ : Nat} (h : κ < jx_nn) : jx_mx κ ≤ 45 := by
  have h1 := jx_c5_ok κ h
  simp only [jx_c5, Bool.and_eq_true, decide_eq_true_eq] at h1
  exact h1.1.2
theorem jx_c6_ok : jx_mdl.all (fun e => decide (e.2.2 < jx_nn)) = true := by decide +kernel
theorem jx_md_in {o idx κ : Nat} (h : jx_md o idx = some κ) : κ < jx_nn ∧ Cond.methodLink (jx_cn o) idx (jx_nm κ) ∈ jx_all ∧ ∀ w ∈ jx_mws κ, w ∈ jx_all := by
  have h0 := jx_fnd h
  have h1 : κ < jx_nn := by simpa using List.all_eq_true.mp jx_c6_ok _ h0
  refine ⟨h1, ?_, fun w hw => ?_⟩
  · exact List.mem_append_right _ (List.mem_append_left _ (List.mem_append_left _ (List.mem_append_right _ (List.mem_map.mpr ⟨_, h0, rfl⟩))))
  · exact List.mem_append_right _ (List.mem_append_left _ (List.mem_append_right _ (List.mem_flatMap.mpr ⟨κ, List.mem_range.mpr h1, hw⟩)))
theorem jx_md_s {o idx κ : Nat} (h : jx_md o idx = some κ) (his : jx_is κ = true) : κ < jx_nn ∧ Cond.methodLink (jx_cn o) idx (jx_nm κ) ∈ jx_all ∧ (Cond.static (jx_nm κ) ∈ jx_all ∧ Cond.initialized (jx_nm κ).cls ∈ jx_all) ∧ (jx_nm κ).cls ≠ "java/lang/invoke/MethodHandle" ∧ (jx_nm κ).cls ≠ "java/lang/invoke/VarHandle" ∧ (parseMethodDescriptor (jx_nm κ).desc).map (fun d => d.parameters.length) = some (jx_np κ) := by
  obtain ⟨h1, h2, h3⟩ := jx_md_in h
  have h4 := jx_c5_ok κ h1
  simp only [jx_c5, Bool.and_eq_true, decide_eq_true_eq, his, if_true] at h4
  simp only [jx_mws, his, if_true] at h3
  exact ⟨h1, h2, ⟨h3 _ (by simp), h3 _ (by simp)⟩, h4.1.1.1.2, h4.1.1.2, h4.2⟩
theorem jx_md_v {o idx κ : Nat} (h : jx_md o idx = some κ) (his : jx_is κ = false) : κ < jx_nn ∧ ∃ C T N, jx_cl[jx_ow κ]? = some (C, T, N) ∧ C = (jx_nm κ).cls ∧ Cond.methodLink (jx_cn o) idx (jx_nm κ) ∈ jx_all ∧ Cond.instanceMethod (jx_nm κ) ∈ jx_all ∧ Cond.selects C (jx_nm κ) (jx_nm κ) ∈ jx_all ∧ Cond.initialized (jx_nm κ).cls ∈ jx_all ∧ (jx_nm κ).cls ≠ "java/lang/invoke/MethodHandle" ∧ (jx_nm κ).cls ≠ "java/lang/invoke/VarHandle" ∧ (parseMethodDescriptor (jx_nm κ).desc).map (fun d => d.parameters.length) = some (jx_np κ - 1) := by
  obtain ⟨h1, h2, h3⟩ := jx_md_in h
  have h4 := jx_c5_ok κ h1
  simp only [jx_c5, Bool.and_eq_true, decide_eq_true_eq, his, Bool.false_eq_true, if_false] at h4
  simp only [jx_mws, his, Bool.false_eq_true, if_false] at h3
  obtain ⟨h5, h6, h7⟩ := h4
  cases hc : jx_cl[jx_ow κ]? with
  | none => rw [hc] at h7; cases h7
  | some q =>
    obtain ⟨C, T, N⟩ := q
    rw [hc] at h7
    have h8 : C = (jx_nm κ).cls := by simpa using h7
    refine ⟨h1, C, T, N, rfl, h8, h2, h3 _ (by simp), ?_, h3 _ (by simp), h5.1.1.2, h5.1.2, h6⟩
    rw [h8]
    exact h3 _ (by simp)
theorem jx_sp_in {o idx x : Nat} (h : jx_sp o idx = some x) : ∀ w ∈ jx_spw (o, idx, x), w ∈ jx_all := fun w hw =>
  List.mem_append_right _ (List.mem_append_right _ (List.mem_flatMap.mpr ⟨_, jx_fnd h, hw⟩))
theorem jx_sp_0 {o idx : Nat} (h : jx_sp o idx = some 0) : Cond.methodLink (jx_cn o) idx Lib.Math.min.name ∈ jx_all ∧ Cond.static Lib.Math.min.name ∈ jx_all ∧ Cond.initialized "java/lang/Math" ∈ jx_all ∧ Cond.code Lib.Math.min.name Lib.Math.min.code 2 (some .int) ∈ jx_all :=
  ⟨jx_sp_in h _ (by simp [jx_spw]), jx_sp_in h _ (by simp [jx_spw]), jx_sp_in h _ (by simp [jx_spw]), jx_sp_in h _ (by simp [jx_spw])⟩
theorem jx_sp_1 {o idx : Nat} (h : jx_sp o idx = some 1) : Cond.methodLink (jx_cn o) idx arraycopyName ∈ jx_all ∧ Cond.native arraycopyName ∈ jx_all ∧ Cond.static arraycopyName ∈ jx_all ∧ Cond.initialized "java/lang/System" ∈ jx_all :=
  ⟨jx_sp_in h _ (by simp [jx_spw]), jx_sp_in h _ (by simp [jx_spw]), jx_sp_in h _ (by simp [jx_spw]), jx_sp_in h _ (by simp [jx_spw])⟩
theorem jx_nfw : nativeFrameWords "java/lang/System" "arraycopy" 5 + 11 + 8 ≤ 48 := by decide +kernel
