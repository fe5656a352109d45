/-! Constructors: their words, the arrays' classes, the rows that a constructor is made of. -/
def jn_y (C : String) : MethodName := ⟨C, "<init>", "()V"⟩
abbrev jn_pr : MethodName := ⟨"DotVaultModel", "product", "(II)I"⟩
def jn_w0 : List Cond := [
  .methodLink "DotVault" 3 objectInit, .methodLink "DotVault$Sheet" 3 objectInit, .methodLink "DotVault$Row" 3 objectInit, .methodLink "DotVault$Column" 3 objectInit, .methodLink "DotVault$Scan" 3 objectInit, .methodLink "DotVault$Reader" 3 objectInit, .methodLink "DotVaultModel" 1 objectInit,
  .instanceMethod objectInit, .code objectInit ⟨#[0xb1]⟩ 1 none, .arrayClass .int, .arrayClass .boolean,
  .initialized "DotVault", .initialized "DotVault$Sheet", .initialized "DotVault$Row", .initialized "DotVault$Column", .initialized "DotVault$Scan", .initialized "DotVault$Reader", .initialized "DotVaultModel",
  .instantiable "DotVault" 9, .instantiable "DotVault$Sheet" 1, .instantiable "DotVault$Row" 2, .instantiable "DotVault$Column" 1, .instantiable "DotVault$Scan" 3, .instantiable "DotVault$Reader" 8, .instantiable "DotVaultModel" 19,
  .classLink "DotVault" 17 "DotVault$Sheet", .classLink "DotVault" 29 "DotVault$Row", .classLink "DotVault" 36 "DotVault$Column", .classLink "DotVault" 43 "DotVault$Scan", .classLink "DotVault" 50 "DotVault$Reader", .classLink "DotVault$Scan" 18 "DotVault$Row", .classLink "DotVault$Reader" 37 "DotVault$Column", .classLink "DotVault$Reader" 9 "[[I",
  .instanceMethod (jn_y "DotVault$Sheet"), .instanceMethod (jn_y "DotVault$Row"), .instanceMethod (jn_y "DotVault$Column"), .instanceMethod (jn_y "DotVault$Scan"), .instanceMethod (jn_y "DotVault$Reader"),
  .code (jn_y "DotVault$Sheet") prog_6_method_1_code 1 none, .code (jn_y "DotVault$Row") prog_4_method_1_code 1 none, .code (jn_y "DotVault$Column") prog_2_method_1_code 1 none, .code (jn_y "DotVault$Scan") prog_5_method_1_code 1 none, .code (jn_y "DotVault$Reader") prog_3_method_1_code 1 none,
  .code (jn_y "DotVault") prog_1_method_1_code 2 none, .code (jn_y "DotVaultModel") prog_9_method_1_code 3 none, .instanceMethod (jn_y "DotVault"), .instanceMethod (jn_y "DotVaultModel"),
  .methodLink "DotVaultModel" 47 jn_pr, .instanceMethod jn_pr, .selects "DotVaultModel" jn_pr jn_pr, .code jn_pr prog_9_method_3_code 5 (some .int),
  .fieldLink "DotVault" 9 "DotVault" "document" "[I", .fieldLink "DotVault" 13 "DotVault" "length" "I", .fieldLink "DotVault" 19 "DotVault" "sheets" "[LDotVault$Sheet;", .fieldLink "DotVault" 23 "DotVault" "printed" "I", .fieldLink "DotVault" 26 "DotVault" "data" "[I", .fieldLink "DotVault" 32 "DotVault" "word" "LDotVault$Row;", .fieldLink "DotVault" 39 "DotVault" "column" "LDotVault$Column;", .fieldLink "DotVault" 46 "DotVault" "scan" "LDotVault$Scan;", .fieldLink "DotVault" 53 "DotVault" "reader" "LDotVault$Reader;",
  .fieldLink "DotVault$Sheet" 9 "DotVault$Sheet" "lines" "[I", .fieldLink "DotVault$Row" 9 "DotVault$Row" "symbols" "[I", .fieldLink "DotVault$Row" 15 "DotVault$Row" "sums" "[I", .fieldLink "DotVault$Column" 9 "DotVault$Column" "symbols" "[I", .fieldLink "DotVault$Scan" 9 "DotVault$Scan" "data" "[I", .fieldLink "DotVault$Scan" 15 "DotVault$Scan" "rowErrors" "[I", .fieldLink "DotVault$Scan" 21 "DotVault$Scan" "row" "LDotVault$Row;",
  .fieldLink "DotVault$Reader" 11 "DotVault$Reader" "payloads" "[[I", .fieldLink "DotVault$Reader" 16 "DotVault$Reader" "isKept" "[Z", .fieldLink "DotVault$Reader" 20 "DotVault$Reader" "kept" "I", .fieldLink "DotVault$Reader" 24 "DotVault$Reader" "needed" "I", .fieldLink "DotVault$Reader" 27 "DotVault$Reader" "length" "I", .fieldLink "DotVault$Reader" 30 "DotVault$Reader" "rebuilt" "[I", .fieldLink "DotVault$Reader" 34 "DotVault$Reader" "rebuiltLength" "I", .fieldLink "DotVault$Reader" 40 "DotVault$Reader" "column" "LDotVault$Column;",
  .fieldLink "DotVaultModel" 7 "DotVaultModel" "document" "[I", .fieldLink "DotVaultModel" 13 "DotVaultModel" "dots" "[Z", .fieldLink "DotVaultModel" 17 "DotVaultModel" "power" "[I", .fieldLink "DotVaultModel" 20 "DotVaultModel" "seen" "[Z", .fieldLink "DotVaultModel" 23 "DotVaultModel" "other" "[Z", .fieldLink "DotVaultModel" 26 "DotVaultModel" "row" "[I", .fieldLink "DotVaultModel" 29 "DotVaultModel" "sums" "[I", .fieldLink "DotVaultModel" 32 "DotVaultModel" "data" "[I", .fieldLink "DotVaultModel" 35 "DotVaultModel" "errors" "[I", .fieldLink "DotVaultModel" 38 "DotVaultModel" "has" "[Z", .fieldLink "DotVaultModel" 41 "DotVaultModel" "payloads" "[I", .fieldLink "DotVaultModel" 44 "DotVaultModel" "outBytes" "[I"]
def jn_w1 : List Cond := jx_cl.flatMap (fun c => u_ws c.1 c.2.1 c.2.2)
def jn_w : List Cond := jn_w0 ++ jn_w1
theorem jn_g0 : jn_w0.all goodWord = true := by decide +kernel
theorem jn_g1 : jn_w1.all goodWord = true := by decide +kernel
theorem jn_good : ∀ w ∈ jn_w, (w.onTables && w.keeps) = true ∨ ∃ ty, w = .arrayClass ty := by
  intro w hw
  rcases List.mem_append.mp hw with h | h
  · exact good_of_word (List.all_eq_true.mp jn_g0 w h)
  · exact good_of_word (List.all_eq_true.mp jn_g1 w h)
theorem jn_gi {w1 : Cond} (h : w1 ∈ jn_w) : GoodIn jn_w (w1 :: jn_w) := by
  intro w hw
  rcases List.mem_cons.mp hw with rfl | hw
  · exact ⟨h, jn_good _ h⟩
  · exact ⟨hw, jn_good _ hw⟩
theorem jn_uin {ci N : Nat} {C : String} {T : u_T} (h : jx_cl[ci]? = some (C, T, N)) : ∀ w ∈ u_ws C T N, w ∈ jn_w := fun _ hw => List.mem_append_right _ (List.mem_flatMap.mpr ⟨_, List.mem_of_getElem? h, hw⟩)
theorem jn_m (i : Nat) {w : Cond} (h : jn_w0[i]? = some w) : w ∈ jn_w := List.mem_append_left _ (List.mem_of_getElem? h)
-- what the tables say beyond the good words
def jn_nl : List (String × Nat × String) := [("DotVault", 31, "DotVault$Row"), ("DotVault", 38, "DotVault$Column"), ("DotVault", 45, "DotVault$Scan"), ("DotVault", 52, "DotVault$Reader"), ("DotVault", 57, "DotVault$Sheet"), ("DotVault$Scan", 20, "DotVault$Row"), ("DotVault$Reader", 39, "DotVault$Column")]
def jn_nw (q : String × Nat × String) : Cond := .methodLinkNest q.1 q.2.1 (jn_y q.2.2) "DotVault"
def jn_AA (U : State) : Prop := (Cond.arrayOver (.array .int)).before #[] U = true
theorem jn_AA_spec {U : State} (h : jn_AA U) : ∃ comp c k, U.vm.findClass (FieldType.array .int).toString = some comp ∧ (U.vm.classes.findIdx? fun (x : Class) => match x.kind with | .array component _ => component == comp | _ => false) = some c ∧ U.vm.classes[c]? = some k ∧ k.kind = .array comp (.array .int) ∧ U.vm.findClass ("[" ++ (FieldType.array .int).toString) = some c := by
  unfold jn_AA at h
  simp only [Cond.before, Cond.holds, Cond.value, beq_iff_eq] at h
  cases hc : U.vm.findClass (FieldType.array .int).toString with
  | none => simp [hc] at h
  | some comp =>
    simp only [hc, Option.bind_some, Option.bind_eq_some_iff, Option.map_eq_some_iff] at h
    obtain ⟨c, hi, k, hk, hb⟩ := h
    obtain ⟨hlt, hp, -⟩ := Array.findIdx?_eq_some_iff_getElem.mp hi
    have hke : U.vm.classes[c] = k := by
      have := Array.getElem?_eq_getElem hlt
      rw [this] at hk
      exact Option.some.inj hk
    rw [hke] at hp
    cases hkk : k.kind with
    | array component ty =>
      rw [hkk] at hp hb
      simp only [beq_iff_eq] at hp
      simp only [Bool.and_eq_true, decide_eq_true_eq] at hb
      subst hp
      refine ⟨_, c, k, rfl, hi, hk, ?_, hb.2⟩
      rw [hkk, hb.1]
    | _ => rw [hkk] at hb; simp at hb
theorem jn_AA_moved {u U : State} (hvm : u.vm.Alike U.vm) (h : jn_AA u) : jn_AA U := by
  obtain ⟨comp, c, k, h1, h2, h3, h4, h5⟩ := jn_AA_spec h
  obtain ⟨k', hk', he⟩ := hvm.2.2 _ _ h3
  have hi : (U.vm.classes.findIdx? fun (x : Class) => match x.kind with | .array component _ => component == comp | _ => false) = some c := by
    have hbe : U.vm.bare = u.vm.bare := by first | exact hvm.bare_eq | exact hvm.bare_eq.symm
    have e1 := va_idx_bare U.vm comp
    have e2 := va_idx_bare u.vm comp
    rw [hbe] at e1
    exact (e1.symm.trans e2).trans h2
  have hkind : k'.kind = .array comp (.array .int) := by rw [he]; exact h4
  have f1 : U.vm.findClass (FieldType.array .int).toString = some comp := by rw [hvm.findClass]; exact h1
  have f2 : U.vm.findClass ("[" ++ (FieldType.array .int).toString) = some c := by rw [hvm.findClass]; exact h5
  unfold jn_AA Cond.before Cond.holds
  simp only [Cond.value]
  rw [f1, Option.bind_some]
  refine (congrArg (fun o : Option Nat => (o.bind (fun c => (U.vm.classes[c]?).map fun (k : Class) => match k.kind with | .array _ ty => decide (ty = FieldType.array .int) && decide (U.vm.findClass ("[" ++ (FieldType.array .int).toString) = some c) | _ => false) == some true)) hi).trans ?_
  simp [hk', hkind, f2]
def jn_N (U : State) : Prop := (∀ q ∈ jn_nl, va_Nw (jn_nw q) U) ∧ va_AO "DotVault$Sheet" U ∧ jn_AA U
theorem jn_N_warm {s U : State} (hW : s.WarmedH U.vm) (h : jn_N s) : jn_N U := ⟨fun q hq => va_Nw.warmM hW (h.1 q hq), va_AO.moved hW.alike h.2.1, jn_AA_moved hW.alike h.2.2⟩
theorem jn_N_same {u U : State} (hv : u.vm = U.vm) (h : jn_N u) : jn_N U := ⟨fun q hq => va_Nw.same rfl hv (h.1 q hq), va_AO.moved (by rw [hv]; exact Vm.Alike.refl _) h.2.1, jn_AA_moved (by rw [hv]; exact Vm.Alike.refl _) h.2.2⟩
-- the classes of arrays
abbrev jn_ty (ct : Nat → ClassId) : List (ClassId × FieldType) := [(ct 0, .int), (ct 1, .boolean), (ct 2, .object "DotVault$Sheet"), (ct 3, .array .int), (ct 4, .long)]
theorem jn_RA {U : State} {c1 c2 : ClassId} {ty : FieldType} (h1 : va_RA U c1 ty) (h2 : va_RA U c2 ty) : c1 = c2 := by
  cases ty with
  | object C =>
    obtain ⟨-, -, -, -, -, e1⟩ := h1
    obtain ⟨-, -, -, -, -, e2⟩ := h2
    exact Option.some.inj (e1.symm.trans e2)
  | _ => exact Option.some.inj (h1.symm.trans h2)
theorem jn_last {D : va_G} {cl : List vw_C} {tys : List (ClassId × FieldType)} {U : State} {c1 c2 : ClassId} {ty : FieldType} {t0 : Nat} (hK : va_K D cl (tys ++ [(c2, ty)]) U) (hK0 : va_K D cl tys U) (h : tys[t0]? = some (c1, ty)) : c2 = c1 :=
  jn_RA (hK.2 tys.length (c2, ty) (by simp)).2 (hK0.2 t0 _ h).2
-- two contents of an array that agree below its length
theorem jn_arrV {c : ClassId} {n : Nat} {f g : Nat → Value} (h : ∀ j, j < n → f j = g j) : arrV c n f = arrV c n g := by
  unfold arrV
  congr 1
  apply Array.ext
  · simp
  · intro i h1 h2
    simp only [Array.getElem_ofFn]
    exact h i (by simpa using h1)
theorem jn_swap {D : va_G} {cl : List vw_C} {A : Nat → Prop} {ws : va_W} {H : Heap} {k a n : Nat} {c : ClassId} {f g : Nat → Int32} (hP : va_P D cl ws H) (hD : va_D A ws) (hk : ws[k]? = some (a, .inl (c, n, .inl f))) (h : ∀ j, j < n → f j = g j) : va_P D cl (ws.set k (a, .inl (c, n, .inl g))) H ∧ va_D A (ws.set k (a, .inl (c, n, .inl g))) := by
  refine ⟨hP.set hD hk ?_ (fun _ _ => rfl), hD.set hk⟩
  have h0 : H[a]? = some (vp_cell c (n, .inl f)) := hP k _ hk
  show H[a]? = some (vp_cell c (n, .inl g))
  rw [h0, vp_cell_i, vp_cell_i, jn_arrV (fun j hj => by rw [h j hj])]
theorem jn_swapq {D : va_G} {cl : List vw_C} {A : Nat → Prop} {ws : va_W} {H : Heap} {k a n : Nat} {c : ClassId} {f g : Nat → Option Nat} (hP : va_P D cl ws H) (hD : va_D A ws) (hk : ws[k]? = some (a, .inl (c, n, .inr (.inr (.inr (.inr f)))))) (h : ∀ j, j < n → f j = g j) : va_P D cl (ws.set k (a, .inl (c, n, .inr (.inr (.inr (.inr g)))))) H ∧ va_D A (ws.set k (a, .inl (c, n, .inr (.inr (.inr (.inr g)))))) := by
  refine ⟨hP.set hD hk ?_ (fun _ _ => rfl), hD.set hk⟩
  have h0 : H[a]? = some (vp_cell c (n, .inr (.inr (.inr (.inr f))))) := hP k _ hk
  show H[a]? = some (vp_cell c (n, .inr (.inr (.inr (.inr g)))))
  rw [h0, vp_cell_q, vp_cell_q, jn_arrV (fun j hj => by rw [h j hj])]
-- a frame of a constructor
def jn_X (p : Program) (s : State) (m : MethodId) (args : Array Value) (c : Code) (D : va_G) (ct : Nat → ClassId) (A : Nat → Prop) (own : String) (cc : ByteArray) (nL : Nat) : Prop :=
  p.tables.exec = Jvm.exec ∧ c.code = cc ∧ c.maxLocals = nL ∧ s.vm.findClass own = some m.cls ∧ (∀ w ∈ jn_w, w.before args s = true) ∧ va_K D jx_cl (jn_ty ct) s ∧ (∀ q, s.heap.size ≤ q → A q) ∧ jn_N s
def jn_P (D : va_G) (ct : Nat → ClassId) (ws : va_W) (U : State) : Prop := va_P D jx_cl ws U.heap ∧ va_K D jx_cl (jn_ty ct) U ∧ va_D (fun _ => True) ws ∧ jn_N U
/-- the contract of a constructor without arguments: the object's cell as it was born; behind it the cells that B says -/
def jn_C (l : Launch) (C : String) (b : ByteArray) (mx : Nat) (rm : Room) (ci : Nat) (fs : List Value) (B : va_G → (Nat → ClassId) → Nat → va_W → Prop) : Prop :=
  ∀ (D : va_G) (ct : Nat → ClassId) (h0 sz : Nat), Met l (jn_y C) (.code (jn_y C) b mx none :: jn_w) rm (va_Pc [.ref h0] (fun U => U.heap.size = sz ∧ jn_P D ct [(h0, .inr (ci, fs))] U))
    (va_Qv (fun _ : Unit => True) (fun _ t => ∃ w1, B D ct h0 w1 ∧ va_P D jx_cl w1 t.heap ∧ va_D (va_A [(h0, .inr (ci, fs))] sz) w1) (va_A [(h0, .inr (ci, fs))] sz)) rm.cells rm.slots (va_A [(h0, .inr (ci, fs))] sz)
section JN
variable {p : Program} {l : Launch} {e : Env} {R : Room} {s : State} {m : MethodId} {args : Array Value} {below : List Frame} {meth : Method} {c : Code} {H : Heap} {locs : List Loc} {cells slots : Nat} {Q : State → Prop}
variable {D : va_G} {ct : Nat → ClassId} {A : Nat → Prop} {own : String} {cc : ByteArray} {nL : Nat} {ws : va_W} {ls : Array Slot} {rest : List Value} {pc : Nat}
theorem jn_obj (X : jn_X p s m args c D ct A own cc nL) {index a : Nat} (hw : Cond.methodLink own index objectInit ∈ jn_w) (hl : ls.size = nL) (hd : decode cc pc = .ok (.invokespecial index, 3)) (hR : 1 ≤ R.frames ∧ 12 ≤ R.locals)
    (kk : W p l e R s m args below meth c H locs cells slots Q (F0 m (pc + 3) ls [])) : W p l e R s m args below meth c H locs cells slots Q (F0 m pc ls [.ref a]) := by
  obtain ⟨hx, hb, hml, hown, hts, hK, hA, hN⟩ := X
  exact W.objInit hx hb hown (hts _ hw) (hts _ (jn_m 7 rfl)) (hts _ (jn_m 8 rfl)) rfl (by rw [hml]; exact hl) rfl hd hR.1 hR.2 (W.eq (g2 := F0 m (pc + 3) ls []) rfl kk)
theorem jn_put (X : jn_X p s m args c D ct A own cc nL) (hin : meth.name = "<init>") (hP : va_P D jx_cl ws H) (hD : va_D A ws) (hS : va_S A s.heap H locs) {a index N : Nat} {T : u_T} {ty : FieldType} {v : Value} (q0 ci k : Nat) {fs : List Value} (he : ws[q0]? = some (a, .inr (ci, fs))) (hc : jx_cl[ci]? = some (own, T, N)) (hk : k < N)
    (hw : Cond.fieldLink own index own (T k).2.1 (T k).2.2.1 ∈ jn_w) (hT : (T k).1 = own) (hd : parseFieldDescriptor (T k).2.2.1 = some ty) (hn : narrow ty v = v) (hfit : fits ty v = true) (hl : k < fs.length) (hdg : decode cc pc = .ok (.putfield index, 3))
    (kk : ∀ (H1 : Heap) (locs1 : List Loc), va_P D jx_cl (ws.set q0 (a, .inr (ci, fs.set k v))) H1 → va_D A (ws.set q0 (a, .inr (ci, fs.set k v))) → va_S A s.heap H1 locs1 → W p l e R s m args below meth c H1 locs1 cells slots Q (F0 m (pc + 3) ls rest)) : W p l e R s m args below meth c H locs cells slots Q (F0 m pc ls (v :: .ref a :: rest)) := by
  obtain ⟨hx, hb, hml, hown, hts, hK, hA, hN⟩ := X
  obtain ⟨c1, c2⟩ := jx_cl_ok hc
  cases hf : (T k).2.2.2 with
  | true => exact va_putF hx hb hts (jn_uin hc) _ c1 c2 hown hK hP hD hS q0 he hc k hk (hts _ hw) (fun x hx => by rw [hT] at hx; exact hx) hf hin hT hd hn hfit hl hdg kk
  | false => exact va_put hx hb hts (jn_uin hc) _ c1 c2 hown hK hP hD hS q0 he hc k hk (hts _ hw) (fun x hx => by rw [hT] at hx; exact hx) hf hd hn hfit hl hdg kk
theorem jn_get (X : jn_X p s m args c D ct A own cc nL) (hP : va_P D jx_cl ws H) {a index N : Nat} {T : u_T} {v : Value} (q0 ci k : Nat) {fs : List Value} (he : ws[q0]? = some (a, .inr (ci, fs))) (hc : jx_cl[ci]? = some (own, T, N)) (hk : k < N)
    (hw : Cond.fieldLink own index own (T k).2.1 (T k).2.2.1 ∈ jn_w) (hT : (T k).1 = own) (hv : fs[k]? = some v) (hdg : decode cc pc = .ok (.getfield index, 3))
    (kk : W p l e R s m args below meth c H locs cells slots Q (F0 m (pc + 3) ls (v :: rest))) : W p l e R s m args below meth c H locs cells slots Q (F0 m pc ls (.ref a :: rest)) := by
  obtain ⟨hx, hb, hml, hown, hts, hK, hA, hN⟩ := X
  exact va_get hx hb hts (jn_uin hc) hown hK hP q0 he hc k hk (hts _ hw) (fun x hx => by rw [hT] at hx; exact hx) hv hdg kk
theorem jn_newa (X : jn_X p s m args c D ct A own cc nL) (hP : va_P D jx_cl ws H) (hD : va_D A ws) (hS : va_S A s.heap H locs) {atype : ArrayType} {ty : FieldType} (hw : (Cond.arrayClass (newarray.typeOf atype)).before args s = true) (hty : newarray.typeOf atype = ty) (t0 : Nat) (ht : (jn_ty ct)[t0]? = some (ct t0, ty))
    {n : Int32} {N' : Nat} {a0 : vp_A} (ha : ∀ cA : ClassId, vp_cell cA a0 = arrV cA N' (fun _ => defaultValue ty)) (hn : ¬ n < 0) (hN : n.toNatClampNeg = N') (hbytes : N' * componentBytes ty ≤ 536870912) (hcells : cells + 1 ≤ R.cells) (hslots : slots + N' ≤ R.slots) (hdg : decode cc pc = .ok (.newarray atype, 2))
    (kk : ∀ (q : Nat) (H1 : Heap), va_P D jx_cl (ws ++ [(q, .inl (ct t0, a0))]) H1 → va_D A (ws ++ [(q, .inl (ct t0, a0))]) → va_S A s.heap H1 locs →
      W p l e R s m args below meth c H1 locs (cells + 1) (slots + N') Q (F0 m (pc + 2) ls (.ref q :: rest))) : W p l e R s m args below meth c H locs cells slots Q (F0 m pc ls (.int n :: rest)) := by
  obtain ⟨hx, hb, hml, hown, hts, hK, hA, hNN⟩ := X
  refine va_newa hx hb hw hty hK hP hD hS hA ha hn hN hbytes hcells hslots hdg (fun q cA H1 k1 p1 d1 s1 => ?_)
  have := jn_last k1 hK ht
  subst this
  exact kk q H1 p1 d1 s1
theorem jn_newq (X : jn_X p s m args c D ct A own cc nL) (hP : va_P D jx_cl ws H) (hD : va_D A ws) (hS : va_S A s.heap H locs) {index : Nat} (hw : Cond.classLink own index "DotVault$Sheet" ∈ jn_w)
    {n : Int32} {N' : Nat} (hn : ¬ n < 0) (hN : n.toNatClampNeg = N') (hbytes : N' * 4 ≤ 536870912) (hcells : cells + 1 ≤ R.cells) (hslots : slots + N' ≤ R.slots) (hdg : decode cc pc = .ok (.anewarray index, 3))
    (kk : ∀ (q : Nat) (H1 : Heap), va_P D jx_cl (ws ++ [(q, .inl (ct 2, N', .inr (.inr (.inr (.inr (fun _ => none))))))]) H1 → va_D A (ws ++ [(q, .inl (ct 2, N', .inr (.inr (.inr (.inr (fun _ => none))))))]) → va_S A s.heap H1 locs →
      W p l e R s m args below meth c H1 locs (cells + 1) (slots + N') Q (F0 m (pc + 3) ls (.ref q :: rest))) : W p l e R s m args below meth c H locs cells slots Q (F0 m pc ls (.int n :: rest)) := by
  obtain ⟨hx, hb, hml, hown, hts, hK, hA, hNN⟩ := X
  refine va_newq hx hb hown (hts _ hw) hNN.2.1 hK hP hD hS hA hn hN hbytes hcells hslots hdg (fun q cA H1 k1 p1 d1 s1 => ?_)
  have := jn_last k1 hK (t0 := 2) (c1 := ct 2) rfl
  subst this
  exact kk q H1 p1 d1 s1
theorem jn_range (ws : va_W) (x : Nat × va_E) : (List.range ws.length).map (fun i => (ws ++ [x])[i]?) = ws.map some := by
  apply List.ext_getElem?
  intro i
  rw [List.getElem?_map, List.getElem?_map]
  by_cases h : i < ws.length
  · rw [List.getElem?_range h, Option.map_some, List.getElem?_append_left h, List.getElem?_eq_getElem h, Option.map_some]
  · rw [List.getElem?_eq_none (by simpa using h), List.getElem?_eq_none (by omega)]
    rfl
theorem jn_nd (l : List Nat) (h : l.Nodup) : va_nd l = true := by
  induction l with
  | nil => rfl
  | cons a t ih =>
    rw [List.nodup_cons] at h
    simp [va_nd, ih h.2, h.1]
theorem jn_pre (X : jn_X p s m args c D ct A own cc nL) {ci a : Nat} {fs : List Value} (hP : va_P D jx_cl (ws ++ [(a, .inr (ci, fs))]) H) (hD : va_D A (ws ++ [(a, .inr (ci, fs))])) : PreS s H (va_Pc [.ref a] (fun U => U.heap.size = H.size ∧ jn_P D ct [(a, .inr (ci, fs))] U)) [.ref a] := by
  obtain ⟨hx, hb, hml, hown, hts, hK, hA, hN⟩ := X
  have hat : (ws ++ [(a, (Sum.inr (ci, fs) : va_E))])[ws.length]? = some (a, .inr (ci, fs)) := by simp
  refine ⟨fun a' U g mk q => ?_, fun U hU hW => ⟨rfl, by rw [hU], ?_, va_K.moved hW.alike hK, ?_, jn_N_warm hW hN⟩⟩
  · obtain ⟨q0, q1, qP, qK, qD, qN⟩ := q
    exact ⟨q0, q1, qP, va_K.moved (u := U) (U := U.calling g mk a') (Vm.Alike.refl U.vm) qK, qD, jn_N_same (u := U) (U := U.calling g mk a') rfl qN⟩
  · rw [hU]
    intro k q hk
    have hz : k < 1 := (List.getElem?_eq_some_iff.mp hk).1
    rw [show k = 0 by omega] at hk
    cases hk
    exact hP _ _ hat
  · refine ⟨fun i j x y hi hj _ => ?_, fun _ _ _ => trivial⟩
    have h1 : i < 1 := (List.getElem?_eq_some_iff.mp hi).1
    have h2 : j < 1 := (List.getElem?_eq_some_iff.mp hj).1
    omega
/-- behind a constructor's call -/
theorem jn_back (X : jn_X p s m args c D ct A own cc nL) {ci a mc ms : Nat} {fs : List Value} {B : va_W → Prop} {arr : Array Value} {st0 : List Value} (hP : va_P D jx_cl (ws ++ [(a, .inr (ci, fs))]) H) (hD : va_D A (ws ++ [(a, .inr (ci, fs))])) (hS : va_S A s.heap H locs)
    (hr : va_Run p l e R s m args below meth c H locs cells slots mc ms (F0 m pc ls st0) rest (va_Qv (fun _ : Unit => True) (fun _ t => ∃ w1, B w1 ∧ va_P D jx_cl w1 t.heap ∧ va_D (va_A [(a, .inr (ci, fs))] H.size) w1) (va_A [(a, .inr (ci, fs))] H.size) arr) (va_A [(a, .inr (ci, fs))] H.size))
    (kk : ∀ (w1 : va_W) (H1 : Heap) (locs1 : List Loc), B w1 → va_P D jx_cl (ws ++ w1) H1 → va_D A (ws ++ w1) → va_S A s.heap H1 locs1 → W p l e R s m args below meth c H1 locs1 (cells + mc) (slots + ms) Q (F0 m (pc + 3) ls rest)) : W p l e R s m args below meth c H locs cells slots Q (F0 m pc ls st0) := by
  obtain ⟨hx, hb, hml, hown, hts, hK, hA, hN⟩ := X
  have hC : [ws.length].map (fun i => (ws ++ [(a, (Sum.inr (ci, fs) : va_E))])[i]?) = [(a, (Sum.inr (ci, fs) : va_E))].map some := by simp
  have hF := va_free (wc := [(a, .inr (ci, fs))]) hD hS hA [ws.length] hC
  refine va_callv hr hS (fun q _ h => hF q h) hF (fun u t H1 locs1 ht hvm _ hB hz1 hk1 hS1 => ?_)
  obtain ⟨w1, b1, p1, d1⟩ := hB
  rw [ht] at p1
  obtain ⟨hP2, hD2⟩ := va_join (wr := ws) (w1 := w1) hP hD [ws.length] (List.range ws.length) hC (jn_range ws _) (jn_nd _ List.nodup_range) (fun i hi => by rw [List.mem_range] at hi; simp; omega) hk1 hF p1 d1
  exact kk w1 H1 locs1 b1 hP2 hD2 hS1
/-- new C; dup; C's constructor, a mate of the nest -/
theorem jn_mk (X : jn_X p s m args c D ct A own cc nL) {C : String} {b : ByteArray} {mx ci N i1 i2 : Nat} {T : u_T} {rm : Room} {fs : List Value} {B : va_G → (Nat → ClassId) → Nat → va_W → Prop} (hM : jn_C l C b mx rm ci fs B) (hP : va_P D jx_cl ws H) (hD : va_D A ws) (hS : va_S A s.heap H locs) (hc : jx_cl[ci]? = some (C, T, N))
    (hl : ls.size = nL) (hw : Cond.classLink own i1 C ∈ jn_w ∧ Cond.instantiable C N ∈ jn_w ∧ Cond.initialized C ∈ jn_w ∧ Cond.instanceMethod (jn_y C) ∈ jn_w ∧ Cond.code (jn_y C) b mx none ∈ jn_w) (hq : (own, i2, C) ∈ jn_nl) (hC : C ≠ "java/lang/invoke/MethodHandle" ∧ C ≠ "java/lang/invoke/VarHandle")
    (hfs : ∀ j, j < N → defaultValue ((parseFieldDescriptor (T j).2.2.1).getD .int) = vp_V fs j) (hcat : (rest.map fun v => v.category).sum ≤ 6) (hR : rm.frames + 1 ≤ R.frames ∧ 19 + mx + rm.locals ≤ R.locals) (hf : cells + 1 + rm.cells ≤ R.cells ∧ slots + N + rm.slots ≤ R.slots)
    (hd1 : decode cc pc = .ok (.new i1, 3)) (hd2 : decode cc (pc + 3) = .ok (.dup, 1)) (hd3 : decode cc (pc + 3 + 1) = .ok (.invokespecial i2, 3))
    (kk : ∀ (q : Nat) (w1 : va_W) (H1 : Heap) (locs1 : List Loc), B D ct q w1 → va_P D jx_cl (ws ++ w1) H1 → va_D A (ws ++ w1) → va_S A s.heap H1 locs1 → W p l e R s m args below meth c H1 locs1 (cells + 1 + rm.cells) (slots + N + rm.slots) Q (F0 m (pc + 3 + 1 + 3) ls (.ref q :: rest))) : W p l e R s m args below meth c H locs cells slots Q (F0 m pc ls rest) := by
  have X0 := X
  obtain ⟨hx, hb, hml, hown, hts, hK, hA, hN⟩ := X
  obtain ⟨c1, c2⟩ := jx_cl_ok hc
  obtain ⟨w1, w2, w3, w4, w5⟩ := hw
  refine va_new hx hb hts (jn_uin hc) _ c1 hown (hts _ w1) (hts _ w2) (hts _ w3) hK hP hD hS hA hc hfs (by omega) (by omega) hd1 (fun q H1 p1 d1 s1 => ?_)
  refine lv_dup hx hb hd2 rfl ?_
  have hcn : va_CN R s args own i2 (jn_y C) "DotVault" b mx none (.code (jn_y C) b mx none :: jn_w) rm rm.cells rm.slots 0 := va_cnB 0 hts (jn_gi w5) rfl rfl rfl (hN.1 _ hq) (hts _ w3) ⟨hC.1, hC.2, by show (parseMethodDescriptor "()V").map _ = _; decide +kernel⟩ ⟨hR.1, by omega⟩
  refine jn_back X0 (B := B D ct q) p1 d1 s1 (va_runIN (As := []) (rest := .ref q :: rest) ⟨hx, hb, hml, hown, hts⟩ (hM D ct q H1.size) ⟨hcn, rfl, hts _ w4⟩ (jn_pre X0 p1 d1) rfl rfl hl rfl ?_ hd3 hf) (fun w9 H9 locs9 b9 p9 d9 s9 => kk q w9 H9 locs9 b9 p9 d9 s9)
  exact lv_room (by simp only [List.map_cons, List.sum_cons]; show 1 + _ ≤ 8; omega)
/-- new C; dup; C's constructor, by a plain link -/
theorem jn_mk2 (X : jn_X p s m args c D ct A own cc nL) {C : String} {b : ByteArray} {mx ci N i1 i2 : Nat} {T : u_T} {rm : Room} {fs : List Value} {B : va_G → (Nat → ClassId) → Nat → va_W → Prop} (hM : jn_C l C b mx rm ci fs B) (hP : va_P D jx_cl ws H) (hD : va_D A ws) (hS : va_S A s.heap H locs) (hc : jx_cl[ci]? = some (C, T, N))
    (hl : ls.size = nL) (hw : (Cond.classLink own i1 C).before args s = true ∧ Cond.instantiable C N ∈ jn_w ∧ Cond.initialized C ∈ jn_w ∧ Cond.instanceMethod (jn_y C) ∈ jn_w ∧ Cond.code (jn_y C) b mx none ∈ jn_w) (hq : (Cond.methodLink own i2 (jn_y C)).before args s = true) (hC : C ≠ "java/lang/invoke/MethodHandle" ∧ C ≠ "java/lang/invoke/VarHandle")
    (hfs : ∀ j, j < N → defaultValue ((parseFieldDescriptor (T j).2.2.1).getD .int) = vp_V fs j) (hcat : (rest.map fun v => v.category).sum ≤ 6) (hR : rm.frames + 1 ≤ R.frames ∧ 19 + mx + rm.locals ≤ R.locals) (hf : cells + 1 + rm.cells ≤ R.cells ∧ slots + N + rm.slots ≤ R.slots)
    (hd1 : decode cc pc = .ok (.new i1, 3)) (hd2 : decode cc (pc + 3) = .ok (.dup, 1)) (hd3 : decode cc (pc + 3 + 1) = .ok (.invokespecial i2, 3))
    (kk : ∀ (q : Nat) (w1 : va_W) (H1 : Heap) (locs1 : List Loc), B D ct q w1 → va_P D jx_cl (ws ++ w1) H1 → va_D A (ws ++ w1) → va_S A s.heap H1 locs1 → W p l e R s m args below meth c H1 locs1 (cells + 1 + rm.cells) (slots + N + rm.slots) Q (F0 m (pc + 3 + 1 + 3) ls (.ref q :: rest))) : W p l e R s m args below meth c H locs cells slots Q (F0 m pc ls rest) := by
  have X0 := X
  obtain ⟨hx, hb, hml, hown, hts, hK, hA, hN⟩ := X
  obtain ⟨c1, c2⟩ := jx_cl_ok hc
  obtain ⟨w1, w2, w3, w4, w5⟩ := hw
  refine va_new hx hb hts (jn_uin hc) _ c1 hown w1 (hts _ w2) (hts _ w3) hK hP hD hS hA hc hfs (by omega) (by omega) hd1 (fun q H1 p1 d1 s1 => ?_)
  refine lv_dup hx hb hd2 rfl ?_
  refine jn_back X0 (B := B D ct q) p1 d1 s1 (va_runI (As := []) (rest := .ref q :: rest) ⟨hx, hb, hml, hown, hts⟩ (hM D ct q H1.size) (cwI 0 hts (jn_gi w5) rfl rfl rfl (hts _ w3) hq (hts _ w4) rfl ⟨hC.1, hC.2, by show (parseMethodDescriptor "()V").map _ = _; decide +kernel⟩ ⟨hR.1, by omega⟩) (jn_pre X0 p1 d1) rfl rfl hl rfl ?_ hd3 hf) (fun w9 H9 locs9 b9 p9 d9 s9 => kk q w9 H9 locs9 b9 p9 d9 s9)
  exact lv_room (by simp only [List.map_cons, List.sum_cons]; show 1 + _ ≤ 8; omega)
end JN
set_option maxHeartbeats 1000000 in
/-- a constructor's contract by its walk -/
theorem jn_by {l : Launch} {C : String} {b : ByteArray} {mx : Nat} {rm : Room} {ci : Nat} {fs : List Value} {B : va_G → (Nat → ClassId) → Nat → va_W → Prop} (hmx : 1 ≤ mx) (hpl : plainName C = true)
    (body : ∀ (D : va_G) (ct : Nat → ClassId) (h0 : Nat) (p : Program) (e : Env) (s : State) (m : MethodId) (args : Array Value) (below : List Frame) (meth : Method) (c : Code) (A : Nat → Prop) (Q : State → Prop) (ls : Array Slot), jn_X p s m args c D ct A C b mx → meth.name = "<init>" → lv_has ls mx [(0, .ref h0)] → va_P D jx_cl [(h0, .inr (ci, fs))] s.heap → va_D A [(h0, .inr (ci, fs))] → va_S A s.heap s.heap [] →
      (∀ (H : Heap) (locs : List Loc) (w1 : va_W) (ls : Array Slot) (pc : Nat), B D ct h0 w1 → va_P D jx_cl w1 H → va_D A w1 → va_S A s.heap H locs → decode b pc = .ok (.return_, 1) → W p l e rm s m args below meth c H locs rm.cells rm.slots Q (F0 m pc ls [])) →
      W p l e rm s m args below meth c s.heap [] 0 0 Q (F0 m 0 ls [])) : jn_C l C b mx rm ci fs B := by
  intro D ct h0 sz
  refine Met.ofW (cc := b) (maxL := mx) (ret := none) hpl rfl ?_
  intro p e s m args below meth c s₁ BB hml hv
  obtain ⟨rfl, hsz, hP, hK, hD0, hN⟩ := hv
  subst hsz
  have hD := hD0.self (sz := s.heap.size)
  have hin : meth.name = "<init>" := (name_of_methodNamed BB.named BB.method).1
  have hA : ∀ q, s.heap.size ≤ q → va_A [(h0, .inr (ci, fs))] s.heap.size q := fun q h => Or.inr h
  have X : jn_X p s m [Value.ref h0].toArray c D ct (va_A [(h0, .inr (ci, fs))] s.heap.size) C b mx := ⟨BB.exec, BB.bytes, hml, findClass_of_methodNamed BB.named, fun w hw => atoms_spec (ws := .code (jn_y C) b mx none :: jn_w) BB.pre w (List.mem_cons_of_mem _ hw), hK, hA, hN⟩
  have hr := BB.returns
  have hlocks := BB.notSynchronized
  have hl := lv_entry ([.ref h0]) (n := mx) hmx
  rw [lg_entry_eq]
  generalize (lg_sl ([.ref h0]) ++ List.replicate (mx - (lg_sl ([.ref h0])).length) Slot.unset).toArray = ls at hl ⊢
  refine body D ct h0 p e s m _ below meth c _ _ ls X hin hl hP hD va_S.rf (fun H locs w1 ls pc hB hP1 hD1 hS hd => ?_)
  exact W.vret BB.exec BB.bytes hr (fun t ht hW => ⟨⟨(), rfl, trivial, w1, hB, by rw [ht]; exact hP1, hD1⟩, hS.F ht⟩) hS.2.2 hd
section JN2
variable {p : Program} {l : Launch} {e : Env} {R : Room} {s : State} {m : MethodId} {args : Array Value} {below : List Frame} {meth : Method} {c : Code} {H : Heap} {locs : List Loc} {cells slots : Nat} {Q : State → Prop}
variable {D : va_G} {ct : Nat → ClassId} {A : Nat → Prop} {own : String} {cc : ByteArray} {nL : Nat} {ws : va_W} {ls : Array Slot} {rest : List Value} {pc : Nat}
theorem jn_rows (r : Nat → Nat) (f : Nat → va_E) (v : va_E) : va_pl ([] ++ (List.range 6).map r) (vr_up f ((List.range 6).map r) v) = [(r 0, v), (r 1, v), (r 2, v), (r 3, v), (r 4, v), (r 5, v)] := by
  have h6 : List.range 6 = [0, 1, 2, 3, 4, 5] := by decide
  rw [h6]
  simp [va_pl, vr_up]
theorem jn_mna (X : jn_X p s m args c D ct A own cc nL) (hP : va_P D jx_cl ws H) (hD : va_D A ws) (hS : va_S A s.heap H locs) {index : Nat} (hw : Cond.classLink own index "[[I" ∈ jn_w) (hcells : cells + 7 ≤ R.cells) (hslots : slots + 246 ≤ R.slots) (hdg : decode cc pc = .ok (.multianewarray index 2, 4))
    (kk : ∀ (q : Nat) (r : Nat → Nat) (H1 : Heap), va_P D jx_cl (ws ++ [(q, .inl (ct 3, 6, .inr (.inr (.inr (.inr (fun i => some (r i))))))), (r 0, .inl (ct 0, 40, .inl (fun _ => 0))), (r 1, .inl (ct 0, 40, .inl (fun _ => 0))), (r 2, .inl (ct 0, 40, .inl (fun _ => 0))), (r 3, .inl (ct 0, 40, .inl (fun _ => 0))), (r 4, .inl (ct 0, 40, .inl (fun _ => 0))), (r 5, .inl (ct 0, 40, .inl (fun _ => 0)))]) H1 →
      va_D A (ws ++ [(q, .inl (ct 3, 6, .inr (.inr (.inr (.inr (fun i => some (r i))))))), (r 0, .inl (ct 0, 40, .inl (fun _ => 0))), (r 1, .inl (ct 0, 40, .inl (fun _ => 0))), (r 2, .inl (ct 0, 40, .inl (fun _ => 0))), (r 3, .inl (ct 0, 40, .inl (fun _ => 0))), (r 4, .inl (ct 0, 40, .inl (fun _ => 0))), (r 5, .inl (ct 0, 40, .inl (fun _ => 0)))]) → va_S A s.heap H1 locs →
      W p l e R s m args below meth c H1 locs (cells + 7) (slots + 246) Q (F0 m (pc + 4) ls (.ref q :: rest))) : W p l e R s m args below meth c H locs cells slots Q (F0 m pc ls (.int 40 :: .int 6 :: rest)) := by
  obtain ⟨hx, hb, hml, hown, hts, hK, hA, hNN⟩ := X
  have hcl : (Cond.classLink own index ("[" ++ (FieldType.array .int).toString)).before args s = true := by
    rw [show "[" ++ (FieldType.array .int).toString = "[[I" by decide +kernel]
    exact hts _ hw
  have hcy : s.vm.findClass (FieldType.array .int).toString = some (ct 0) := (hK.2 0 (ct 0, .int) rfl).2
  have hP0 : va_P D jx_cl (ws ++ va_pl [] (fun _ => (Sum.inr (0, []) : va_E))) H := by simpa [va_pl] using hP
  have hD0 : va_D A (ws ++ va_pl [] (fun _ => (Sum.inr (0, []) : va_E))) := by simpa [va_pl] using hD
  refine va_mna (ty := .int) (cy := ct 0) (z := (40, .inl (fun _ => 0))) hx hb hown hcl hNN.2.2 (hts _ (jn_m 9 rfl)) hcy hK hP0 hD0 hS hA (by decide) (by decide) (N' := 6) (K' := 40) (by decide) (by decide) (by decide) (by decide) (by decide) rfl rfl (by omega) (by omega) (fun c9 => ?_) hdg (fun q r cA H1 _ _ k1 p1 d1 s1 => ?_)
  · exact arrV_new c9 40 (.int 0)
  · have := jn_last k1 hK (t0 := 3) (c1 := ct 3) rfl
    subst this
    rw [jn_rows] at p1 d1
    have hat : ((ws ++ [(q, (.inl (ct 3, 6, .inr (.inr (.inr (.inr (fun i => if i < 6 then some (r i) else none))))) : va_E))]) ++ [(r 0, .inl (ct 0, 40, .inl (fun _ => 0))), (r 1, .inl (ct 0, 40, .inl (fun _ => 0))), (r 2, .inl (ct 0, 40, .inl (fun _ => 0))), (r 3, .inl (ct 0, 40, .inl (fun _ => 0))), (r 4, .inl (ct 0, 40, .inl (fun _ => 0))), (r 5, .inl (ct 0, 40, .inl (fun _ => 0)))])[ws.length]? = some (q, .inl (ct 3, 6, .inr (.inr (.inr (.inr (fun i => if i < 6 then some (r i) else none)))))) := by simp
    obtain ⟨p2, d2⟩ := jn_swapq (g := fun i => some (r i)) p1 d1 hat (fun j hj => by rw [if_pos hj])
    simp only [List.append_assoc, List.cons_append, List.nil_append, List.set_append_right _ _ (Nat.le_refl _), Nat.sub_self, List.set_cons_zero] at p2 d2
    exact W.widen (by omega) (by omega) (kk q r H1 p2 d2 s1)
end JN2
