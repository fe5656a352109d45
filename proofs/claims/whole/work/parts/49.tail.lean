/-! The law from its byte 20 on, the world given. First the skeleton's own definitions. -/
def R_law : String := "DotVaultLaw"
def lw_P (b : Addr) (xs : List Int32) (args : Array Value) (s : State) : Prop := args = #[.ref b] ∧ s.IntsAt b xs ∧ xs.length ≤ 3584 ∧ (Jvm.Cond.and given_1 narrow_1).before args s = true
def lw_Q (_ : Array Value) (s : State) (o : Outcome) (t : State) : Prop := o = .returned (some (.int 1)) ∧ Framed s o t [] 601024 7293034
def lw_Z (below : List Frame) (a : Array Value) (s : State) : State → Prop := fun t => ∃ o, t.status = .running ∧ Ended t below o ∧ lw_Q a s o t
/-- the law's own end, with 1 on the stack, nothing written that was there before, its room as the claim has it -/
theorem lw_ret {p : Program} {l : Launch} {e : Env} {s : State} {m : MethodId} {below : List Frame} {meth : Method} {c : Code} {b : Nat} (hx : p.tables.exec = Jvm.exec) (hb : c.code = code) (hr : meth.sig.returnType = ret) (hlocks : meth.locks = false) {pc : Nat} {H : Heap} {ls : Array Slot} (hdg : decode code pc = .ok (.ireturn, 1)) : W p l e room_1 s m #[Value.ref b] below meth c H [] 601024 7293034 (lw_Z below #[Value.ref b] s) (F0 m pc ls [.int 1]) := by
  intro T hT X
  obtain ⟨fs, hret, hrun, hended, hW, hframe⟩ := X.leave (v := some (.int 1)) (hlocks := hlocks) (fun h => by rw [hr] at h; cases h)
  have hmeth' : T.vm.method? m = some meth := X.method'
  refine ⟨T.setFrames fs, ?_, .returned (some (.int 1)), hrun, hended, rfl, ⟨_, rfl⟩, hW, hframe⟩
  jvm_step X.here [X.here.top, hx, hb, hdg, hmeth', hr, ret, narrow_b1]
  (try refine ⟨rfl, ?_⟩); (try refine ⟨rfl, ?_⟩)
  first | (intro acts; rw [hret _ acts rfl rfl rfl]) | rw [hret _ _ rfl rfl rfl]
  exact Steps.refl _
/-- what holds at the law's entry: the machine, the code, the tables' words (any of lw_tbl by 'hts w (by decide +kernel)'), the script of L ints xs at the cell b, what the Statement gives of the start (any of its parts by flat_of_before) -/
def lw_At (p : Program) (s : State) (m : MethodId) (meth : Method) (c : Code) (b L : Nat) (xs : Nat → Int32) : Prop :=
  p.tables.exec = Jvm.exec ∧ c.code = code ∧ meth.sig.returnType = ret ∧ c.maxLocals = 7 ∧ s.vm.findClass R_law = some m.cls ∧ (∀ w ∈ lw_tbl, w.before #[Value.ref b] s = true) ∧ va_X b L xs s s.heap ∧ b < s.heap.size ∧ meth.locks = false ∧ (Jvm.Cond.and given_1 narrow_1).before #[Value.ref b] s = true
theorem jw_dc1 : decode code 754 = .ok (.iconst 1, 1) := by decide +kernel
theorem jw_dc2 : decode code 755 = .ok (.ireturn, 1) := by decide +kernel
theorem jw_all : ∀ w ∈ jx_all, w ∈ lw_tbl := fun w hw => jz_all w (List.mem_append_left _ (List.mem_append_left _ hw))
set_option maxHeartbeats 4000000 in
theorem jw_tail {p : Program} {l : Launch} {e : Env} {s : State} {m : MethodId} {below : List Frame} {meth : Method} {c : Code} {b L : Nat} {xs : Nat → Int32} (hL : L ≤ 3584) (C0 : lw_At p s m meth c b L xs) (hst : l.stackTraces = false) {G : jxG} (h34 : G.2.2 34 0 = b) (hSF : jx_SF G (fun q => s.heap.size ≤ q) s s.heap) (hK : va_K G.1 jx_cl (jx_ty G) s) (hD : va_D (fun q => s.heap.size ≤ q) (jx_ws G h00))
    {H : Heap} {locs : List Loc} {la : Array Slot} (hl : lv_has la 7 [(3, .ref (G.2.2 33 0)), (2, .ref (G.2.2 20 0)), (1, .ref (G.2.2 0 0)), (0, .ref (G.2.2 34 0))]) (hP : va_P G.1 jx_cl (jx_ws G h00) H) (hS : va_S (fun q => s.heap.size ≤ q) s.heap H locs) : W p l e room_1 s m #[Value.ref b] below meth c H locs 53 3802 (lw_Z below #[Value.ref b] s) (F0 m 20 la []) := by
  obtain ⟨hx, hb, hr, hml, hown, hts, hscr, hbl, hlk, hgv⟩ := C0
  have XX : ∀ n, n ≤ 600 → jx_X p room_1 s m #[Value.ref b] meth c G (fun q => s.heap.size ≤ q) 121 (53 + n) (3802 + 6 * n) := by
    intro n hn
    refine ⟨hx, hb, hml, hown, fun w hw => hts w (jw_all w hw), hK, fun h => jx_D_any hD, hSF, fun h sz q hsz hq => ?_, hr, hlk, by decide, by decide, by decide, ?_, ?_⟩
    · rcases hq with ⟨k, e9, hk⟩ | hq
      · exact (jx_D_any (h' := h) hD).2 k _ hk
      · exact Nat.le_trans hsz hq
    · show 53 + n ≤ 601024
      omega
    · show 3802 + 6 * n ≤ 7293034
      omega
  have rule : ∀ (cut : Nat → Bool) (f n pc : Nat) (ls : jxL) (st : List jxV) (h : jxH), n ≤ 600 → jl_blk (L, xs) cut (fun n => jx_V p l e room_1 s m #[Value.ref b] below meth c G (fun q => s.heap.size ≤ q) 121 (53 + n) (3802 + 6 * n) (lw_Z below #[Value.ref b] s)) f n pc ls st h → jx_V p l e room_1 s m #[Value.ref b] below meth c G (fun q => s.heap.size ≤ q) 121 (53 + n) (3802 + 6 * n) (lw_Z below #[Value.ref b] s) pc ls st h := by
    intro cut f n pc ls st h hn hb2
    exact jl_blk_ok (SL := (L, xs)) XX (fun w hw => hts w (jz_all w hw)) (ja_XS hts hgv) hst (by rw [h34]; exact hscr) (by rw [h34]; exact hbl) (by rw [h34]; exact Nat.not_le.mpr hbl) (Nat.lt_of_le_of_lt hL (by decide)) (by decide) (by decide) cut f n pc ls st h hn hb2
  have fin : ∀ (n : Nat) (ls : jxL) (h : jxH), n ≤ 512 → ls.length = 7 → jx_V p l e room_1 s m #[Value.ref b] below meth c G (fun q => s.heap.size ≤ q) 121 (53 + n) (3802 + 6 * n) (lw_Z below #[Value.ref b] s) 754 ls [] h := by
    intro n ls h hn _ H locs la _ _ _ hP hS
    refine lv_iconst (v := 1) hx hb jw_dc1 (by decide) ?_
    refine va_forget (fun q hq => hS.2.2 q hq) ?_
    refine W.widen (k := 601024) (n := 7293034) (by omega) (by omega) ?_
    exact lw_ret hx hb hr hlk jw_dc2
  have hV : jx_V p l e room_1 s m #[Value.ref b] below meth c G (fun q => s.heap.size ≤ q) 121 (53 + 0) (3802 + 6 * 0) (lw_Z below #[Value.ref b] s) 20 [some (jR 34 0), some (jR 0 0), some (jR 20 0), some (jR 33 0), none, none, none] [] h00 := by
    refine rule (Nat.beq 23) 5 0 20 _ _ _ (Nat.zero_le _) ?_
    exact jl_loop (SL := (L, xs)) (V := fun n => jx_V p l e room_1 s m #[Value.ref b] below meth c G (fun q => s.heap.size ≤ q) 121 (53 + n) (3802 + 6 * n) (lw_Z below #[Value.ref b] s)) rule hL fin 0 (Nat.zero_le _) 0 none none h00 (Nat.le_refl 0) REL_0
  refine hV H locs la ⟨by decide, _, hl, ?_⟩ (fun v hv => by cases hv) ?_ hP hS
  · intro j v hj
    match j, hj with
    | 0, hj => cases hj; exact ⟨by simp [jx_cv], trivial⟩
    | 1, hj => cases hj; exact ⟨by simp [jx_cv], trivial⟩
    | 2, hj => cases hj; exact ⟨by simp [jx_cv], trivial⟩
    | 3, hj => cases hj; exact ⟨by simp [jx_cv], trivial⟩
    | 4, hj => cases hj
    | 5, hj => cases hj
    | 6, hj => cases hj
    | j + 7, hj => simp at hj
  · intro j v hj
    match j, hj with
    | 0, hj => cases hj; exact (by decide : (0 : Nat) < jx_ct 34)
    | 1, hj => cases hj; exact (by decide : (0 : Nat) < jx_ct 0)
    | 2, hj => cases hj; exact (by decide : (0 : Nat) < jx_ct 20)
    | 3, hj => cases hj; exact (by decide : (0 : Nat) < jx_ct 33)
    | 4, hj => cases hj
    | 5, hj => cases hj
    | 6, hj => cases hj
    | j + 7, hj => simp at hj
