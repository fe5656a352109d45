/-! The pure machine is sound: jx_op gives W. -/
def jx_V (p : Program) (l : Launch) (e : Env) (R : Room) (s : State) (m : MethodId) (args : Array Value) (below : List Frame) (meth : Method) (c : Code) (G : jxG) (A : Nat → Prop) (κ cs ss : Nat) (Qf : State → Prop) (pc : Nat) (ls : jxL) (st : List jxV) (h : jxH) : Prop :=
  ∀ (H : Heap) (locs : List Loc) (la : Array Slot), jx_lo G la (jx_mx κ) ls → (∀ v ∈ st, jx_ok v) → (∀ (j : Nat) (v : jxV), ls[j]? = some (some v) → jx_ok v) → va_P G.1 jx_cl (jx_ws G h) H → va_S A s.heap H locs → W p l e R s m args below meth c H locs cs ss Qf (F0 m pc la (st.map (jx_cv G)))
/-- what stands throughout a walk of method κ -/
def jx_X (p : Program) (R : Room) (s : State) (m : MethodId) (args : Array Value) (meth : Method) (c : Code) (G : jxG) (A : Nat → Prop) (κ cs ss : Nat) : Prop :=
  p.tables.exec = Jvm.exec ∧ c.code = jx_cd κ ∧ c.maxLocals = jx_mx κ ∧ s.vm.findClass (jx_cn (jx_ow κ)) = some m.cls ∧ (∀ w ∈ jx_all, w.before args s = true) ∧ va_K G.1 jx_cl (jx_ty G) s ∧ (∀ h, va_D A (jx_ws G h)) ∧ jx_SF G A s s.heap ∧ (∀ h sz q, s.heap.size ≤ sz → va_A (jx_ws G h) sz q → A q) ∧ meth.sig.returnType = jx_rt κ ∧ meth.locks = false ∧ κ < jx_nt ∧ jx_dp κ ≤ R.frames ∧ jx_lc κ ≤ R.locals ∧ cs ≤ R.cells ∧ ss ≤ R.slots
theorem jx_cats (G : jxG) : ∀ st : List jxV, ((st.map (jx_cv G)).map fun v => v.category).sum = jx_wg st
  | [] => rfl
  | .inl x :: st => by
    show (1 : Nat) + ((st.map (jx_cv G)).map fun v => v.category).sum = jx_wg st + 1
    rw [jx_cats G st]
    exact Nat.add_comm _ _
  | .inr (.inl r) :: st => by
    show (1 : Nat) + ((st.map (jx_cv G)).map fun v => v.category).sum = jx_wg st + 1
    rw [jx_cats G st]
    exact Nat.add_comm _ _
  | .inr (.inr x) :: st => by
    show (2 : Nat) + ((st.map (jx_cv G)).map fun v => v.category).sum = jx_wg st + 2
    rw [jx_cats G st]
    exact Nat.add_comm _ _
theorem jx_good {κ' : Nat} (h : κ' < jx_nn) : GoodIn jx_all (jx_wd κ') := by
  intro w hw
  rcases List.mem_cons.mp hw with rfl | h1
  · exact ⟨jx_code_in h, Or.inl rfl⟩
  · exact ⟨h1, jx_all_good w h1⟩
theorem jx_Wmono {p : Program} {l : Launch} {e : Env} {R : Room} {s : State} {m : MethodId} {args : Array Value} {below : List Frame} {meth : Method} {c : Code} {H : Heap} {locs : List Loc} {cells slots : Nat} {Q Q' : State → Prop} {g : JFrame} (h : ∀ t, Q t → Q' t) (k : W p l e R s m args below meth c H locs cells slots Q g) : W p l e R s m args below meth c H locs cells slots Q' g := by
  intro T hT X
  obtain ⟨t, a, b⟩ := k T hT X
  exact ⟨t, a, h t b⟩
theorem jx_aald {p : Program} {l : Launch} {e : Env} {R : Room} {s : State} {m : MethodId} {args : Array Value} {below : List Frame} {meth : Method} {c : Code} {H : Heap} {locs : List Loc} {cells slots : Nat} {Q : State → Prop} {cc : ByteArray} {pc : Nat} {la : Array Slot} {rest : List Value} {D : va_G} {cl : List vw_C} {ws : va_W} {q0 a n : Nat} {cA : ClassId} {f : Nat → Option Nat} {ty : FieldType} {i : Int32}
    (hx : p.tables.exec = Jvm.exec) (hb : c.code = cc) (hat : ws[q0]? = some (a, .inl (cA, n, .inr (.inr (.inr (.inr f)))))) (hP : va_P D cl ws H) (harr : s.isArrayOf (arrV cA n (fun j => va_rf (f j))) ty) (hty : ty.isReference = true) (hin : vp_in i n) (hdg : decode cc pc = .ok (.aaload, 1))
    (kk : W p l e R s m args below meth c H locs cells slots Q (F0 m (pc + 1) la (va_rf (f i.toNatClampNeg) :: rest))) : W p l e R s m args below meth c H locs cells slots Q (F0 m pc la (.int i :: .ref a :: rest)) := by
  have hlt : i.toNatClampNeg < n := Nat.not_le.mp fun q => hin (Or.inr q)
  exact W.aald (v := va_rf (f i.toNatClampNeg)) (ty := ty) hx hb (hP q0 _ hat) harr hty (fun q => by cases q) (by show ¬ (i < 0 ∨ (arrV _ _ _).slots.size ≤ _); rw [arrV_size]; exact hin) (by show (arrV _ _ _).slots[_]? = _; rw [arrV_read _ _ hlt]) rfl rfl hdg kk
section JS
variable {p : Program} {l : Launch} {e : Env} {R : Room} {s : State} {m : MethodId} {args : Array Value} {below : List Frame} {meth : Method} {c : Code} {G : jxG} {A : Nat → Prop} {κ cs ss : Nat} {E : Int32 → jxH → Prop}
theorem jx_run {κ' : Nat} {as : List jxV} {rest : List jxV} {h : jxH} {E' : Int32 → jxH → Prop} {pc : Nat} {la : Array Slot} {st : List jxV} {H : Heap} {locs : List Loc} {Qf : State → Prop} {a : Array Value}
    (X : jx_X p R s m args meth c G A κ cs ss) (hS : va_S A s.heap H locs)
    (hr : va_Run p l e R s m args below meth c H locs cs ss 0 0 (F0 m pc la (st.map (jx_cv G))) (rest.map (jx_cv G)) (jx_Qc G κ' (va_A (jx_ws G h) H.size) E' a) (va_A (jx_ws G h) H.size))
    (kk : ∀ (r : Int32) (h' : jxH) (H1 : Heap) (locs1 : List Loc), E' r h' → va_P G.1 jx_cl (jx_ws G h') H1 → va_S A s.heap H1 locs1 → W p l e R s m args below meth c H1 locs1 cs ss Qf (F0 m (pc + 3) la ((jx_rv κ' r).toList ++ rest.map (jx_cv G)))) :
    W p l e R s m args below meth c H locs cs ss Qf (F0 m pc la (st.map (jx_cv G))) := by
  obtain ⟨-, -, -, -, -, -, -, -, hAw, -⟩ := X
  intro T hT Y
  obtain ⟨v, st₀, t, T', L, h0, Y', hL, e1, e2, ⟨⟨r, h', hv, hE, hPX⟩, hz, hk⟩, stp⟩ := hr T hT Y
  cases hv
  rw [h0] at hz hk
  have hsub : ∀ q, va_A (jx_ws G h) H.size q → A q := fun q hq => hAw h H.size q hS.1 hq
  obtain ⟨t2, a1, b1⟩ := kk r h' T'.heap (locs ++ L) hE (by rw [e1]; exact hPX.1)
    ⟨Nat.le_trans hS.1 (by rw [e1]; exact hz), fun q h1 h2 => by rw [e1, hk q (Nat.lt_of_lt_of_le h1 hS.1) (fun z => h2 (hsub q z))]; exact hS.2.1 q h1 h2, fun q hq => by
      rcases List.mem_append.mp hq with h9 | h9
      · exact hS.2.2 q h9
      · exact hsub _ (hL q h9)⟩ T' rfl Y'
  exact ⟨t2, stp t2 a1, b1⟩
theorem jx_pcc {κ' : Nat} {as : List jxV} {h : jxH} {H : Heap} {locs : List Loc} (X : jx_X p R s m args meth c G A κ cs ss) (hP : va_P G.1 jx_cl (jx_ws G h) H) (hS : va_S A s.heap H locs) :
    PreS s H (va_Pc (as.map (jx_cv G)) (fun U => U.heap.size = H.size ∧ jx_PX G h U)) (as.map (jx_cv G)) := by
  obtain ⟨-, -, -, -, -, hK, hD, hSF, hAw, -⟩ := X
  refine ⟨fun a U g mk q => ?_, fun U hU hW => ?_⟩
  · obtain ⟨q0, q1, qP, qK, qD, qS⟩ := q
    exact ⟨q0, q1, qP, va_K.moved (u := U) (U := U.calling g mk a) (Vm.Alike.refl U.vm) qK, qD, jx_SF_moved (u := U) (U := U.calling g mk a) (Vm.Alike.refl U.vm) qS⟩
  · refine ⟨rfl, by rw [hU], by rw [hU]; exact hP, va_K.moved hW.alike hK, (hD h).weaken (fun _ _ _ _ => trivial), ?_⟩
    rw [hU]
    exact jx_SF_narrow (jx_SF_moved hW.alike (jx_SF_kept hSF hS.2.1)) (fun q hq => hAw h H.size q hS.1 hq)
theorem jx_callS {κ' idx : Nat} {as rest : List jxV} {h : jxH} {E' : Int32 → jxH → Prop} {pc : Nat} {la : Array Slot} {H : Heap} {locs : List Loc} {Qf : State → Prop}
    (X : jx_X p R s m args meth c G A κ cs ss) (hP : va_P G.1 jx_cl (jx_ws G h) H) (hS : va_S A s.heap H locs) (hla : la.size = jx_mx κ) (hok : ∀ v ∈ as, jx_ok v) (hk1 : ∀ v ∈ as, jx_w1 v) (hmd : jx_md (jx_ow κ) idx = some κ') (hn : as.length = jx_np κ') (his : jx_is κ' = true) (hrest : jx_wg rest ≤ 8) (hdp : jx_dp κ' < jx_dp κ) (hlc : 19 + jx_mx κ' + jx_lc κ' ≤ jx_lc κ)
    (hM : jx_MW κ' as h E') (hdg : decode (jx_cd κ) pc = .ok (.invokestatic idx, 3))
    (kk : ∀ (r : Int32) (h' : jxH) (H1 : Heap) (locs1 : List Loc), E' r h' → va_P G.1 jx_cl (jx_ws G h') H1 → va_S A s.heap H1 locs1 → W p l e R s m args below meth c H1 locs1 cs ss Qf (F0 m (pc + 3) la ((jx_rv κ' r).toList ++ rest.map (jx_cv G)))) :
    W p l e R s m args below meth c H locs cs ss Qf (F0 m pc la ((as.reverse ++ rest).map (jx_cv G))) := by
  have X0 := X
  obtain ⟨hx, hb, hml, hown, hts, hK, hD, hSF, hAw, hret, hlk, hκ, hR1, hR2, hR3, hR4⟩ := X
  obtain ⟨hκ', hw1, hw2, hd1, hd2, hd3⟩ := jx_md_s hmd his
  have hin := hts
  refine jx_run (κ' := κ') (as := as) X0 hS (va_runS (As := as.map (jx_cv G)) (rest := rest.map (jx_cv G)) (n := jx_np κ') ⟨hx, hb, hml, hown, hts⟩ (hM l G H.size hok hk1) ⟨callB_of (bytes := jx_cd κ') (maxL := jx_mx κ') (ret := jx_rt κ') (jx_np κ') hts (jx_good hκ') rfl rfl rfl (hin _ hw2.2) (hin _ hw1) ⟨hd1, hd2, hd3⟩ ?_, hin _ hw2.1⟩ (jx_pcc (κ' := κ') X0 hP hS) rfl (by simpa using hn) hla ?_ ?_ hdg ⟨hR3, hR4⟩) kk
  · exact ⟨Nat.le_trans hdp hR1, by show 8 + (jx_mx κ' + 11) + jx_lc κ' ≤ R.locals; omega⟩
  · show (as.reverse ++ rest).map (jx_cv G) = _
    simp
  · exact lv_room (by rw [jx_cats]; exact hrest)
theorem jx_callV {κ' idx k b : Nat} {as rest : List jxV} {h : jxH} {E' : Int32 → jxH → Prop} {pc : Nat} {la : Array Slot} {H : Heap} {locs : List Loc} {Qf : State → Prop} {fs : List (Option (Nat × Option Nat))}
    (X : jx_X p R s m args meth c G A κ cs ss) (hP : va_P G.1 jx_cl (jx_ws G h) H) (hS : va_S A s.heap H locs) (hla : la.size = jx_mx κ) (hok : ∀ v ∈ jR k b :: as, jx_ok v) (hk1 : ∀ v ∈ jR k b :: as, jx_w1 v) (hmd : jx_md (jx_ow κ) idx = some κ') (hn : as.length + 1 = jx_np κ') (hfl : jx_fl k = some (jx_ow κ', fs)) (his : jx_is κ' = false) (hrest : jx_wg rest ≤ 8) (hdp : jx_dp κ' < jx_dp κ) (hlc : 19 + jx_mx κ' + jx_lc κ' ≤ jx_lc κ)
    (hM : jx_MW κ' (jR k b :: as) h E') (hdg : decode (jx_cd κ) pc = .ok (.invokevirtual idx, 3))
    (kk : ∀ (r : Int32) (h' : jxH) (H1 : Heap) (locs1 : List Loc), E' r h' → va_P G.1 jx_cl (jx_ws G h') H1 → va_S A s.heap H1 locs1 → W p l e R s m args below meth c H1 locs1 cs ss Qf (F0 m (pc + 3) la ((jx_rv κ' r).toList ++ rest.map (jx_cv G)))) :
    W p l e R s m args below meth c H locs cs ss Qf (F0 m pc la (((jR k b :: as).reverse ++ rest).map (jx_cv G))) := by
  have X0 := X
  obtain ⟨hx, hb, hml, hown, hts, hK, hD, hSF, hAw, hret, hlk, hκ, hR1, hR2, hR3, hR4⟩ := X
  obtain ⟨hκ', C, T, N, hcl, hC, hw1, hw2, hw3, hw4, hd1, hd2, hd3⟩ := jx_md_v hmd his
  have hin := hts
  have hkb : b < jx_ct k := hok _ List.mem_cons_self
  obtain ⟨q0, hq0⟩ := jx_find hkb (by simp [jx_cel, hfl])
  have hat := jx_at (G := G) (h := h) hq0
  have hcf : jx_cf G k b (h k b) = .inr (jx_ow κ', fs.mapIdx (jx_fv G b (h k b))) := by simp [jx_cf, hfl]
  rw [hcf] at hat
  have hrecv := va_recv hK hP hcl hat
  have hpc := jx_pcc (κ' := κ') (as := jR k b :: as) X0 hP hS
  refine jx_run (κ' := κ') (as := jR k b :: as) X0 hS (va_runV (C := C) (b := G.2.2 k b) (As := as.map (jx_cv G)) (rest := rest.map (jx_cv G)) (n := as.length) ⟨hx, hb, hml, hown, hts⟩ (hM l G H.size hok hk1) ⟨callB_of (bytes := jx_cd κ') (maxL := jx_mx κ') (ret := jx_rt κ') as.length hts (jx_good hκ') rfl rfl rfl (hin _ hw4) (hin _ hw1) ⟨hd1, hd2, by rw [hd3]; congr 1; omega⟩ ?_, hin _ hw2, hin _ hw3⟩ ⟨hpc.1, hrecv, hpc.2⟩ rfl (by simp) hla ?_ ?_ hdg ⟨hR3, hR4⟩) kk
  · exact ⟨Nat.le_trans hdp hR1, by show 8 + (jx_mx κ' + 11) + jx_lc κ' ≤ R.locals; omega⟩
  · show (((jR k b :: as).reverse ++ rest).map (jx_cv G)) = _
    simp [jx_cv]
  · exact lv_room (by rw [jx_cats]; exact hrest)
end JS
