/-! The law's first twenty bytes. -/
theorem jw_in0 : ∀ w ∈ jn_w0, w ∈ lw_tbl := by decide +kernel
theorem jw_in : ∀ w ∈ jn_w, w ∈ lw_tbl := by
  intro w hw
  rcases List.mem_append.mp hw with h | h
  · exact jw_in0 w h
  · exact jw_all w (List.mem_append_right _ (List.mem_append_left _ (List.mem_append_left _ (List.mem_append_left _ (List.mem_append_left _ (List.mem_append_left _ h))))))
theorem jw_nl : ∀ q ∈ jn_nl, jn_nw q ∈ lw_tbl := by decide +kernel
theorem jw_ao : Cond.arrayOver (.object "DotVault$Sheet") ∈ lw_tbl := by decide +kernel
theorem jw_aa : Cond.arrayOver (.array .int) ∈ lw_tbl := by decide +kernel
theorem jw_ac : ∀ t ∈ [FieldType.int, FieldType.boolean, FieldType.long], Cond.arrayClass t ∈ lw_tbl := by decide +kernel
theorem jw_l1 : Cond.classLink "DotVaultLaw" 8 "DotVault" ∈ lw_tbl := by decide +kernel
theorem jw_l2 : Cond.methodLink "DotVaultLaw" 48 (jn_y "DotVault") ∈ lw_tbl := by decide +kernel
theorem jw_l3 : Cond.classLink "DotVaultLaw" 49 "DotVaultModel" ∈ lw_tbl := by decide +kernel
theorem jw_l4 : Cond.methodLink "DotVaultLaw" 51 (jn_y "DotVaultModel") ∈ lw_tbl := by decide +kernel
theorem jw_N {args : Array Value} {s : State} (hts : ∀ w ∈ lw_tbl, w.before args s = true) : jn_N s := ⟨fun q hq => va_Nw.of rfl (hts _ (jw_nl q hq)), va_AO.of (A := args) (hts _ jw_ao), hts _ jw_aa⟩
theorem jw_D {args : Array Value} {s : State} (hts : ∀ w ∈ jn_w, w.before args s = true) : ∃ D : va_G, ∀ (c : Nat) (q : vw_C), jx_cl[c]? = some q → u_Kn s q.1 q.2.1 q.2.2 (D.1 c) (D.2 c) := by
  obtain ⟨c0, i0, k0⟩ := u_known (n := 9) hts (jn_uin (ci := 0) rfl) (hts _ (jn_m 18 rfl))
  obtain ⟨c1, i1, k1⟩ := u_known (n := 1) hts (jn_uin (ci := 1) rfl) (hts _ (jn_m 19 rfl))
  obtain ⟨c2, i2, k2⟩ := u_known (n := 2) hts (jn_uin (ci := 2) rfl) (hts _ (jn_m 20 rfl))
  obtain ⟨c3, i3, k3⟩ := u_known (n := 1) hts (jn_uin (ci := 3) rfl) (hts _ (jn_m 21 rfl))
  obtain ⟨c4, i4, k4⟩ := u_known (n := 3) hts (jn_uin (ci := 4) rfl) (hts _ (jn_m 22 rfl))
  obtain ⟨c5, i5, k5⟩ := u_known (n := 8) hts (jn_uin (ci := 5) rfl) (hts _ (jn_m 23 rfl))
  obtain ⟨c6, i6, k6⟩ := u_known (n := 19) hts (jn_uin (ci := 6) rfl) (hts _ (jn_m 24 rfl))
  refine ⟨(fun c => match c with | 0 => c0 | 1 => c1 | 2 => c2 | 3 => c3 | 4 => c4 | 5 => c5 | _ => c6, fun c => match c with | 0 => i0 | 1 => i1 | 2 => i2 | 3 => i3 | 4 => i4 | 5 => i5 | _ => i6), ?_⟩
  intro c q hq
  match c, hq with
  | 0, hq => cases hq; exact k0
  | 1, hq => cases hq; exact k1
  | 2, hq => cases hq; exact k2
  | 3, hq => cases hq; exact k3
  | 4, hq => cases hq; exact k4
  | 5, hq => cases hq; exact k5
  | 6, hq => cases hq; exact k6
  | c + 7, hq => simp [jx_cl] at hq
theorem jw_pr {args : Array Value} {s : State} {t : FieldType} (h : (Cond.arrayClass t).before args s = true) : ∃ c, ArrOfT s c t ∧ s.vm.findClass ("[" ++ t.toString) = some c := by
  obtain ⟨c, k, comp, h1, h2, h3⟩ := Cond.arrayClass_spec h
  exact ⟨c, fun n z => ⟨fun k h => (by cases h), k, h2, comp, h3⟩, h1⟩
theorem jw_K {args : Array Value} {s : State} (hts : ∀ w ∈ lw_tbl, w.before args s = true) : ∃ (D : va_G) (ct : Nat → ClassId), va_K D jx_cl (jn_ty ct) s := by
  obtain ⟨D, hD⟩ := jw_D (fun w hw => hts w (jw_in w hw))
  obtain ⟨c0, a0, b0⟩ := jw_pr (hts _ (jw_ac .int (by decide)))
  obtain ⟨c1, a1, b1⟩ := jw_pr (hts _ (jw_ac .boolean (by decide)))
  obtain ⟨c4, a4, b4⟩ := jw_pr (hts _ (jw_ac .long (by decide)))
  obtain ⟨comp2, c2, k2, f1, f2, f3, f4, f5⟩ := Cond.arrayOver_spec (hts _ jw_ao)
  obtain ⟨comp3, c3, k3, g1, g2, g3, g4, g5⟩ := jn_AA_spec (U := s) (hts _ jw_aa)
  refine ⟨D, fun j => match j with | 0 => c0 | 1 => c1 | 2 => c2 | 3 => c3 | _ => c4, hD, ?_⟩
  intro k q hq
  match k, hq with
  | 0, hq => cases hq; exact ⟨a0, b0⟩
  | 1, hq => cases hq; exact ⟨a1, b1⟩
  | 2, hq => cases hq; exact ⟨fun n z => ⟨fun k h => (by cases h), k2, f3, comp2, f4⟩, k2, comp2, f3, f4, f1, f5⟩
  | 3, hq => cases hq; exact ⟨fun n z => ⟨fun k h => (by cases h), k3, g3, comp3, g4⟩, g5⟩
  | 4, hq => cases hq; exact ⟨a4, b4⟩
  | k + 5, hq => simp at hq
def jw_G (D : va_G) (ct : Nat → ClassId) (a1 a2 : Nat → Nat → Nat) (q3 b a40 a41 a42 : Nat) : jxG := (D, ct, fun k i => cond (Nat.ble k 18) (a1 k i) (cond (Nat.ble k 32) (a2 k i) (cond (Nat.beq k 33) q3 (cond (Nat.beq k 34) b (cond (Nat.beq k 40) a40 (cond (Nat.beq k 41) a41 a42))))))
set_option maxRecDepth 100000 in
theorem jw_ws (D : va_G) (ct : Nat → ClassId) (a1 a2 : Nat → Nat → Nat) (q3 b a40 a41 a42 : Nat) : (jn_ws jn_lv (D, ct, a1) h00 ++ jn_ws jn_lm (D, ct, a2) h00) ++ [(q3, .inl (ct 4, 1, .inr (.inl (fun _ => (nI 0).toInt64))))] = jx_ws (jw_G D ct a1 a2 q3 b a40 a41 a42) h00 := rfl
theorem jw_d0 : decode code 0 = .ok (.new 8, 3) := by decide +kernel
theorem jw_d3 : decode code 3 = .ok (.dup, 1) := by decide +kernel
theorem jw_d4 : decode code 4 = .ok (.invokespecial 48, 3) := by decide +kernel
theorem jw_d7 : decode code 7 = .ok (.astore_n 1, 1) := by decide +kernel
theorem jw_d8 : decode code 8 = .ok (.new 49, 3) := by decide +kernel
theorem jw_d11 : decode code 11 = .ok (.dup, 1) := by decide +kernel
theorem jw_d12 : decode code 12 = .ok (.invokespecial 51, 3) := by decide +kernel
theorem jw_d15 : decode code 15 = .ok (.astore_n 2, 1) := by decide +kernel
theorem jw_d16 : decode code 16 = .ok (.iconst 1, 1) := by decide +kernel
theorem jw_d17 : decode code 17 = .ok (.newarray .long, 2) := by decide +kernel
theorem jw_d19 : decode code 19 = .ok (.astore_n 3, 1) := by decide +kernel
theorem jw_lz (cA : ClassId) : vp_cell cA (1, .inr (.inl (fun _ => (nI 0).toInt64))) = arrV cA 1 (fun _ => defaultValue .long) := by
  rw [vp_cell_l, show (nI 0).toInt64 = 0 by decide]
  rfl
set_option maxHeartbeats 4000000 in
set_option maxRecDepth 100000 in
theorem whole_start {p : Program} {e : Env} {s : State} {m : MethodId} {below : List Frame} {meth : Method} {c : Code} (l : Launch) (hst : l.stackTraces = false) {b L : Nat} {xs : Nat → Int32} (hL : L ≤ 3584) (C0 : lw_At p s m meth c b L xs) : W p l e room_1 s m #[Value.ref b] below meth c s.heap [] 0 0 (lw_Z below #[Value.ref b] s) (entryFrame m ([Value.ref b] : List Value).toArray 7) := by
  have C1 := C0
  obtain ⟨hx, hb, hr, hml, hown, hts, hscr, hbl, hlk, hgv⟩ := C0
  obtain ⟨D, ct, hK⟩ := jw_K hts
  obtain ⟨a40, a41, a42, hSF⟩ := ja_SF hts hgv
  have X : jn_X p s m #[Value.ref b] c D ct (fun q => s.heap.size ≤ q) "DotVaultLaw" code 7 := ⟨hx, hb, hml, hown, fun w hw => hts w (jw_in w hw), hK, fun q h => h, jw_N hts⟩
  have hl := lv_entry ([.ref b]) (n := 7) (Nat.le_of_ble_eq_true rfl)
  rw [lg_entry_eq]
  generalize (lg_sl ([.ref b]) ++ List.replicate (7 - (lg_sl ([.ref b])).length) Slot.unset).toArray = ls at hl ⊢
  have hl : lv_has ls 7 [(0, .ref b)] := hl
  have hP : va_P D jx_cl [] s.heap := fun k q hk => by simp at hk
  have hD : va_D (fun q => s.heap.size ≤ q) [] := ⟨fun i j x y hi => by simp at hi, fun k q hk => by simp at hk⟩
  have hS : va_S (fun q => s.heap.size ≤ q) s.heap s.heap [] := va_S.rf
  refine jn_mk2 X (c_Vault l) hP hD hS (ci := 0) rfl hl.1 ⟨hts _ jw_l1, jn_m 18 rfl, jn_m 11 rfl, jn_m 45 rfl, jn_m 43 rfl⟩ (hts _ jw_l2) ⟨by decide, by decide⟩ jn_df0 (Nat.le_of_ble_eq_true rfl) ⟨Nat.le_of_ble_eq_true rfl, Nat.le_of_ble_eq_true rfl⟩ ⟨Nat.le_of_ble_eq_true rfl, Nat.le_of_ble_eq_true rfl⟩ jw_d0 jw_d3 jw_d4 (fun q1 w1 H locs hB hP hD hS => ?_)
  obtain ⟨a1, rfl, rfl⟩ := hB
  rw [List.nil_append] at hP hD
  refine W.eq (g2 := F0 m 7 ls [.ref (a1 0 0)]) rfl ?_
  refine W.widen (k := 39) (n := 700) (Nat.le_of_ble_eq_true rfl) (Nat.le_of_ble_eq_true rfl) ?_
  refine lv_astore_n (i := 1) (lv' := [(1, .ref (a1 0 0)), (0, .ref b)]) hx hb jw_d7 rfl hl (Nat.le_of_ble_eq_true rfl) rfl (fun ls hl => ?_)
  refine jn_mk2 X (c_Model l) hP hD hS (ci := 6) rfl hl.1 ⟨hts _ jw_l3, jn_m 24 rfl, jn_m 17 rfl, jn_m 46 rfl, jn_m 44 rfl⟩ (hts _ jw_l4) ⟨by decide, by decide⟩ jn_df6 (Nat.le_of_ble_eq_true rfl) ⟨Nat.le_of_ble_eq_true rfl, Nat.le_of_ble_eq_true rfl⟩ ⟨Nat.le_of_ble_eq_true rfl, Nat.le_of_ble_eq_true rfl⟩ jw_d8 jw_d11 jw_d12 (fun q2 w1 H locs hB hP hD hS => ?_)
  obtain ⟨a2, rfl, rfl⟩ := hB
  refine W.eq (g2 := F0 m 15 ls [.ref (a2 20 0)]) rfl ?_
  refine W.widen (k := 52) (n := 3801) (Nat.le_of_ble_eq_true rfl) (Nat.le_of_ble_eq_true rfl) ?_
  refine lv_astore_n (i := 2) (lv' := [(2, .ref (a2 20 0)), (1, .ref (a1 0 0)), (0, .ref b)]) hx hb jw_d15 rfl hl (Nat.le_of_ble_eq_true rfl) rfl (fun ls hl => ?_)
  refine lv_iconst (v := 1) hx hb jw_d16 (by decide) ?_
  refine jn_newa (atype := .long) X hP hD hS (a0 := (1, .inr (.inl (fun _ => (nI 0).toInt64)))) (hts _ (jw_ac .long (by decide))) rfl 4 rfl jw_lz (by decide) (by decide) (by decide) (Nat.le_of_ble_eq_true rfl) (Nat.le_of_ble_eq_true rfl) jw_d17 (fun q3 H hP hD hS => ?_)
  rw [jw_ws D ct a1 a2 q3 b a40 a41 a42] at hP hD
  refine lv_astore_n (i := 3) (lv' := [(3, .ref q3), (2, .ref (a2 20 0)), (1, .ref (a1 0 0)), (0, .ref b)]) hx hb jw_d19 rfl hl (Nat.le_of_ble_eq_true rfl) rfl (fun ls hl => ?_)
  refine W.eq (g2 := F0 m 20 ls []) rfl ?_
  exact jw_tail (G := jw_G D ct a1 a2 q3 b a40 a41 a42) hL C1 hst rfl (hSF _ rfl rfl rfl) hK hD hl hP hS
