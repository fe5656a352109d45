/-! The constructor of the reference, walked. Written by wip/whole/gen46.py. -/
theorem dn_prod_0 : decode prog_9_method_3_code 0 = .ok (.iconst 0, 1) := by decide +kernel
theorem dn_prod_1 : decode prog_9_method_3_code 1 = .ok (.istore_n 3, 1) := by decide +kernel
theorem dn_prod_2 : decode prog_9_method_3_code 2 = .ok (.iconst 0, 1) := by decide +kernel
theorem dn_prod_3 : decode prog_9_method_3_code 3 = .ok (.istore 4, 2) := by decide +kernel
theorem dn_prod_5 : decode prog_9_method_3_code 5 = .ok (.iload 4, 2) := by decide +kernel
theorem dn_prod_7 : decode prog_9_method_3_code 7 = .ok (.iconst 4, 1) := by decide +kernel
theorem dn_prod_8 : decode prog_9_method_3_code 8 = .ok (.if_icmp .ge 30, 3) := by decide +kernel
theorem dn_prod_11 : decode prog_9_method_3_code 11 = .ok (.iload_n 3, 1) := by decide +kernel
theorem dn_prod_12 : decode prog_9_method_3_code 12 = .ok (.iload_n 2, 1) := by decide +kernel
theorem dn_prod_13 : decode prog_9_method_3_code 13 = .ok (.iload 4, 2) := by decide +kernel
theorem dn_prod_15 : decode prog_9_method_3_code 15 = .ok (.ishr, 1) := by decide +kernel
theorem dn_prod_16 : decode prog_9_method_3_code 16 = .ok (.iconst 1, 1) := by decide +kernel
theorem dn_prod_17 : decode prog_9_method_3_code 17 = .ok (.iand, 1) := by decide +kernel
theorem dn_prod_18 : decode prog_9_method_3_code 18 = .ok (.iconst 1, 1) := by decide +kernel
theorem dn_prod_19 : decode prog_9_method_3_code 19 = .ok (.if_icmp .ne 10, 3) := by decide +kernel
theorem dn_prod_22 : decode prog_9_method_3_code 22 = .ok (.iload_n 1, 1) := by decide +kernel
theorem dn_prod_23 : decode prog_9_method_3_code 23 = .ok (.iload 4, 2) := by decide +kernel
theorem dn_prod_25 : decode prog_9_method_3_code 25 = .ok (.ishl, 1) := by decide +kernel
theorem dn_prod_26 : decode prog_9_method_3_code 26 = .ok (.goto 4, 3) := by decide +kernel
theorem dn_prod_29 : decode prog_9_method_3_code 29 = .ok (.iconst 0, 1) := by decide +kernel
theorem dn_prod_30 : decode prog_9_method_3_code 30 = .ok (.ixor, 1) := by decide +kernel
theorem dn_prod_31 : decode prog_9_method_3_code 31 = .ok (.istore_n 3, 1) := by decide +kernel
theorem dn_prod_32 : decode prog_9_method_3_code 32 = .ok (.iinc 4 1, 3) := by decide +kernel
theorem dn_prod_35 : decode prog_9_method_3_code 35 = .ok (.goto (-30), 3) := by decide +kernel
theorem dn_prod_38 : decode prog_9_method_3_code 38 = .ok (.bipush 6, 2) := by decide +kernel
theorem dn_prod_40 : decode prog_9_method_3_code 40 = .ok (.istore 4, 2) := by decide +kernel
theorem dn_prod_42 : decode prog_9_method_3_code 42 = .ok (.iload 4, 2) := by decide +kernel
theorem dn_prod_44 : decode prog_9_method_3_code 44 = .ok (.iconst 3, 1) := by decide +kernel
theorem dn_prod_45 : decode prog_9_method_3_code 45 = .ok (.if_icmp .le 33, 3) := by decide +kernel
theorem dn_prod_48 : decode prog_9_method_3_code 48 = .ok (.iload_n 3, 1) := by decide +kernel
theorem dn_prod_49 : decode prog_9_method_3_code 49 = .ok (.iload 4, 2) := by decide +kernel
theorem dn_prod_51 : decode prog_9_method_3_code 51 = .ok (.ishr, 1) := by decide +kernel
theorem dn_prod_52 : decode prog_9_method_3_code 52 = .ok (.iconst 1, 1) := by decide +kernel
theorem dn_prod_53 : decode prog_9_method_3_code 53 = .ok (.iand, 1) := by decide +kernel
theorem dn_prod_54 : decode prog_9_method_3_code 54 = .ok (.iconst 1, 1) := by decide +kernel
theorem dn_prod_55 : decode prog_9_method_3_code 55 = .ok (.if_icmp .ne 15, 3) := by decide +kernel
theorem dn_prod_58 : decode prog_9_method_3_code 58 = .ok (.iload_n 3, 1) := by decide +kernel
theorem dn_prod_59 : decode prog_9_method_3_code 59 = .ok (.bipush 19, 2) := by decide +kernel
theorem dn_prod_61 : decode prog_9_method_3_code 61 = .ok (.iload 4, 2) := by decide +kernel
theorem dn_prod_63 : decode prog_9_method_3_code 63 = .ok (.iconst 4, 1) := by decide +kernel
theorem dn_prod_64 : decode prog_9_method_3_code 64 = .ok (.isub, 1) := by decide +kernel
theorem dn_prod_65 : decode prog_9_method_3_code 65 = .ok (.ishl, 1) := by decide +kernel
theorem dn_prod_66 : decode prog_9_method_3_code 66 = .ok (.ixor, 1) := by decide +kernel
theorem dn_prod_67 : decode prog_9_method_3_code 67 = .ok (.goto 4, 3) := by decide +kernel
theorem dn_prod_70 : decode prog_9_method_3_code 70 = .ok (.iload_n 3, 1) := by decide +kernel
theorem dn_prod_71 : decode prog_9_method_3_code 71 = .ok (.istore_n 3, 1) := by decide +kernel
theorem dn_prod_72 : decode prog_9_method_3_code 72 = .ok (.iinc 4 (-1), 3) := by decide +kernel
theorem dn_prod_75 : decode prog_9_method_3_code 75 = .ok (.goto (-33), 3) := by decide +kernel
theorem dn_prod_78 : decode prog_9_method_3_code 78 = .ok (.iload_n 3, 1) := by decide +kernel
theorem dn_prod_79 : decode prog_9_method_3_code 79 = .ok (.ireturn, 1) := by decide +kernel
theorem jn_pf : ∀ e, e < 15 → ¬ ((((((0 : Int32) ^^^ (0 : Int32)) ^^^ ((nI (gf_pw e)) <<< ((1 : Int32) &&& (31 : Int32)))) ^^^ (0 : Int32)) ^^^ (0 : Int32)) >>> ((6 : Int32) &&& (31 : Int32)) &&& (1 : Int32) = (1 : Int32)) ∧ ¬ ((((((0 : Int32) ^^^ (0 : Int32)) ^^^ ((nI (gf_pw e)) <<< ((1 : Int32) &&& (31 : Int32)))) ^^^ (0 : Int32)) ^^^ (0 : Int32)) >>> ((5 : Int32) &&& (31 : Int32)) &&& (1 : Int32) = (1 : Int32)) ∧ ((((((0 : Int32) ^^^ (0 : Int32)) ^^^ ((nI (gf_pw e)) <<< ((1 : Int32) &&& (31 : Int32)))) ^^^ (0 : Int32)) ^^^ (0 : Int32)) >>> ((4 : Int32) &&& (31 : Int32)) &&& (1 : Int32) = (1 : Int32) → (((((0 : Int32) ^^^ (0 : Int32)) ^^^ ((nI (gf_pw e)) <<< ((1 : Int32) &&& (31 : Int32)))) ^^^ (0 : Int32)) ^^^ (0 : Int32)) ^^^ ((19 : Int32) <<< (((4 : Int32) - (4 : Int32)) &&& (31 : Int32))) = nI (gf_pw (e + 1))) ∧ (¬ ((((((0 : Int32) ^^^ (0 : Int32)) ^^^ ((nI (gf_pw e)) <<< ((1 : Int32) &&& (31 : Int32)))) ^^^ (0 : Int32)) ^^^ (0 : Int32)) >>> ((4 : Int32) &&& (31 : Int32)) &&& (1 : Int32) = (1 : Int32)) → (((((0 : Int32) ^^^ (0 : Int32)) ^^^ ((nI (gf_pw e)) <<< ((1 : Int32) &&& (31 : Int32)))) ^^^ (0 : Int32)) ^^^ (0 : Int32)) = nI (gf_pw (e + 1))) := by decide +kernel
set_option maxHeartbeats 4000000 in
set_option maxRecDepth 100000 in
theorem jn_prod (l : Launch) (h0 sz e : Nat) (he : e < 15) : Met l jn_pr (.code jn_pr prog_9_method_3_code 5 (some .int) :: jn_w) { frames := 0, cells := 0, slots := 0, locals := 0 } (va_Pc [.ref h0, .int (nI (gf_pw e)), .int 2] (fun U => U.heap.size = sz)) (va_Qi (fun (r : Int32) (_ : Unit) => r = nI (gf_pw (e + 1))) (fun _ _ => True) (va_A [] sz)) 0 0 (va_A [] sz) := by
  obtain ⟨f6, f5, f4, f3⟩ := jn_pf e he
  generalize nI (gf_pw (e + 1)) = z at f4 f3 ⊢
  generalize nI (gf_pw e) = a at f6 f5 f4 f3 ⊢
  refine Met.ofW (cc := prog_9_method_3_code) (maxL := 5) (ret := some .int) (by decide +kernel) rfl ?_
  intro p e s m args below meth c s₁ BB hml hv
  obtain ⟨rfl, hsz⟩ := hv
  subst hsz
  have hx := BB.exec
  have hb := BB.bytes
  have hr := BB.returns
  have hlocks := BB.notSynchronized
  have hS : va_S (va_A [] s.heap.size) s.heap s.heap [] := va_S.rf
  have hl := lv_entry ([.ref h0, .int a, .int 2]) (n := 5) (Nat.le_of_ble_eq_true rfl)
  rw [lg_entry_eq]
  generalize (lg_sl ([.ref h0, .int a, .int 2]) ++ List.replicate (5 - (lg_sl ([.ref h0, .int a, .int 2])).length) Slot.unset).toArray = ls at hl ⊢
  have hl : lv_has ls 5 [(0, .ref h0), (1, .int a), (2, .int 2)] := hl
  refine lv_iconst (v := 0) hx hb dn_prod_0 (by decide) ?_
  refine lv_istore_n (i := 3) (lv' := [(3, .int (0 : Int32)), (0, .ref h0), (1, .int a), (2, .int 2)]) hx hb dn_prod_1 rfl hl (Nat.le_of_ble_eq_true rfl) rfl (fun ls hl => ?_)
  refine lv_iconst (v := 0) hx hb dn_prod_2 (by decide) ?_
  refine lv_istore (lv' := [(4, .int (0 : Int32)), (3, .int (0 : Int32)), (0, .ref h0), (1, .int a), (2, .int 2)]) hx hb dn_prod_3 hl (Nat.le_of_ble_eq_true rfl) rfl (fun ls hl => ?_)
  refine lv_iload hx hb dn_prod_5 (lv_at hl 0 rfl) ?_
  refine lv_iconst (v := 4) hx hb dn_prod_7 (by decide) ?_
  refine lv_icmp_ge (tgt := 38) hx hb dn_prod_8 (by decide) (fun h9 => absurd h9 (by decide)) (fun _ => ?_)
  refine lv_iload_n hx hb dn_prod_11 rfl (lv_at hl 1 rfl) ?_
  refine lv_iload_n hx hb dn_prod_12 rfl (lv_at hl 4 rfl) ?_
  refine lv_iload hx hb dn_prod_13 (lv_at hl 0 rfl) ?_
  refine lv_ishr hx hb dn_prod_15 ?_
  refine lv_iconst (v := 1) hx hb dn_prod_16 (by decide) ?_
  refine lv_iand hx hb dn_prod_17 ?_
  refine lv_iconst (v := 1) hx hb dn_prod_18 (by decide) ?_
  refine lv_icmp_ne (tgt := 29) hx hb dn_prod_19 (by decide) (fun _ => ?_) (fun h9 => absurd h9 (by decide))
  refine lv_iconst (v := 0) hx hb dn_prod_29 (by decide) ?_
  refine lv_ixor hx hb dn_prod_30 ?_
  refine lv_istore_n (i := 3) (lv' := [(3, .int ((0 : Int32) ^^^ (0 : Int32))), (4, .int (0 : Int32)), (0, .ref h0), (1, .int a), (2, .int 2)]) hx hb dn_prod_31 rfl hl (Nat.le_of_ble_eq_true rfl) rfl (fun ls hl => ?_)
  refine lv_iinc (k := 1) (v := 1) (lv' := [(4, .int (1 : Int32)), (3, .int ((0 : Int32) ^^^ (0 : Int32))), (0, .ref h0), (1, .int a), (2, .int 2)]) hx hb dn_prod_32 hl rfl (by decide) (Nat.le_of_ble_eq_true rfl) rfl (fun ls hl => ?_)
  refine lv_goto (tgt := 5) hx hb dn_prod_35 (by decide) ?_
  refine W.eq (g2 := F0 m 5 ls []) rfl ?_
  refine lv_iload hx hb dn_prod_5 (lv_at hl 0 rfl) ?_
  refine lv_iconst (v := 4) hx hb dn_prod_7 (by decide) ?_
  refine lv_icmp_ge (tgt := 38) hx hb dn_prod_8 (by decide) (fun h9 => absurd h9 (by decide)) (fun _ => ?_)
  refine lv_iload_n hx hb dn_prod_11 rfl (lv_at hl 1 rfl) ?_
  refine lv_iload_n hx hb dn_prod_12 rfl (lv_at hl 4 rfl) ?_
  refine lv_iload hx hb dn_prod_13 (lv_at hl 0 rfl) ?_
  refine lv_ishr hx hb dn_prod_15 ?_
  refine lv_iconst (v := 1) hx hb dn_prod_16 (by decide) ?_
  refine lv_iand hx hb dn_prod_17 ?_
  refine lv_iconst (v := 1) hx hb dn_prod_18 (by decide) ?_
  refine lv_icmp_ne (tgt := 29) hx hb dn_prod_19 (by decide) (fun h9 => absurd (by decide) h9) (fun _ => ?_)
  refine lv_iload_n hx hb dn_prod_22 rfl (lv_at hl 3 rfl) ?_
  refine lv_iload hx hb dn_prod_23 (lv_at hl 0 rfl) ?_
  refine lv_ishl hx hb dn_prod_25 ?_
  refine lv_goto (tgt := 30) hx hb dn_prod_26 (by decide) ?_
  refine W.eq (g2 := F0 m 30 ls [.int (a <<< ((1 : Int32) &&& (31 : Int32))), .int ((0 : Int32) ^^^ (0 : Int32))]) rfl ?_
  refine lv_ixor hx hb dn_prod_30 ?_
  refine lv_istore_n (i := 3) (lv' := [(3, .int (((0 : Int32) ^^^ (0 : Int32)) ^^^ (a <<< ((1 : Int32) &&& (31 : Int32))))), (4, .int (1 : Int32)), (0, .ref h0), (1, .int a), (2, .int 2)]) hx hb dn_prod_31 rfl hl (Nat.le_of_ble_eq_true rfl) rfl (fun ls hl => ?_)
  refine lv_iinc (k := 1) (v := 2) (lv' := [(4, .int (2 : Int32)), (3, .int (((0 : Int32) ^^^ (0 : Int32)) ^^^ (a <<< ((1 : Int32) &&& (31 : Int32))))), (0, .ref h0), (1, .int a), (2, .int 2)]) hx hb dn_prod_32 hl rfl (by decide) (Nat.le_of_ble_eq_true rfl) rfl (fun ls hl => ?_)
  refine lv_goto (tgt := 5) hx hb dn_prod_35 (by decide) ?_
  refine W.eq (g2 := F0 m 5 ls []) rfl ?_
  refine lv_iload hx hb dn_prod_5 (lv_at hl 0 rfl) ?_
  refine lv_iconst (v := 4) hx hb dn_prod_7 (by decide) ?_
  refine lv_icmp_ge (tgt := 38) hx hb dn_prod_8 (by decide) (fun h9 => absurd h9 (by decide)) (fun _ => ?_)
  refine lv_iload_n hx hb dn_prod_11 rfl (lv_at hl 1 rfl) ?_
  refine lv_iload_n hx hb dn_prod_12 rfl (lv_at hl 4 rfl) ?_
  refine lv_iload hx hb dn_prod_13 (lv_at hl 0 rfl) ?_
  refine lv_ishr hx hb dn_prod_15 ?_
  refine lv_iconst (v := 1) hx hb dn_prod_16 (by decide) ?_
  refine lv_iand hx hb dn_prod_17 ?_
  refine lv_iconst (v := 1) hx hb dn_prod_18 (by decide) ?_
  refine lv_icmp_ne (tgt := 29) hx hb dn_prod_19 (by decide) (fun _ => ?_) (fun h9 => absurd h9 (by decide))
  refine lv_iconst (v := 0) hx hb dn_prod_29 (by decide) ?_
  refine lv_ixor hx hb dn_prod_30 ?_
  refine lv_istore_n (i := 3) (lv' := [(3, .int ((((0 : Int32) ^^^ (0 : Int32)) ^^^ (a <<< ((1 : Int32) &&& (31 : Int32)))) ^^^ (0 : Int32))), (4, .int (2 : Int32)), (0, .ref h0), (1, .int a), (2, .int 2)]) hx hb dn_prod_31 rfl hl (Nat.le_of_ble_eq_true rfl) rfl (fun ls hl => ?_)
  refine lv_iinc (k := 1) (v := 3) (lv' := [(4, .int (3 : Int32)), (3, .int ((((0 : Int32) ^^^ (0 : Int32)) ^^^ (a <<< ((1 : Int32) &&& (31 : Int32)))) ^^^ (0 : Int32))), (0, .ref h0), (1, .int a), (2, .int 2)]) hx hb dn_prod_32 hl rfl (by decide) (Nat.le_of_ble_eq_true rfl) rfl (fun ls hl => ?_)
  refine lv_goto (tgt := 5) hx hb dn_prod_35 (by decide) ?_
  refine W.eq (g2 := F0 m 5 ls []) rfl ?_
  refine lv_iload hx hb dn_prod_5 (lv_at hl 0 rfl) ?_
  refine lv_iconst (v := 4) hx hb dn_prod_7 (by decide) ?_
  refine lv_icmp_ge (tgt := 38) hx hb dn_prod_8 (by decide) (fun h9 => absurd h9 (by decide)) (fun _ => ?_)
  refine lv_iload_n hx hb dn_prod_11 rfl (lv_at hl 1 rfl) ?_
  refine lv_iload_n hx hb dn_prod_12 rfl (lv_at hl 4 rfl) ?_
  refine lv_iload hx hb dn_prod_13 (lv_at hl 0 rfl) ?_
  refine lv_ishr hx hb dn_prod_15 ?_
  refine lv_iconst (v := 1) hx hb dn_prod_16 (by decide) ?_
  refine lv_iand hx hb dn_prod_17 ?_
  refine lv_iconst (v := 1) hx hb dn_prod_18 (by decide) ?_
  refine lv_icmp_ne (tgt := 29) hx hb dn_prod_19 (by decide) (fun _ => ?_) (fun h9 => absurd h9 (by decide))
  refine lv_iconst (v := 0) hx hb dn_prod_29 (by decide) ?_
  refine lv_ixor hx hb dn_prod_30 ?_
  refine lv_istore_n (i := 3) (lv' := [(3, .int (((((0 : Int32) ^^^ (0 : Int32)) ^^^ (a <<< ((1 : Int32) &&& (31 : Int32)))) ^^^ (0 : Int32)) ^^^ (0 : Int32))), (4, .int (3 : Int32)), (0, .ref h0), (1, .int a), (2, .int 2)]) hx hb dn_prod_31 rfl hl (Nat.le_of_ble_eq_true rfl) rfl (fun ls hl => ?_)
  refine lv_iinc (k := 1) (v := 4) (lv' := [(4, .int (4 : Int32)), (3, .int (((((0 : Int32) ^^^ (0 : Int32)) ^^^ (a <<< ((1 : Int32) &&& (31 : Int32)))) ^^^ (0 : Int32)) ^^^ (0 : Int32))), (0, .ref h0), (1, .int a), (2, .int 2)]) hx hb dn_prod_32 hl rfl (by decide) (Nat.le_of_ble_eq_true rfl) rfl (fun ls hl => ?_)
  refine lv_goto (tgt := 5) hx hb dn_prod_35 (by decide) ?_
  refine W.eq (g2 := F0 m 5 ls []) rfl ?_
  refine lv_iload hx hb dn_prod_5 (lv_at hl 0 rfl) ?_
  refine lv_iconst (v := 4) hx hb dn_prod_7 (by decide) ?_
  refine lv_icmp_ge (tgt := 38) hx hb dn_prod_8 (by decide) (fun _ => ?_) (fun h9 => absurd (by decide) h9)
  refine lv_bipush (v := 6) hx hb dn_prod_38 (by decide) ?_
  refine lv_istore (lv' := [(4, .int (6 : Int32)), (3, .int (((((0 : Int32) ^^^ (0 : Int32)) ^^^ (a <<< ((1 : Int32) &&& (31 : Int32)))) ^^^ (0 : Int32)) ^^^ (0 : Int32))), (0, .ref h0), (1, .int a), (2, .int 2)]) hx hb dn_prod_40 hl (Nat.le_of_ble_eq_true rfl) rfl (fun ls hl => ?_)
  refine lv_iload hx hb dn_prod_42 (lv_at hl 0 rfl) ?_
  refine lv_iconst (v := 3) hx hb dn_prod_44 (by decide) ?_
  refine lv_icmp_le (tgt := 78) hx hb dn_prod_45 (by decide) (fun h9 => absurd h9 (by decide)) (fun _ => ?_)
  refine lv_iload_n hx hb dn_prod_48 rfl (lv_at hl 1 rfl) ?_
  refine lv_iload hx hb dn_prod_49 (lv_at hl 0 rfl) ?_
  refine lv_ishr hx hb dn_prod_51 ?_
  refine lv_iconst (v := 1) hx hb dn_prod_52 (by decide) ?_
  refine lv_iand hx hb dn_prod_53 ?_
  refine lv_iconst (v := 1) hx hb dn_prod_54 (by decide) ?_
  refine lv_icmp_ne (tgt := 70) hx hb dn_prod_55 (by decide) (fun _ => ?_) (fun h9 => absurd h9 f6)
  refine lv_iload_n hx hb dn_prod_70 rfl (lv_at hl 1 rfl) ?_
  refine lv_istore_n (i := 3) (lv' := [(3, .int (((((0 : Int32) ^^^ (0 : Int32)) ^^^ (a <<< ((1 : Int32) &&& (31 : Int32)))) ^^^ (0 : Int32)) ^^^ (0 : Int32))), (4, .int (6 : Int32)), (0, .ref h0), (1, .int a), (2, .int 2)]) hx hb dn_prod_71 rfl hl (Nat.le_of_ble_eq_true rfl) rfl (fun ls hl => ?_)
  refine lv_iinc (k := 1) (v := 5) (lv' := [(4, .int (5 : Int32)), (3, .int (((((0 : Int32) ^^^ (0 : Int32)) ^^^ (a <<< ((1 : Int32) &&& (31 : Int32)))) ^^^ (0 : Int32)) ^^^ (0 : Int32))), (0, .ref h0), (1, .int a), (2, .int 2)]) hx hb dn_prod_72 hl rfl (by decide) (Nat.le_of_ble_eq_true rfl) rfl (fun ls hl => ?_)
  refine lv_goto (tgt := 42) hx hb dn_prod_75 (by decide) ?_
  refine W.eq (g2 := F0 m 42 ls []) rfl ?_
  refine lv_iload hx hb dn_prod_42 (lv_at hl 0 rfl) ?_
  refine lv_iconst (v := 3) hx hb dn_prod_44 (by decide) ?_
  refine lv_icmp_le (tgt := 78) hx hb dn_prod_45 (by decide) (fun h9 => absurd h9 (by decide)) (fun _ => ?_)
  refine lv_iload_n hx hb dn_prod_48 rfl (lv_at hl 1 rfl) ?_
  refine lv_iload hx hb dn_prod_49 (lv_at hl 0 rfl) ?_
  refine lv_ishr hx hb dn_prod_51 ?_
  refine lv_iconst (v := 1) hx hb dn_prod_52 (by decide) ?_
  refine lv_iand hx hb dn_prod_53 ?_
  refine lv_iconst (v := 1) hx hb dn_prod_54 (by decide) ?_
  refine lv_icmp_ne (tgt := 70) hx hb dn_prod_55 (by decide) (fun _ => ?_) (fun h9 => absurd h9 f5)
  refine lv_iload_n hx hb dn_prod_70 rfl (lv_at hl 1 rfl) ?_
  refine lv_istore_n (i := 3) (lv' := [(3, .int (((((0 : Int32) ^^^ (0 : Int32)) ^^^ (a <<< ((1 : Int32) &&& (31 : Int32)))) ^^^ (0 : Int32)) ^^^ (0 : Int32))), (4, .int (5 : Int32)), (0, .ref h0), (1, .int a), (2, .int 2)]) hx hb dn_prod_71 rfl hl (Nat.le_of_ble_eq_true rfl) rfl (fun ls hl => ?_)
  refine lv_iinc (k := 1) (v := 4) (lv' := [(4, .int (4 : Int32)), (3, .int (((((0 : Int32) ^^^ (0 : Int32)) ^^^ (a <<< ((1 : Int32) &&& (31 : Int32)))) ^^^ (0 : Int32)) ^^^ (0 : Int32))), (0, .ref h0), (1, .int a), (2, .int 2)]) hx hb dn_prod_72 hl rfl (by decide) (Nat.le_of_ble_eq_true rfl) rfl (fun ls hl => ?_)
  refine lv_goto (tgt := 42) hx hb dn_prod_75 (by decide) ?_
  refine W.eq (g2 := F0 m 42 ls []) rfl ?_
  refine lv_iload hx hb dn_prod_42 (lv_at hl 0 rfl) ?_
  refine lv_iconst (v := 3) hx hb dn_prod_44 (by decide) ?_
  refine lv_icmp_le (tgt := 78) hx hb dn_prod_45 (by decide) (fun h9 => absurd h9 (by decide)) (fun _ => ?_)
  refine lv_iload_n hx hb dn_prod_48 rfl (lv_at hl 1 rfl) ?_
  refine lv_iload hx hb dn_prod_49 (lv_at hl 0 rfl) ?_
  refine lv_ishr hx hb dn_prod_51 ?_
  refine lv_iconst (v := 1) hx hb dn_prod_52 (by decide) ?_
  refine lv_iand hx hb dn_prod_53 ?_
  refine lv_iconst (v := 1) hx hb dn_prod_54 (by decide) ?_
  refine lv_icmp_ne (tgt := 70) hx hb dn_prod_55 (by decide) (fun h9 => ?_) (fun h9 => ?_)
  · refine lv_iload_n hx hb dn_prod_70 rfl (lv_at hl 1 rfl) ?_
    refine lv_istore_n (i := 3) (lv' := [(3, .int (((((0 : Int32) ^^^ (0 : Int32)) ^^^ (a <<< ((1 : Int32) &&& (31 : Int32)))) ^^^ (0 : Int32)) ^^^ (0 : Int32))), (4, .int (4 : Int32)), (0, .ref h0), (1, .int a), (2, .int 2)]) hx hb dn_prod_71 rfl hl (Nat.le_of_ble_eq_true rfl) rfl (fun ls hl => ?_)
    refine lv_iinc (k := 1) (v := 3) (lv' := [(4, .int (3 : Int32)), (3, .int (((((0 : Int32) ^^^ (0 : Int32)) ^^^ (a <<< ((1 : Int32) &&& (31 : Int32)))) ^^^ (0 : Int32)) ^^^ (0 : Int32))), (0, .ref h0), (1, .int a), (2, .int 2)]) hx hb dn_prod_72 hl rfl (by decide) (Nat.le_of_ble_eq_true rfl) rfl (fun ls hl => ?_)
    refine lv_goto (tgt := 42) hx hb dn_prod_75 (by decide) ?_
    refine W.eq (g2 := F0 m 42 ls []) rfl ?_
    refine lv_iload hx hb dn_prod_42 (lv_at hl 0 rfl) ?_
    refine lv_iconst (v := 3) hx hb dn_prod_44 (by decide) ?_
    refine lv_icmp_le (tgt := 78) hx hb dn_prod_45 (by decide) (fun _ => ?_) (fun h9 => absurd (by decide) h9)
    refine lv_iload_n hx hb dn_prod_78 rfl (lv_at hl 1 rfl) ?_
    exact W.iret (v := (((((0 : Int32) ^^^ (0 : Int32)) ^^^ (a <<< ((1 : Int32) &&& (31 : Int32)))) ^^^ (0 : Int32)) ^^^ (0 : Int32))) hx hb hr (fun t ht hW => ⟨⟨_, (), rfl, f3 h9, trivial⟩, hS.F ht⟩) hS.2.2 dn_prod_79
  · refine lv_iload_n hx hb dn_prod_58 rfl (lv_at hl 1 rfl) ?_
    refine lv_bipush (v := 19) hx hb dn_prod_59 (by decide) ?_
    refine lv_iload hx hb dn_prod_61 (lv_at hl 0 rfl) ?_
    refine lv_iconst (v := 4) hx hb dn_prod_63 (by decide) ?_
    refine lv_isub hx hb dn_prod_64 ?_
    refine lv_ishl hx hb dn_prod_65 ?_
    refine lv_ixor hx hb dn_prod_66 ?_
    refine lv_goto (tgt := 71) hx hb dn_prod_67 (by decide) ?_
    refine W.eq (g2 := F0 m 71 ls [.int ((((((0 : Int32) ^^^ (0 : Int32)) ^^^ (a <<< ((1 : Int32) &&& (31 : Int32)))) ^^^ (0 : Int32)) ^^^ (0 : Int32)) ^^^ ((19 : Int32) <<< (((4 : Int32) - (4 : Int32)) &&& (31 : Int32))))]) rfl ?_
    refine lv_istore_n (i := 3) (lv' := [(3, .int ((((((0 : Int32) ^^^ (0 : Int32)) ^^^ (a <<< ((1 : Int32) &&& (31 : Int32)))) ^^^ (0 : Int32)) ^^^ (0 : Int32)) ^^^ ((19 : Int32) <<< (((4 : Int32) - (4 : Int32)) &&& (31 : Int32))))), (4, .int (4 : Int32)), (0, .ref h0), (1, .int a), (2, .int 2)]) hx hb dn_prod_71 rfl hl (Nat.le_of_ble_eq_true rfl) rfl (fun ls hl => ?_)
    refine lv_iinc (k := 1) (v := 3) (lv' := [(4, .int (3 : Int32)), (3, .int ((((((0 : Int32) ^^^ (0 : Int32)) ^^^ (a <<< ((1 : Int32) &&& (31 : Int32)))) ^^^ (0 : Int32)) ^^^ (0 : Int32)) ^^^ ((19 : Int32) <<< (((4 : Int32) - (4 : Int32)) &&& (31 : Int32))))), (0, .ref h0), (1, .int a), (2, .int 2)]) hx hb dn_prod_72 hl rfl (by decide) (Nat.le_of_ble_eq_true rfl) rfl (fun ls hl => ?_)
    refine lv_goto (tgt := 42) hx hb dn_prod_75 (by decide) ?_
    refine W.eq (g2 := F0 m 42 ls []) rfl ?_
    refine lv_iload hx hb dn_prod_42 (lv_at hl 0 rfl) ?_
    refine lv_iconst (v := 3) hx hb dn_prod_44 (by decide) ?_
    refine lv_icmp_le (tgt := 78) hx hb dn_prod_45 (by decide) (fun _ => ?_) (fun h9 => absurd (by decide) h9)
    refine lv_iload_n hx hb dn_prod_78 rfl (lv_at hl 1 rfl) ?_
    exact W.iret (v := ((((((0 : Int32) ^^^ (0 : Int32)) ^^^ (a <<< ((1 : Int32) &&& (31 : Int32)))) ^^^ (0 : Int32)) ^^^ (0 : Int32)) ^^^ ((19 : Int32) <<< (((4 : Int32) - (4 : Int32)) &&& (31 : Int32))))) hx hb hr (fun t ht hW => ⟨⟨_, (), rfl, f4 h9, trivial⟩, hS.F ht⟩) hS.2.2 dn_prod_79
section JP
variable {p : Program} {l : Launch} {e0 : Env} {R : Room} {s : State} {m : MethodId} {args : Array Value} {below : List Frame} {meth : Method} {c : Code} {H : Heap} {locs : List Loc} {cells slots : Nat} {Q : State → Prop}
variable {D : va_G} {ct : Nat → ClassId} {A : Nat → Prop} {cc : ByteArray} {nL : Nat} {ws : va_W} {ls : Array Slot} {rest : List Value} {pc : Nat}
theorem jn_pc {e e2 a : Nat} {fs : List Value} (X : jn_X p s m args c D ct A "DotVaultModel" cc nL) (hP : va_P D jx_cl ws H) (hD : va_D A ws) (hS : va_S A s.heap H locs) (h0 : ws[0]? = some (a, .inr (6, fs))) (hl : ls.size = nL) (he : e < 15) (he2 : e + 1 = e2) (hR : 1 ≤ R.frames ∧ 24 ≤ R.locals) (hcs : cells ≤ R.cells ∧ slots ≤ R.slots)
    (hdg : decode cc pc = .ok (.invokevirtual 47, 3))
    (kk : ∀ (H1 : Heap) (locs1 : List Loc), va_P D jx_cl ws H1 → va_S A s.heap H1 locs1 → W p l e0 R s m args below meth c H1 locs1 cells slots Q (F0 m (pc + 3) ls [.int (nI (gf_pw e2))])) : W p l e0 R s m args below meth c H locs cells slots Q (F0 m pc ls [.int 2, .int (nI (gf_pw e)), .ref a]) := by
  subst he2
  have X0 := X
  obtain ⟨hx, hb, hml, hown, hts, hK, hA, hN⟩ := X
  have hf : ∀ q, va_A [] H.size q → A q := fun q hq => by
    rcases hq with ⟨k, e, h⟩ | h
    · simp at h
    · exact hA q (Nat.le_trans hS.1 h)
  refine va_calli (va_runV (C := "DotVaultModel") (b := a) (As := [.int (nI (gf_pw e)), .int 2]) (rest := []) (n := 2) (bytes := prog_9_method_3_code) (maxL := 5) (ret := some .int) ⟨hx, hb, hml, hown, hts⟩ (jn_prod l a H.size e he) ⟨callB_of 2 hts (jn_gi (jn_m 50 rfl)) rfl rfl rfl (hts _ (jn_m 17 rfl)) (hts _ (jn_m 47 rfl)) ⟨by decide, by decide, by decide +kernel⟩ hR, hts _ (jn_m 48 rfl), hts _ (jn_m 49 rfl)⟩ ⟨fun a' U g mk q => q, va_recv hK hP (ci := 6) (q := ("DotVaultModel", jx_T6, 19)) rfl h0, fun U hU hW => ⟨rfl, congrArg Array.size hU⟩⟩ rfl rfl hl rfl (lv_room (Nat.le_of_ble_eq_true rfl)) hdg hcs) hS (fun q _ h => hf q h) hf (fun r u t H1 locs1 ht hvm hr hB hz1 hk1 hS1 => ?_)
  subst hr
  refine kk H1 locs1 (hP.kept (fun k q hk => hk1 q.1 (hP k q hk).lt (fun hq => ?_))) hS1
  rcases hq with ⟨k2, e2, h⟩ | h
  · simp at h
  · have := (hP k q hk).lt
    omega
end JP
def jn_lm : List (Nat × Nat) := [(20, 0), (21, 0), (22, 0), (23, 0), (24, 0), (25, 0), (26, 0), (27, 0), (28, 0), (29, 0), (30, 0), (31, 0), (32, 0)]
def B_Model (D : va_G) (ct : Nat → ClassId) (h0 : Nat) (w : va_W) : Prop := ∃ ad : Nat → Nat → Nat, ad 20 0 = h0 ∧ w = jn_ws jn_lm (D, ct, ad) h00
theorem dn_Model_0 : decode prog_9_method_1_code 0 = .ok (.aload_n 0, 1) := by decide +kernel
theorem dn_Model_1 : decode prog_9_method_1_code 1 = .ok (.invokespecial 1, 3) := by decide +kernel
theorem dn_Model_4 : decode prog_9_method_1_code 4 = .ok (.aload_n 0, 1) := by decide +kernel
theorem dn_Model_5 : decode prog_9_method_1_code 5 = .ok (.bipush 80, 2) := by decide +kernel
theorem dn_Model_7 : decode prog_9_method_1_code 7 = .ok (.newarray .int, 2) := by decide +kernel
theorem dn_Model_9 : decode prog_9_method_1_code 9 = .ok (.putfield 7, 3) := by decide +kernel
theorem dn_Model_12 : decode prog_9_method_1_code 12 = .ok (.aload_n 0, 1) := by decide +kernel
theorem dn_Model_13 : decode prog_9_method_1_code 13 = .ok (.sipush 1944, 3) := by decide +kernel
theorem dn_Model_16 : decode prog_9_method_1_code 16 = .ok (.newarray .boolean, 2) := by decide +kernel
theorem dn_Model_18 : decode prog_9_method_1_code 18 = .ok (.putfield 13, 3) := by decide +kernel
theorem dn_Model_21 : decode prog_9_method_1_code 21 = .ok (.aload_n 0, 1) := by decide +kernel
theorem dn_Model_22 : decode prog_9_method_1_code 22 = .ok (.bipush 15, 2) := by decide +kernel
theorem dn_Model_24 : decode prog_9_method_1_code 24 = .ok (.newarray .int, 2) := by decide +kernel
theorem dn_Model_26 : decode prog_9_method_1_code 26 = .ok (.putfield 17, 3) := by decide +kernel
theorem dn_Model_29 : decode prog_9_method_1_code 29 = .ok (.aload_n 0, 1) := by decide +kernel
theorem dn_Model_30 : decode prog_9_method_1_code 30 = .ok (.sipush 324, 3) := by decide +kernel
theorem dn_Model_33 : decode prog_9_method_1_code 33 = .ok (.newarray .boolean, 2) := by decide +kernel
theorem dn_Model_35 : decode prog_9_method_1_code 35 = .ok (.putfield 20, 3) := by decide +kernel
theorem dn_Model_38 : decode prog_9_method_1_code 38 = .ok (.aload_n 0, 1) := by decide +kernel
theorem dn_Model_39 : decode prog_9_method_1_code 39 = .ok (.sipush 324, 3) := by decide +kernel
theorem dn_Model_42 : decode prog_9_method_1_code 42 = .ok (.newarray .boolean, 2) := by decide +kernel
theorem dn_Model_44 : decode prog_9_method_1_code 44 = .ok (.putfield 23, 3) := by decide +kernel
theorem dn_Model_47 : decode prog_9_method_1_code 47 = .ok (.aload_n 0, 1) := by decide +kernel
theorem dn_Model_48 : decode prog_9_method_1_code 48 = .ok (.bipush 15, 2) := by decide +kernel
theorem dn_Model_50 : decode prog_9_method_1_code 50 = .ok (.newarray .int, 2) := by decide +kernel
theorem dn_Model_52 : decode prog_9_method_1_code 52 = .ok (.putfield 26, 3) := by decide +kernel
theorem dn_Model_55 : decode prog_9_method_1_code 55 = .ok (.aload_n 0, 1) := by decide +kernel
theorem dn_Model_56 : decode prog_9_method_1_code 56 = .ok (.iconst 5, 1) := by decide +kernel
theorem dn_Model_57 : decode prog_9_method_1_code 57 = .ok (.newarray .int, 2) := by decide +kernel
theorem dn_Model_59 : decode prog_9_method_1_code 59 = .ok (.putfield 29, 3) := by decide +kernel
theorem dn_Model_62 : decode prog_9_method_1_code 62 = .ok (.aload_n 0, 1) := by decide +kernel
theorem dn_Model_63 : decode prog_9_method_1_code 63 = .ok (.bipush 44, 2) := by decide +kernel
theorem dn_Model_65 : decode prog_9_method_1_code 65 = .ok (.newarray .int, 2) := by decide +kernel
theorem dn_Model_67 : decode prog_9_method_1_code 67 = .ok (.putfield 32, 3) := by decide +kernel
theorem dn_Model_70 : decode prog_9_method_1_code 70 = .ok (.aload_n 0, 1) := by decide +kernel
theorem dn_Model_71 : decode prog_9_method_1_code 71 = .ok (.iconst 4, 1) := by decide +kernel
theorem dn_Model_72 : decode prog_9_method_1_code 72 = .ok (.newarray .int, 2) := by decide +kernel
theorem dn_Model_74 : decode prog_9_method_1_code 74 = .ok (.putfield 35, 3) := by decide +kernel
theorem dn_Model_77 : decode prog_9_method_1_code 77 = .ok (.aload_n 0, 1) := by decide +kernel
theorem dn_Model_78 : decode prog_9_method_1_code 78 = .ok (.bipush 6, 2) := by decide +kernel
theorem dn_Model_80 : decode prog_9_method_1_code 80 = .ok (.newarray .boolean, 2) := by decide +kernel
theorem dn_Model_82 : decode prog_9_method_1_code 82 = .ok (.putfield 38, 3) := by decide +kernel
theorem dn_Model_85 : decode prog_9_method_1_code 85 = .ok (.aload_n 0, 1) := by decide +kernel
theorem dn_Model_86 : decode prog_9_method_1_code 86 = .ok (.sipush 240, 3) := by decide +kernel
theorem dn_Model_89 : decode prog_9_method_1_code 89 = .ok (.newarray .int, 2) := by decide +kernel
theorem dn_Model_91 : decode prog_9_method_1_code 91 = .ok (.putfield 41, 3) := by decide +kernel
theorem dn_Model_94 : decode prog_9_method_1_code 94 = .ok (.aload_n 0, 1) := by decide +kernel
theorem dn_Model_95 : decode prog_9_method_1_code 95 = .ok (.bipush 80, 2) := by decide +kernel
theorem dn_Model_97 : decode prog_9_method_1_code 97 = .ok (.newarray .int, 2) := by decide +kernel
theorem dn_Model_99 : decode prog_9_method_1_code 99 = .ok (.putfield 44, 3) := by decide +kernel
theorem dn_Model_102 : decode prog_9_method_1_code 102 = .ok (.iconst 1, 1) := by decide +kernel
theorem dn_Model_103 : decode prog_9_method_1_code 103 = .ok (.istore_n 1, 1) := by decide +kernel
theorem dn_Model_104 : decode prog_9_method_1_code 104 = .ok (.iconst 0, 1) := by decide +kernel
theorem dn_Model_105 : decode prog_9_method_1_code 105 = .ok (.istore_n 2, 1) := by decide +kernel
theorem dn_Model_106 : decode prog_9_method_1_code 106 = .ok (.iload_n 2, 1) := by decide +kernel
theorem dn_Model_107 : decode prog_9_method_1_code 107 = .ok (.bipush 15, 2) := by decide +kernel
theorem dn_Model_109 : decode prog_9_method_1_code 109 = .ok (.if_icmp .ge 23, 3) := by decide +kernel
theorem dn_Model_112 : decode prog_9_method_1_code 112 = .ok (.aload_n 0, 1) := by decide +kernel
theorem dn_Model_113 : decode prog_9_method_1_code 113 = .ok (.getfield 17, 3) := by decide +kernel
theorem dn_Model_116 : decode prog_9_method_1_code 116 = .ok (.iload_n 2, 1) := by decide +kernel
theorem dn_Model_117 : decode prog_9_method_1_code 117 = .ok (.iload_n 1, 1) := by decide +kernel
theorem dn_Model_118 : decode prog_9_method_1_code 118 = .ok (.iastore, 1) := by decide +kernel
theorem dn_Model_119 : decode prog_9_method_1_code 119 = .ok (.aload_n 0, 1) := by decide +kernel
theorem dn_Model_120 : decode prog_9_method_1_code 120 = .ok (.iload_n 1, 1) := by decide +kernel
theorem dn_Model_121 : decode prog_9_method_1_code 121 = .ok (.iconst 2, 1) := by decide +kernel
theorem dn_Model_122 : decode prog_9_method_1_code 122 = .ok (.invokevirtual 47, 3) := by decide +kernel
theorem dn_Model_125 : decode prog_9_method_1_code 125 = .ok (.istore_n 1, 1) := by decide +kernel
theorem dn_Model_126 : decode prog_9_method_1_code 126 = .ok (.iinc 2 1, 3) := by decide +kernel
theorem dn_Model_129 : decode prog_9_method_1_code 129 = .ok (.goto (-23), 3) := by decide +kernel
theorem dn_Model_132 : decode prog_9_method_1_code 132 = .ok (.iconst 0, 1) := by decide +kernel
theorem dn_Model_133 : decode prog_9_method_1_code 133 = .ok (.istore_n 2, 1) := by decide +kernel
theorem dn_Model_134 : decode prog_9_method_1_code 134 = .ok (.iload_n 2, 1) := by decide +kernel
theorem dn_Model_135 : decode prog_9_method_1_code 135 = .ok (.iconst 4, 1) := by decide +kernel
theorem dn_Model_136 : decode prog_9_method_1_code 136 = .ok (.if_icmp .ge 17, 3) := by decide +kernel
theorem dn_Model_139 : decode prog_9_method_1_code 139 = .ok (.aload_n 0, 1) := by decide +kernel
theorem dn_Model_140 : decode prog_9_method_1_code 140 = .ok (.getfield 35, 3) := by decide +kernel
theorem dn_Model_143 : decode prog_9_method_1_code 143 = .ok (.iload_n 2, 1) := by decide +kernel
theorem dn_Model_144 : decode prog_9_method_1_code 144 = .ok (.bipush (-2), 2) := by decide +kernel
theorem dn_Model_146 : decode prog_9_method_1_code 146 = .ok (.iastore, 1) := by decide +kernel
theorem dn_Model_147 : decode prog_9_method_1_code 147 = .ok (.iinc 2 1, 3) := by decide +kernel
theorem dn_Model_150 : decode prog_9_method_1_code 150 = .ok (.goto (-16), 3) := by decide +kernel
theorem dn_Model_153 : decode prog_9_method_1_code 153 = .ok (.return_, 1) := by decide +kernel
set_option maxHeartbeats 4000000 in
set_option maxRecDepth 100000 in
theorem c_Model (l : Launch) : jn_C l "DotVaultModel" prog_9_method_1_code 3 { frames := 1, cells := 12, slots := 3081, locals := 24 } 6 [.int 0, .int 0, .null, .int 0, .null, .null, .null, .null, .null, .null, .null, .null, .int 0, .int 0, .int 0, .null, .null, .int 0, .null] B_Model := by
  refine jn_by (by decide) (by decide +kernel) (fun D ct h0 p e s m args below meth c A Q ls X hin hl hP hD hS fin => ?_)
  have hx := X.1
  have hb := X.2.1
  have hK := X.2.2.2.2.2.1
  refine lv_aload_n hx hb dn_Model_0 rfl (lv_at hl 0 rfl) ?_
  refine jn_obj X (jn_m 6 rfl) hl.1 dn_Model_1 ⟨(Nat.le_of_ble_eq_true rfl), (Nat.le_of_ble_eq_true rfl)⟩ ?_
  refine lv_aload_n hx hb dn_Model_4 rfl (lv_at hl 0 rfl) ?_
  refine lv_bipush (v := 80) hx hb dn_Model_5 (by decide) ?_
  refine jn_newa X hP hD hS (a0 := (80, .inl (fun _ => 0))) (X.2.2.2.2.1 _ (jn_m 9 rfl)) rfl 0 rfl (fun _ => rfl) (by decide) (by decide) (by decide) (Nat.le_of_ble_eq_true rfl) (Nat.le_of_ble_eq_true rfl) dn_Model_7 (fun q1 H hP hD hS => ?_)
  have hP : va_P D jx_cl [(h0, .inr (6, [.int 0, .int 0, .null, .int 0, .null, .null, .null, .null, .null, .null, .null, .null, .int 0, .int 0, .int 0, .null, .null, .int 0, .null])), (q1, .inl (ct 0, 80, .inl (fun _ => 0)))] H := hP
  have hD : va_D A [(h0, .inr (6, [.int 0, .int 0, .null, .int 0, .null, .null, .null, .null, .null, .null, .null, .null, .int 0, .int 0, .int 0, .null, .null, .int 0, .null])), (q1, .inl (ct 0, 80, .inl (fun _ => 0)))] := hD
  refine W.widen (k := 1) (n := 80) (Nat.le_of_ble_eq_true rfl) (Nat.le_of_ble_eq_true rfl) ?_
  refine jn_put X hin hP hD hS (ty := (.array .int)) (v := .ref q1) 0 6 2 rfl rfl (by decide) (jn_m 75 rfl) rfl (by decide +kernel) rfl rfl (Nat.le_of_ble_eq_true rfl) dn_Model_9 (fun H locs hP hD hS => ?_)
  have hP : va_P D jx_cl [(h0, .inr (6, [.int 0, .int 0, .ref q1, .int 0, .null, .null, .null, .null, .null, .null, .null, .null, .int 0, .int 0, .int 0, .null, .null, .int 0, .null])), (q1, .inl (ct 0, 80, .inl (fun _ => 0)))] H := hP
  have hD : va_D A [(h0, .inr (6, [.int 0, .int 0, .ref q1, .int 0, .null, .null, .null, .null, .null, .null, .null, .null, .int 0, .int 0, .int 0, .null, .null, .int 0, .null])), (q1, .inl (ct 0, 80, .inl (fun _ => 0)))] := hD
  refine lv_aload_n hx hb dn_Model_12 rfl (lv_at hl 0 rfl) ?_
  refine lv_sipush (v := 1944) hx hb dn_Model_13 (by decide) ?_
  refine jn_newa X hP hD hS (a0 := (1944, .inl (fun _ => 0))) (X.2.2.2.2.1 _ (jn_m 10 rfl)) rfl 1 rfl (fun _ => rfl) (by decide) (by decide) (by decide) (Nat.le_of_ble_eq_true rfl) (Nat.le_of_ble_eq_true rfl) dn_Model_16 (fun q2 H hP hD hS => ?_)
  have hP : va_P D jx_cl [(h0, .inr (6, [.int 0, .int 0, .ref q1, .int 0, .null, .null, .null, .null, .null, .null, .null, .null, .int 0, .int 0, .int 0, .null, .null, .int 0, .null])), (q1, .inl (ct 0, 80, .inl (fun _ => 0))), (q2, .inl (ct 1, 1944, .inl (fun _ => 0)))] H := hP
  have hD : va_D A [(h0, .inr (6, [.int 0, .int 0, .ref q1, .int 0, .null, .null, .null, .null, .null, .null, .null, .null, .int 0, .int 0, .int 0, .null, .null, .int 0, .null])), (q1, .inl (ct 0, 80, .inl (fun _ => 0))), (q2, .inl (ct 1, 1944, .inl (fun _ => 0)))] := hD
  refine W.widen (k := 2) (n := 2024) (Nat.le_of_ble_eq_true rfl) (Nat.le_of_ble_eq_true rfl) ?_
  refine jn_put X hin hP hD hS (ty := (.array .boolean)) (v := .ref q2) 0 6 4 rfl rfl (by decide) (jn_m 76 rfl) rfl (by decide +kernel) rfl rfl (Nat.le_of_ble_eq_true rfl) dn_Model_18 (fun H locs hP hD hS => ?_)
  have hP : va_P D jx_cl [(h0, .inr (6, [.int 0, .int 0, .ref q1, .int 0, .ref q2, .null, .null, .null, .null, .null, .null, .null, .int 0, .int 0, .int 0, .null, .null, .int 0, .null])), (q1, .inl (ct 0, 80, .inl (fun _ => 0))), (q2, .inl (ct 1, 1944, .inl (fun _ => 0)))] H := hP
  have hD : va_D A [(h0, .inr (6, [.int 0, .int 0, .ref q1, .int 0, .ref q2, .null, .null, .null, .null, .null, .null, .null, .int 0, .int 0, .int 0, .null, .null, .int 0, .null])), (q1, .inl (ct 0, 80, .inl (fun _ => 0))), (q2, .inl (ct 1, 1944, .inl (fun _ => 0)))] := hD
  refine lv_aload_n hx hb dn_Model_21 rfl (lv_at hl 0 rfl) ?_
  refine lv_bipush (v := 15) hx hb dn_Model_22 (by decide) ?_
  refine jn_newa X hP hD hS (a0 := (15, .inl (fun _ => 0))) (X.2.2.2.2.1 _ (jn_m 9 rfl)) rfl 0 rfl (fun _ => rfl) (by decide) (by decide) (by decide) (Nat.le_of_ble_eq_true rfl) (Nat.le_of_ble_eq_true rfl) dn_Model_24 (fun q3 H hP hD hS => ?_)
  have hP : va_P D jx_cl [(h0, .inr (6, [.int 0, .int 0, .ref q1, .int 0, .ref q2, .null, .null, .null, .null, .null, .null, .null, .int 0, .int 0, .int 0, .null, .null, .int 0, .null])), (q1, .inl (ct 0, 80, .inl (fun _ => 0))), (q2, .inl (ct 1, 1944, .inl (fun _ => 0))), (q3, .inl (ct 0, 15, .inl (fun _ => 0)))] H := hP
  have hD : va_D A [(h0, .inr (6, [.int 0, .int 0, .ref q1, .int 0, .ref q2, .null, .null, .null, .null, .null, .null, .null, .int 0, .int 0, .int 0, .null, .null, .int 0, .null])), (q1, .inl (ct 0, 80, .inl (fun _ => 0))), (q2, .inl (ct 1, 1944, .inl (fun _ => 0))), (q3, .inl (ct 0, 15, .inl (fun _ => 0)))] := hD
  refine W.widen (k := 3) (n := 2039) (Nat.le_of_ble_eq_true rfl) (Nat.le_of_ble_eq_true rfl) ?_
  refine jn_put X hin hP hD hS (ty := (.array .int)) (v := .ref q3) 0 6 5 rfl rfl (by decide) (jn_m 77 rfl) rfl (by decide +kernel) rfl rfl (Nat.le_of_ble_eq_true rfl) dn_Model_26 (fun H locs hP hD hS => ?_)
  have hP : va_P D jx_cl [(h0, .inr (6, [.int 0, .int 0, .ref q1, .int 0, .ref q2, .ref q3, .null, .null, .null, .null, .null, .null, .int 0, .int 0, .int 0, .null, .null, .int 0, .null])), (q1, .inl (ct 0, 80, .inl (fun _ => 0))), (q2, .inl (ct 1, 1944, .inl (fun _ => 0))), (q3, .inl (ct 0, 15, .inl (fun _ => 0)))] H := hP
  have hD : va_D A [(h0, .inr (6, [.int 0, .int 0, .ref q1, .int 0, .ref q2, .ref q3, .null, .null, .null, .null, .null, .null, .int 0, .int 0, .int 0, .null, .null, .int 0, .null])), (q1, .inl (ct 0, 80, .inl (fun _ => 0))), (q2, .inl (ct 1, 1944, .inl (fun _ => 0))), (q3, .inl (ct 0, 15, .inl (fun _ => 0)))] := hD
  refine lv_aload_n hx hb dn_Model_29 rfl (lv_at hl 0 rfl) ?_
  refine lv_sipush (v := 324) hx hb dn_Model_30 (by decide) ?_
  refine jn_newa X hP hD hS (a0 := (324, .inl (fun _ => 0))) (X.2.2.2.2.1 _ (jn_m 10 rfl)) rfl 1 rfl (fun _ => rfl) (by decide) (by decide) (by decide) (Nat.le_of_ble_eq_true rfl) (Nat.le_of_ble_eq_true rfl) dn_Model_33 (fun q4 H hP hD hS => ?_)
  have hP : va_P D jx_cl [(h0, .inr (6, [.int 0, .int 0, .ref q1, .int 0, .ref q2, .ref q3, .null, .null, .null, .null, .null, .null, .int 0, .int 0, .int 0, .null, .null, .int 0, .null])), (q1, .inl (ct 0, 80, .inl (fun _ => 0))), (q2, .inl (ct 1, 1944, .inl (fun _ => 0))), (q3, .inl (ct 0, 15, .inl (fun _ => 0))), (q4, .inl (ct 1, 324, .inl (fun _ => 0)))] H := hP
  have hD : va_D A [(h0, .inr (6, [.int 0, .int 0, .ref q1, .int 0, .ref q2, .ref q3, .null, .null, .null, .null, .null, .null, .int 0, .int 0, .int 0, .null, .null, .int 0, .null])), (q1, .inl (ct 0, 80, .inl (fun _ => 0))), (q2, .inl (ct 1, 1944, .inl (fun _ => 0))), (q3, .inl (ct 0, 15, .inl (fun _ => 0))), (q4, .inl (ct 1, 324, .inl (fun _ => 0)))] := hD
  refine W.widen (k := 4) (n := 2363) (Nat.le_of_ble_eq_true rfl) (Nat.le_of_ble_eq_true rfl) ?_
  refine jn_put X hin hP hD hS (ty := (.array .boolean)) (v := .ref q4) 0 6 6 rfl rfl (by decide) (jn_m 78 rfl) rfl (by decide +kernel) rfl rfl (Nat.le_of_ble_eq_true rfl) dn_Model_35 (fun H locs hP hD hS => ?_)
  have hP : va_P D jx_cl [(h0, .inr (6, [.int 0, .int 0, .ref q1, .int 0, .ref q2, .ref q3, .ref q4, .null, .null, .null, .null, .null, .int 0, .int 0, .int 0, .null, .null, .int 0, .null])), (q1, .inl (ct 0, 80, .inl (fun _ => 0))), (q2, .inl (ct 1, 1944, .inl (fun _ => 0))), (q3, .inl (ct 0, 15, .inl (fun _ => 0))), (q4, .inl (ct 1, 324, .inl (fun _ => 0)))] H := hP
  have hD : va_D A [(h0, .inr (6, [.int 0, .int 0, .ref q1, .int 0, .ref q2, .ref q3, .ref q4, .null, .null, .null, .null, .null, .int 0, .int 0, .int 0, .null, .null, .int 0, .null])), (q1, .inl (ct 0, 80, .inl (fun _ => 0))), (q2, .inl (ct 1, 1944, .inl (fun _ => 0))), (q3, .inl (ct 0, 15, .inl (fun _ => 0))), (q4, .inl (ct 1, 324, .inl (fun _ => 0)))] := hD
  refine lv_aload_n hx hb dn_Model_38 rfl (lv_at hl 0 rfl) ?_
  refine lv_sipush (v := 324) hx hb dn_Model_39 (by decide) ?_
  refine jn_newa X hP hD hS (a0 := (324, .inl (fun _ => 0))) (X.2.2.2.2.1 _ (jn_m 10 rfl)) rfl 1 rfl (fun _ => rfl) (by decide) (by decide) (by decide) (Nat.le_of_ble_eq_true rfl) (Nat.le_of_ble_eq_true rfl) dn_Model_42 (fun q5 H hP hD hS => ?_)
  have hP : va_P D jx_cl [(h0, .inr (6, [.int 0, .int 0, .ref q1, .int 0, .ref q2, .ref q3, .ref q4, .null, .null, .null, .null, .null, .int 0, .int 0, .int 0, .null, .null, .int 0, .null])), (q1, .inl (ct 0, 80, .inl (fun _ => 0))), (q2, .inl (ct 1, 1944, .inl (fun _ => 0))), (q3, .inl (ct 0, 15, .inl (fun _ => 0))), (q4, .inl (ct 1, 324, .inl (fun _ => 0))), (q5, .inl (ct 1, 324, .inl (fun _ => 0)))] H := hP
  have hD : va_D A [(h0, .inr (6, [.int 0, .int 0, .ref q1, .int 0, .ref q2, .ref q3, .ref q4, .null, .null, .null, .null, .null, .int 0, .int 0, .int 0, .null, .null, .int 0, .null])), (q1, .inl (ct 0, 80, .inl (fun _ => 0))), (q2, .inl (ct 1, 1944, .inl (fun _ => 0))), (q3, .inl (ct 0, 15, .inl (fun _ => 0))), (q4, .inl (ct 1, 324, .inl (fun _ => 0))), (q5, .inl (ct 1, 324, .inl (fun _ => 0)))] := hD
  refine W.widen (k := 5) (n := 2687) (Nat.le_of_ble_eq_true rfl) (Nat.le_of_ble_eq_true rfl) ?_
  refine jn_put X hin hP hD hS (ty := (.array .boolean)) (v := .ref q5) 0 6 7 rfl rfl (by decide) (jn_m 79 rfl) rfl (by decide +kernel) rfl rfl (Nat.le_of_ble_eq_true rfl) dn_Model_44 (fun H locs hP hD hS => ?_)
  have hP : va_P D jx_cl [(h0, .inr (6, [.int 0, .int 0, .ref q1, .int 0, .ref q2, .ref q3, .ref q4, .ref q5, .null, .null, .null, .null, .int 0, .int 0, .int 0, .null, .null, .int 0, .null])), (q1, .inl (ct 0, 80, .inl (fun _ => 0))), (q2, .inl (ct 1, 1944, .inl (fun _ => 0))), (q3, .inl (ct 0, 15, .inl (fun _ => 0))), (q4, .inl (ct 1, 324, .inl (fun _ => 0))), (q5, .inl (ct 1, 324, .inl (fun _ => 0)))] H := hP
  have hD : va_D A [(h0, .inr (6, [.int 0, .int 0, .ref q1, .int 0, .ref q2, .ref q3, .ref q4, .ref q5, .null, .null, .null, .null, .int 0, .int 0, .int 0, .null, .null, .int 0, .null])), (q1, .inl (ct 0, 80, .inl (fun _ => 0))), (q2, .inl (ct 1, 1944, .inl (fun _ => 0))), (q3, .inl (ct 0, 15, .inl (fun _ => 0))), (q4, .inl (ct 1, 324, .inl (fun _ => 0))), (q5, .inl (ct 1, 324, .inl (fun _ => 0)))] := hD
  refine lv_aload_n hx hb dn_Model_47 rfl (lv_at hl 0 rfl) ?_
  refine lv_bipush (v := 15) hx hb dn_Model_48 (by decide) ?_
  refine jn_newa X hP hD hS (a0 := (15, .inl (fun _ => 0))) (X.2.2.2.2.1 _ (jn_m 9 rfl)) rfl 0 rfl (fun _ => rfl) (by decide) (by decide) (by decide) (Nat.le_of_ble_eq_true rfl) (Nat.le_of_ble_eq_true rfl) dn_Model_50 (fun q6 H hP hD hS => ?_)
  have hP : va_P D jx_cl [(h0, .inr (6, [.int 0, .int 0, .ref q1, .int 0, .ref q2, .ref q3, .ref q4, .ref q5, .null, .null, .null, .null, .int 0, .int 0, .int 0, .null, .null, .int 0, .null])), (q1, .inl (ct 0, 80, .inl (fun _ => 0))), (q2, .inl (ct 1, 1944, .inl (fun _ => 0))), (q3, .inl (ct 0, 15, .inl (fun _ => 0))), (q4, .inl (ct 1, 324, .inl (fun _ => 0))), (q5, .inl (ct 1, 324, .inl (fun _ => 0))), (q6, .inl (ct 0, 15, .inl (fun _ => 0)))] H := hP
  have hD : va_D A [(h0, .inr (6, [.int 0, .int 0, .ref q1, .int 0, .ref q2, .ref q3, .ref q4, .ref q5, .null, .null, .null, .null, .int 0, .int 0, .int 0, .null, .null, .int 0, .null])), (q1, .inl (ct 0, 80, .inl (fun _ => 0))), (q2, .inl (ct 1, 1944, .inl (fun _ => 0))), (q3, .inl (ct 0, 15, .inl (fun _ => 0))), (q4, .inl (ct 1, 324, .inl (fun _ => 0))), (q5, .inl (ct 1, 324, .inl (fun _ => 0))), (q6, .inl (ct 0, 15, .inl (fun _ => 0)))] := hD
  refine W.widen (k := 6) (n := 2702) (Nat.le_of_ble_eq_true rfl) (Nat.le_of_ble_eq_true rfl) ?_
  refine jn_put X hin hP hD hS (ty := (.array .int)) (v := .ref q6) 0 6 8 rfl rfl (by decide) (jn_m 80 rfl) rfl (by decide +kernel) rfl rfl (Nat.le_of_ble_eq_true rfl) dn_Model_52 (fun H locs hP hD hS => ?_)
  have hP : va_P D jx_cl [(h0, .inr (6, [.int 0, .int 0, .ref q1, .int 0, .ref q2, .ref q3, .ref q4, .ref q5, .ref q6, .null, .null, .null, .int 0, .int 0, .int 0, .null, .null, .int 0, .null])), (q1, .inl (ct 0, 80, .inl (fun _ => 0))), (q2, .inl (ct 1, 1944, .inl (fun _ => 0))), (q3, .inl (ct 0, 15, .inl (fun _ => 0))), (q4, .inl (ct 1, 324, .inl (fun _ => 0))), (q5, .inl (ct 1, 324, .inl (fun _ => 0))), (q6, .inl (ct 0, 15, .inl (fun _ => 0)))] H := hP
  have hD : va_D A [(h0, .inr (6, [.int 0, .int 0, .ref q1, .int 0, .ref q2, .ref q3, .ref q4, .ref q5, .ref q6, .null, .null, .null, .int 0, .int 0, .int 0, .null, .null, .int 0, .null])), (q1, .inl (ct 0, 80, .inl (fun _ => 0))), (q2, .inl (ct 1, 1944, .inl (fun _ => 0))), (q3, .inl (ct 0, 15, .inl (fun _ => 0))), (q4, .inl (ct 1, 324, .inl (fun _ => 0))), (q5, .inl (ct 1, 324, .inl (fun _ => 0))), (q6, .inl (ct 0, 15, .inl (fun _ => 0)))] := hD
  refine lv_aload_n hx hb dn_Model_55 rfl (lv_at hl 0 rfl) ?_
  refine lv_iconst (v := 5) hx hb dn_Model_56 (by decide) ?_
  refine jn_newa X hP hD hS (a0 := (5, .inl (fun _ => 0))) (X.2.2.2.2.1 _ (jn_m 9 rfl)) rfl 0 rfl (fun _ => rfl) (by decide) (by decide) (by decide) (Nat.le_of_ble_eq_true rfl) (Nat.le_of_ble_eq_true rfl) dn_Model_57 (fun q7 H hP hD hS => ?_)
  have hP : va_P D jx_cl [(h0, .inr (6, [.int 0, .int 0, .ref q1, .int 0, .ref q2, .ref q3, .ref q4, .ref q5, .ref q6, .null, .null, .null, .int 0, .int 0, .int 0, .null, .null, .int 0, .null])), (q1, .inl (ct 0, 80, .inl (fun _ => 0))), (q2, .inl (ct 1, 1944, .inl (fun _ => 0))), (q3, .inl (ct 0, 15, .inl (fun _ => 0))), (q4, .inl (ct 1, 324, .inl (fun _ => 0))), (q5, .inl (ct 1, 324, .inl (fun _ => 0))), (q6, .inl (ct 0, 15, .inl (fun _ => 0))), (q7, .inl (ct 0, 5, .inl (fun _ => 0)))] H := hP
  have hD : va_D A [(h0, .inr (6, [.int 0, .int 0, .ref q1, .int 0, .ref q2, .ref q3, .ref q4, .ref q5, .ref q6, .null, .null, .null, .int 0, .int 0, .int 0, .null, .null, .int 0, .null])), (q1, .inl (ct 0, 80, .inl (fun _ => 0))), (q2, .inl (ct 1, 1944, .inl (fun _ => 0))), (q3, .inl (ct 0, 15, .inl (fun _ => 0))), (q4, .inl (ct 1, 324, .inl (fun _ => 0))), (q5, .inl (ct 1, 324, .inl (fun _ => 0))), (q6, .inl (ct 0, 15, .inl (fun _ => 0))), (q7, .inl (ct 0, 5, .inl (fun _ => 0)))] := hD
  refine W.widen (k := 7) (n := 2707) (Nat.le_of_ble_eq_true rfl) (Nat.le_of_ble_eq_true rfl) ?_
  refine jn_put X hin hP hD hS (ty := (.array .int)) (v := .ref q7) 0 6 9 rfl rfl (by decide) (jn_m 81 rfl) rfl (by decide +kernel) rfl rfl (Nat.le_of_ble_eq_true rfl) dn_Model_59 (fun H locs hP hD hS => ?_)
  have hP : va_P D jx_cl [(h0, .inr (6, [.int 0, .int 0, .ref q1, .int 0, .ref q2, .ref q3, .ref q4, .ref q5, .ref q6, .ref q7, .null, .null, .int 0, .int 0, .int 0, .null, .null, .int 0, .null])), (q1, .inl (ct 0, 80, .inl (fun _ => 0))), (q2, .inl (ct 1, 1944, .inl (fun _ => 0))), (q3, .inl (ct 0, 15, .inl (fun _ => 0))), (q4, .inl (ct 1, 324, .inl (fun _ => 0))), (q5, .inl (ct 1, 324, .inl (fun _ => 0))), (q6, .inl (ct 0, 15, .inl (fun _ => 0))), (q7, .inl (ct 0, 5, .inl (fun _ => 0)))] H := hP
  have hD : va_D A [(h0, .inr (6, [.int 0, .int 0, .ref q1, .int 0, .ref q2, .ref q3, .ref q4, .ref q5, .ref q6, .ref q7, .null, .null, .int 0, .int 0, .int 0, .null, .null, .int 0, .null])), (q1, .inl (ct 0, 80, .inl (fun _ => 0))), (q2, .inl (ct 1, 1944, .inl (fun _ => 0))), (q3, .inl (ct 0, 15, .inl (fun _ => 0))), (q4, .inl (ct 1, 324, .inl (fun _ => 0))), (q5, .inl (ct 1, 324, .inl (fun _ => 0))), (q6, .inl (ct 0, 15, .inl (fun _ => 0))), (q7, .inl (ct 0, 5, .inl (fun _ => 0)))] := hD
  refine lv_aload_n hx hb dn_Model_62 rfl (lv_at hl 0 rfl) ?_
  refine lv_bipush (v := 44) hx hb dn_Model_63 (by decide) ?_
  refine jn_newa X hP hD hS (a0 := (44, .inl (fun _ => 0))) (X.2.2.2.2.1 _ (jn_m 9 rfl)) rfl 0 rfl (fun _ => rfl) (by decide) (by decide) (by decide) (Nat.le_of_ble_eq_true rfl) (Nat.le_of_ble_eq_true rfl) dn_Model_65 (fun q8 H hP hD hS => ?_)
  have hP : va_P D jx_cl [(h0, .inr (6, [.int 0, .int 0, .ref q1, .int 0, .ref q2, .ref q3, .ref q4, .ref q5, .ref q6, .ref q7, .null, .null, .int 0, .int 0, .int 0, .null, .null, .int 0, .null])), (q1, .inl (ct 0, 80, .inl (fun _ => 0))), (q2, .inl (ct 1, 1944, .inl (fun _ => 0))), (q3, .inl (ct 0, 15, .inl (fun _ => 0))), (q4, .inl (ct 1, 324, .inl (fun _ => 0))), (q5, .inl (ct 1, 324, .inl (fun _ => 0))), (q6, .inl (ct 0, 15, .inl (fun _ => 0))), (q7, .inl (ct 0, 5, .inl (fun _ => 0))), (q8, .inl (ct 0, 44, .inl (fun _ => 0)))] H := hP
  have hD : va_D A [(h0, .inr (6, [.int 0, .int 0, .ref q1, .int 0, .ref q2, .ref q3, .ref q4, .ref q5, .ref q6, .ref q7, .null, .null, .int 0, .int 0, .int 0, .null, .null, .int 0, .null])), (q1, .inl (ct 0, 80, .inl (fun _ => 0))), (q2, .inl (ct 1, 1944, .inl (fun _ => 0))), (q3, .inl (ct 0, 15, .inl (fun _ => 0))), (q4, .inl (ct 1, 324, .inl (fun _ => 0))), (q5, .inl (ct 1, 324, .inl (fun _ => 0))), (q6, .inl (ct 0, 15, .inl (fun _ => 0))), (q7, .inl (ct 0, 5, .inl (fun _ => 0))), (q8, .inl (ct 0, 44, .inl (fun _ => 0)))] := hD
  refine W.widen (k := 8) (n := 2751) (Nat.le_of_ble_eq_true rfl) (Nat.le_of_ble_eq_true rfl) ?_
  refine jn_put X hin hP hD hS (ty := (.array .int)) (v := .ref q8) 0 6 10 rfl rfl (by decide) (jn_m 82 rfl) rfl (by decide +kernel) rfl rfl (Nat.le_of_ble_eq_true rfl) dn_Model_67 (fun H locs hP hD hS => ?_)
  have hP : va_P D jx_cl [(h0, .inr (6, [.int 0, .int 0, .ref q1, .int 0, .ref q2, .ref q3, .ref q4, .ref q5, .ref q6, .ref q7, .ref q8, .null, .int 0, .int 0, .int 0, .null, .null, .int 0, .null])), (q1, .inl (ct 0, 80, .inl (fun _ => 0))), (q2, .inl (ct 1, 1944, .inl (fun _ => 0))), (q3, .inl (ct 0, 15, .inl (fun _ => 0))), (q4, .inl (ct 1, 324, .inl (fun _ => 0))), (q5, .inl (ct 1, 324, .inl (fun _ => 0))), (q6, .inl (ct 0, 15, .inl (fun _ => 0))), (q7, .inl (ct 0, 5, .inl (fun _ => 0))), (q8, .inl (ct 0, 44, .inl (fun _ => 0)))] H := hP
  have hD : va_D A [(h0, .inr (6, [.int 0, .int 0, .ref q1, .int 0, .ref q2, .ref q3, .ref q4, .ref q5, .ref q6, .ref q7, .ref q8, .null, .int 0, .int 0, .int 0, .null, .null, .int 0, .null])), (q1, .inl (ct 0, 80, .inl (fun _ => 0))), (q2, .inl (ct 1, 1944, .inl (fun _ => 0))), (q3, .inl (ct 0, 15, .inl (fun _ => 0))), (q4, .inl (ct 1, 324, .inl (fun _ => 0))), (q5, .inl (ct 1, 324, .inl (fun _ => 0))), (q6, .inl (ct 0, 15, .inl (fun _ => 0))), (q7, .inl (ct 0, 5, .inl (fun _ => 0))), (q8, .inl (ct 0, 44, .inl (fun _ => 0)))] := hD
  refine lv_aload_n hx hb dn_Model_70 rfl (lv_at hl 0 rfl) ?_
  refine lv_iconst (v := 4) hx hb dn_Model_71 (by decide) ?_
  refine jn_newa X hP hD hS (a0 := (4, .inl (fun _ => 0))) (X.2.2.2.2.1 _ (jn_m 9 rfl)) rfl 0 rfl (fun _ => rfl) (by decide) (by decide) (by decide) (Nat.le_of_ble_eq_true rfl) (Nat.le_of_ble_eq_true rfl) dn_Model_72 (fun q9 H hP hD hS => ?_)
  have hP : va_P D jx_cl [(h0, .inr (6, [.int 0, .int 0, .ref q1, .int 0, .ref q2, .ref q3, .ref q4, .ref q5, .ref q6, .ref q7, .ref q8, .null, .int 0, .int 0, .int 0, .null, .null, .int 0, .null])), (q1, .inl (ct 0, 80, .inl (fun _ => 0))), (q2, .inl (ct 1, 1944, .inl (fun _ => 0))), (q3, .inl (ct 0, 15, .inl (fun _ => 0))), (q4, .inl (ct 1, 324, .inl (fun _ => 0))), (q5, .inl (ct 1, 324, .inl (fun _ => 0))), (q6, .inl (ct 0, 15, .inl (fun _ => 0))), (q7, .inl (ct 0, 5, .inl (fun _ => 0))), (q8, .inl (ct 0, 44, .inl (fun _ => 0))), (q9, .inl (ct 0, 4, .inl (fun _ => 0)))] H := hP
  have hD : va_D A [(h0, .inr (6, [.int 0, .int 0, .ref q1, .int 0, .ref q2, .ref q3, .ref q4, .ref q5, .ref q6, .ref q7, .ref q8, .null, .int 0, .int 0, .int 0, .null, .null, .int 0, .null])), (q1, .inl (ct 0, 80, .inl (fun _ => 0))), (q2, .inl (ct 1, 1944, .inl (fun _ => 0))), (q3, .inl (ct 0, 15, .inl (fun _ => 0))), (q4, .inl (ct 1, 324, .inl (fun _ => 0))), (q5, .inl (ct 1, 324, .inl (fun _ => 0))), (q6, .inl (ct 0, 15, .inl (fun _ => 0))), (q7, .inl (ct 0, 5, .inl (fun _ => 0))), (q8, .inl (ct 0, 44, .inl (fun _ => 0))), (q9, .inl (ct 0, 4, .inl (fun _ => 0)))] := hD
  refine W.widen (k := 9) (n := 2755) (Nat.le_of_ble_eq_true rfl) (Nat.le_of_ble_eq_true rfl) ?_
  refine jn_put X hin hP hD hS (ty := (.array .int)) (v := .ref q9) 0 6 11 rfl rfl (by decide) (jn_m 83 rfl) rfl (by decide +kernel) rfl rfl (Nat.le_of_ble_eq_true rfl) dn_Model_74 (fun H locs hP hD hS => ?_)
  have hP : va_P D jx_cl [(h0, .inr (6, [.int 0, .int 0, .ref q1, .int 0, .ref q2, .ref q3, .ref q4, .ref q5, .ref q6, .ref q7, .ref q8, .ref q9, .int 0, .int 0, .int 0, .null, .null, .int 0, .null])), (q1, .inl (ct 0, 80, .inl (fun _ => 0))), (q2, .inl (ct 1, 1944, .inl (fun _ => 0))), (q3, .inl (ct 0, 15, .inl (fun _ => 0))), (q4, .inl (ct 1, 324, .inl (fun _ => 0))), (q5, .inl (ct 1, 324, .inl (fun _ => 0))), (q6, .inl (ct 0, 15, .inl (fun _ => 0))), (q7, .inl (ct 0, 5, .inl (fun _ => 0))), (q8, .inl (ct 0, 44, .inl (fun _ => 0))), (q9, .inl (ct 0, 4, .inl (fun _ => 0)))] H := hP
  have hD : va_D A [(h0, .inr (6, [.int 0, .int 0, .ref q1, .int 0, .ref q2, .ref q3, .ref q4, .ref q5, .ref q6, .ref q7, .ref q8, .ref q9, .int 0, .int 0, .int 0, .null, .null, .int 0, .null])), (q1, .inl (ct 0, 80, .inl (fun _ => 0))), (q2, .inl (ct 1, 1944, .inl (fun _ => 0))), (q3, .inl (ct 0, 15, .inl (fun _ => 0))), (q4, .inl (ct 1, 324, .inl (fun _ => 0))), (q5, .inl (ct 1, 324, .inl (fun _ => 0))), (q6, .inl (ct 0, 15, .inl (fun _ => 0))), (q7, .inl (ct 0, 5, .inl (fun _ => 0))), (q8, .inl (ct 0, 44, .inl (fun _ => 0))), (q9, .inl (ct 0, 4, .inl (fun _ => 0)))] := hD
  refine lv_aload_n hx hb dn_Model_77 rfl (lv_at hl 0 rfl) ?_
  refine lv_bipush (v := 6) hx hb dn_Model_78 (by decide) ?_
  refine jn_newa X hP hD hS (a0 := (6, .inl (fun _ => 0))) (X.2.2.2.2.1 _ (jn_m 10 rfl)) rfl 1 rfl (fun _ => rfl) (by decide) (by decide) (by decide) (Nat.le_of_ble_eq_true rfl) (Nat.le_of_ble_eq_true rfl) dn_Model_80 (fun q10 H hP hD hS => ?_)
  have hP : va_P D jx_cl [(h0, .inr (6, [.int 0, .int 0, .ref q1, .int 0, .ref q2, .ref q3, .ref q4, .ref q5, .ref q6, .ref q7, .ref q8, .ref q9, .int 0, .int 0, .int 0, .null, .null, .int 0, .null])), (q1, .inl (ct 0, 80, .inl (fun _ => 0))), (q2, .inl (ct 1, 1944, .inl (fun _ => 0))), (q3, .inl (ct 0, 15, .inl (fun _ => 0))), (q4, .inl (ct 1, 324, .inl (fun _ => 0))), (q5, .inl (ct 1, 324, .inl (fun _ => 0))), (q6, .inl (ct 0, 15, .inl (fun _ => 0))), (q7, .inl (ct 0, 5, .inl (fun _ => 0))), (q8, .inl (ct 0, 44, .inl (fun _ => 0))), (q9, .inl (ct 0, 4, .inl (fun _ => 0))), (q10, .inl (ct 1, 6, .inl (fun _ => 0)))] H := hP
  have hD : va_D A [(h0, .inr (6, [.int 0, .int 0, .ref q1, .int 0, .ref q2, .ref q3, .ref q4, .ref q5, .ref q6, .ref q7, .ref q8, .ref q9, .int 0, .int 0, .int 0, .null, .null, .int 0, .null])), (q1, .inl (ct 0, 80, .inl (fun _ => 0))), (q2, .inl (ct 1, 1944, .inl (fun _ => 0))), (q3, .inl (ct 0, 15, .inl (fun _ => 0))), (q4, .inl (ct 1, 324, .inl (fun _ => 0))), (q5, .inl (ct 1, 324, .inl (fun _ => 0))), (q6, .inl (ct 0, 15, .inl (fun _ => 0))), (q7, .inl (ct 0, 5, .inl (fun _ => 0))), (q8, .inl (ct 0, 44, .inl (fun _ => 0))), (q9, .inl (ct 0, 4, .inl (fun _ => 0))), (q10, .inl (ct 1, 6, .inl (fun _ => 0)))] := hD
  refine W.widen (k := 10) (n := 2761) (Nat.le_of_ble_eq_true rfl) (Nat.le_of_ble_eq_true rfl) ?_
  refine jn_put X hin hP hD hS (ty := (.array .boolean)) (v := .ref q10) 0 6 15 rfl rfl (by decide) (jn_m 84 rfl) rfl (by decide +kernel) rfl rfl (Nat.le_of_ble_eq_true rfl) dn_Model_82 (fun H locs hP hD hS => ?_)
  have hP : va_P D jx_cl [(h0, .inr (6, [.int 0, .int 0, .ref q1, .int 0, .ref q2, .ref q3, .ref q4, .ref q5, .ref q6, .ref q7, .ref q8, .ref q9, .int 0, .int 0, .int 0, .ref q10, .null, .int 0, .null])), (q1, .inl (ct 0, 80, .inl (fun _ => 0))), (q2, .inl (ct 1, 1944, .inl (fun _ => 0))), (q3, .inl (ct 0, 15, .inl (fun _ => 0))), (q4, .inl (ct 1, 324, .inl (fun _ => 0))), (q5, .inl (ct 1, 324, .inl (fun _ => 0))), (q6, .inl (ct 0, 15, .inl (fun _ => 0))), (q7, .inl (ct 0, 5, .inl (fun _ => 0))), (q8, .inl (ct 0, 44, .inl (fun _ => 0))), (q9, .inl (ct 0, 4, .inl (fun _ => 0))), (q10, .inl (ct 1, 6, .inl (fun _ => 0)))] H := hP
  have hD : va_D A [(h0, .inr (6, [.int 0, .int 0, .ref q1, .int 0, .ref q2, .ref q3, .ref q4, .ref q5, .ref q6, .ref q7, .ref q8, .ref q9, .int 0, .int 0, .int 0, .ref q10, .null, .int 0, .null])), (q1, .inl (ct 0, 80, .inl (fun _ => 0))), (q2, .inl (ct 1, 1944, .inl (fun _ => 0))), (q3, .inl (ct 0, 15, .inl (fun _ => 0))), (q4, .inl (ct 1, 324, .inl (fun _ => 0))), (q5, .inl (ct 1, 324, .inl (fun _ => 0))), (q6, .inl (ct 0, 15, .inl (fun _ => 0))), (q7, .inl (ct 0, 5, .inl (fun _ => 0))), (q8, .inl (ct 0, 44, .inl (fun _ => 0))), (q9, .inl (ct 0, 4, .inl (fun _ => 0))), (q10, .inl (ct 1, 6, .inl (fun _ => 0)))] := hD
  refine lv_aload_n hx hb dn_Model_85 rfl (lv_at hl 0 rfl) ?_
  refine lv_sipush (v := 240) hx hb dn_Model_86 (by decide) ?_
  refine jn_newa X hP hD hS (a0 := (240, .inl (fun _ => 0))) (X.2.2.2.2.1 _ (jn_m 9 rfl)) rfl 0 rfl (fun _ => rfl) (by decide) (by decide) (by decide) (Nat.le_of_ble_eq_true rfl) (Nat.le_of_ble_eq_true rfl) dn_Model_89 (fun q11 H hP hD hS => ?_)
  have hP : va_P D jx_cl [(h0, .inr (6, [.int 0, .int 0, .ref q1, .int 0, .ref q2, .ref q3, .ref q4, .ref q5, .ref q6, .ref q7, .ref q8, .ref q9, .int 0, .int 0, .int 0, .ref q10, .null, .int 0, .null])), (q1, .inl (ct 0, 80, .inl (fun _ => 0))), (q2, .inl (ct 1, 1944, .inl (fun _ => 0))), (q3, .inl (ct 0, 15, .inl (fun _ => 0))), (q4, .inl (ct 1, 324, .inl (fun _ => 0))), (q5, .inl (ct 1, 324, .inl (fun _ => 0))), (q6, .inl (ct 0, 15, .inl (fun _ => 0))), (q7, .inl (ct 0, 5, .inl (fun _ => 0))), (q8, .inl (ct 0, 44, .inl (fun _ => 0))), (q9, .inl (ct 0, 4, .inl (fun _ => 0))), (q10, .inl (ct 1, 6, .inl (fun _ => 0))), (q11, .inl (ct 0, 240, .inl (fun _ => 0)))] H := hP
  have hD : va_D A [(h0, .inr (6, [.int 0, .int 0, .ref q1, .int 0, .ref q2, .ref q3, .ref q4, .ref q5, .ref q6, .ref q7, .ref q8, .ref q9, .int 0, .int 0, .int 0, .ref q10, .null, .int 0, .null])), (q1, .inl (ct 0, 80, .inl (fun _ => 0))), (q2, .inl (ct 1, 1944, .inl (fun _ => 0))), (q3, .inl (ct 0, 15, .inl (fun _ => 0))), (q4, .inl (ct 1, 324, .inl (fun _ => 0))), (q5, .inl (ct 1, 324, .inl (fun _ => 0))), (q6, .inl (ct 0, 15, .inl (fun _ => 0))), (q7, .inl (ct 0, 5, .inl (fun _ => 0))), (q8, .inl (ct 0, 44, .inl (fun _ => 0))), (q9, .inl (ct 0, 4, .inl (fun _ => 0))), (q10, .inl (ct 1, 6, .inl (fun _ => 0))), (q11, .inl (ct 0, 240, .inl (fun _ => 0)))] := hD
  refine W.widen (k := 11) (n := 3001) (Nat.le_of_ble_eq_true rfl) (Nat.le_of_ble_eq_true rfl) ?_
  refine jn_put X hin hP hD hS (ty := (.array .int)) (v := .ref q11) 0 6 16 rfl rfl (by decide) (jn_m 85 rfl) rfl (by decide +kernel) rfl rfl (Nat.le_of_ble_eq_true rfl) dn_Model_91 (fun H locs hP hD hS => ?_)
  have hP : va_P D jx_cl [(h0, .inr (6, [.int 0, .int 0, .ref q1, .int 0, .ref q2, .ref q3, .ref q4, .ref q5, .ref q6, .ref q7, .ref q8, .ref q9, .int 0, .int 0, .int 0, .ref q10, .ref q11, .int 0, .null])), (q1, .inl (ct 0, 80, .inl (fun _ => 0))), (q2, .inl (ct 1, 1944, .inl (fun _ => 0))), (q3, .inl (ct 0, 15, .inl (fun _ => 0))), (q4, .inl (ct 1, 324, .inl (fun _ => 0))), (q5, .inl (ct 1, 324, .inl (fun _ => 0))), (q6, .inl (ct 0, 15, .inl (fun _ => 0))), (q7, .inl (ct 0, 5, .inl (fun _ => 0))), (q8, .inl (ct 0, 44, .inl (fun _ => 0))), (q9, .inl (ct 0, 4, .inl (fun _ => 0))), (q10, .inl (ct 1, 6, .inl (fun _ => 0))), (q11, .inl (ct 0, 240, .inl (fun _ => 0)))] H := hP
  have hD : va_D A [(h0, .inr (6, [.int 0, .int 0, .ref q1, .int 0, .ref q2, .ref q3, .ref q4, .ref q5, .ref q6, .ref q7, .ref q8, .ref q9, .int 0, .int 0, .int 0, .ref q10, .ref q11, .int 0, .null])), (q1, .inl (ct 0, 80, .inl (fun _ => 0))), (q2, .inl (ct 1, 1944, .inl (fun _ => 0))), (q3, .inl (ct 0, 15, .inl (fun _ => 0))), (q4, .inl (ct 1, 324, .inl (fun _ => 0))), (q5, .inl (ct 1, 324, .inl (fun _ => 0))), (q6, .inl (ct 0, 15, .inl (fun _ => 0))), (q7, .inl (ct 0, 5, .inl (fun _ => 0))), (q8, .inl (ct 0, 44, .inl (fun _ => 0))), (q9, .inl (ct 0, 4, .inl (fun _ => 0))), (q10, .inl (ct 1, 6, .inl (fun _ => 0))), (q11, .inl (ct 0, 240, .inl (fun _ => 0)))] := hD
  refine lv_aload_n hx hb dn_Model_94 rfl (lv_at hl 0 rfl) ?_
  refine lv_bipush (v := 80) hx hb dn_Model_95 (by decide) ?_
  refine jn_newa X hP hD hS (a0 := (80, .inl (fun _ => 0))) (X.2.2.2.2.1 _ (jn_m 9 rfl)) rfl 0 rfl (fun _ => rfl) (by decide) (by decide) (by decide) (Nat.le_of_ble_eq_true rfl) (Nat.le_of_ble_eq_true rfl) dn_Model_97 (fun q12 H hP hD hS => ?_)
  have hP : va_P D jx_cl [(h0, .inr (6, [.int 0, .int 0, .ref q1, .int 0, .ref q2, .ref q3, .ref q4, .ref q5, .ref q6, .ref q7, .ref q8, .ref q9, .int 0, .int 0, .int 0, .ref q10, .ref q11, .int 0, .null])), (q1, .inl (ct 0, 80, .inl (fun _ => 0))), (q2, .inl (ct 1, 1944, .inl (fun _ => 0))), (q3, .inl (ct 0, 15, .inl (fun _ => 0))), (q4, .inl (ct 1, 324, .inl (fun _ => 0))), (q5, .inl (ct 1, 324, .inl (fun _ => 0))), (q6, .inl (ct 0, 15, .inl (fun _ => 0))), (q7, .inl (ct 0, 5, .inl (fun _ => 0))), (q8, .inl (ct 0, 44, .inl (fun _ => 0))), (q9, .inl (ct 0, 4, .inl (fun _ => 0))), (q10, .inl (ct 1, 6, .inl (fun _ => 0))), (q11, .inl (ct 0, 240, .inl (fun _ => 0))), (q12, .inl (ct 0, 80, .inl (fun _ => 0)))] H := hP
  have hD : va_D A [(h0, .inr (6, [.int 0, .int 0, .ref q1, .int 0, .ref q2, .ref q3, .ref q4, .ref q5, .ref q6, .ref q7, .ref q8, .ref q9, .int 0, .int 0, .int 0, .ref q10, .ref q11, .int 0, .null])), (q1, .inl (ct 0, 80, .inl (fun _ => 0))), (q2, .inl (ct 1, 1944, .inl (fun _ => 0))), (q3, .inl (ct 0, 15, .inl (fun _ => 0))), (q4, .inl (ct 1, 324, .inl (fun _ => 0))), (q5, .inl (ct 1, 324, .inl (fun _ => 0))), (q6, .inl (ct 0, 15, .inl (fun _ => 0))), (q7, .inl (ct 0, 5, .inl (fun _ => 0))), (q8, .inl (ct 0, 44, .inl (fun _ => 0))), (q9, .inl (ct 0, 4, .inl (fun _ => 0))), (q10, .inl (ct 1, 6, .inl (fun _ => 0))), (q11, .inl (ct 0, 240, .inl (fun _ => 0))), (q12, .inl (ct 0, 80, .inl (fun _ => 0)))] := hD
  refine W.widen (k := 12) (n := 3081) (Nat.le_of_ble_eq_true rfl) (Nat.le_of_ble_eq_true rfl) ?_
  refine jn_put X hin hP hD hS (ty := (.array .int)) (v := .ref q12) 0 6 18 rfl rfl (by decide) (jn_m 86 rfl) rfl (by decide +kernel) rfl rfl (Nat.le_of_ble_eq_true rfl) dn_Model_99 (fun H locs hP hD hS => ?_)
  have hP : va_P D jx_cl [(h0, .inr (6, [.int 0, .int 0, .ref q1, .int 0, .ref q2, .ref q3, .ref q4, .ref q5, .ref q6, .ref q7, .ref q8, .ref q9, .int 0, .int 0, .int 0, .ref q10, .ref q11, .int 0, .ref q12])), (q1, .inl (ct 0, 80, .inl (fun _ => 0))), (q2, .inl (ct 1, 1944, .inl (fun _ => 0))), (q3, .inl (ct 0, 15, .inl (fun _ => 0))), (q4, .inl (ct 1, 324, .inl (fun _ => 0))), (q5, .inl (ct 1, 324, .inl (fun _ => 0))), (q6, .inl (ct 0, 15, .inl (fun _ => 0))), (q7, .inl (ct 0, 5, .inl (fun _ => 0))), (q8, .inl (ct 0, 44, .inl (fun _ => 0))), (q9, .inl (ct 0, 4, .inl (fun _ => 0))), (q10, .inl (ct 1, 6, .inl (fun _ => 0))), (q11, .inl (ct 0, 240, .inl (fun _ => 0))), (q12, .inl (ct 0, 80, .inl (fun _ => 0)))] H := hP
  have hD : va_D A [(h0, .inr (6, [.int 0, .int 0, .ref q1, .int 0, .ref q2, .ref q3, .ref q4, .ref q5, .ref q6, .ref q7, .ref q8, .ref q9, .int 0, .int 0, .int 0, .ref q10, .ref q11, .int 0, .ref q12])), (q1, .inl (ct 0, 80, .inl (fun _ => 0))), (q2, .inl (ct 1, 1944, .inl (fun _ => 0))), (q3, .inl (ct 0, 15, .inl (fun _ => 0))), (q4, .inl (ct 1, 324, .inl (fun _ => 0))), (q5, .inl (ct 1, 324, .inl (fun _ => 0))), (q6, .inl (ct 0, 15, .inl (fun _ => 0))), (q7, .inl (ct 0, 5, .inl (fun _ => 0))), (q8, .inl (ct 0, 44, .inl (fun _ => 0))), (q9, .inl (ct 0, 4, .inl (fun _ => 0))), (q10, .inl (ct 1, 6, .inl (fun _ => 0))), (q11, .inl (ct 0, 240, .inl (fun _ => 0))), (q12, .inl (ct 0, 80, .inl (fun _ => 0)))] := hD
  refine lv_iconst (v := nI (gf_pw 0)) hx hb dn_Model_102 (by decide) ?_
  refine lv_istore_n (i := 1) (lv' := [(1, .int (nI (gf_pw 0))), (0, .ref h0)]) hx hb dn_Model_103 rfl hl (Nat.le_of_ble_eq_true rfl) rfl (fun ls hl => ?_)
  refine lv_iconst (v := 0) hx hb dn_Model_104 (by decide) ?_
  refine lv_istore_n (i := 2) (lv' := [(2, .int 0), (1, .int (nI (gf_pw 0))), (0, .ref h0)]) hx hb dn_Model_105 rfl hl (Nat.le_of_ble_eq_true rfl) rfl (fun ls hl => ?_)
  refine lv_iload_n hx hb dn_Model_106 rfl (lv_at hl 0 rfl) ?_
  refine lv_bipush (v := 15) hx hb dn_Model_107 (by decide) ?_
  refine lv_icmp_ge (tgt := 132) hx hb dn_Model_109 (by decide) (fun h9 => absurd h9 (by decide)) (fun _ => ?_)
  refine lv_aload_n hx hb dn_Model_112 rfl (lv_at hl 2 rfl) ?_
  refine jn_get X hP 0 6 5 rfl rfl (by decide) (jn_m 77 rfl) rfl rfl dn_Model_113 ?_
  refine lv_iload_n hx hb dn_Model_116 rfl (lv_at hl 0 rfl) ?_
  refine lv_iload_n hx hb dn_Model_117 rfl (lv_at hl 1 rfl) ?_
  refine va_iast hx hb hK hP hD hS 3 0 rfl rfl (by unfold vp_in; decide) dn_Model_118 (fun H locs hP hD hS => ?_)
  have hP : va_P D jx_cl [(h0, .inr (6, [.int 0, .int 0, .ref q1, .int 0, .ref q2, .ref q3, .ref q4, .ref q5, .ref q6, .ref q7, .ref q8, .ref q9, .int 0, .int 0, .int 0, .ref q10, .ref q11, .int 0, .ref q12])), (q1, .inl (ct 0, 80, .inl (fun _ => 0))), (q2, .inl (ct 1, 1944, .inl (fun _ => 0))), (q3, .inl (ct 0, 15, .inl (upd (fun _ => 0) (Int32.toNatClampNeg 0) (nI (gf_pw 0))))), (q4, .inl (ct 1, 324, .inl (fun _ => 0))), (q5, .inl (ct 1, 324, .inl (fun _ => 0))), (q6, .inl (ct 0, 15, .inl (fun _ => 0))), (q7, .inl (ct 0, 5, .inl (fun _ => 0))), (q8, .inl (ct 0, 44, .inl (fun _ => 0))), (q9, .inl (ct 0, 4, .inl (fun _ => 0))), (q10, .inl (ct 1, 6, .inl (fun _ => 0))), (q11, .inl (ct 0, 240, .inl (fun _ => 0))), (q12, .inl (ct 0, 80, .inl (fun _ => 0)))] H := hP
  have hD : va_D A [(h0, .inr (6, [.int 0, .int 0, .ref q1, .int 0, .ref q2, .ref q3, .ref q4, .ref q5, .ref q6, .ref q7, .ref q8, .ref q9, .int 0, .int 0, .int 0, .ref q10, .ref q11, .int 0, .ref q12])), (q1, .inl (ct 0, 80, .inl (fun _ => 0))), (q2, .inl (ct 1, 1944, .inl (fun _ => 0))), (q3, .inl (ct 0, 15, .inl (upd (fun _ => 0) (Int32.toNatClampNeg 0) (nI (gf_pw 0))))), (q4, .inl (ct 1, 324, .inl (fun _ => 0))), (q5, .inl (ct 1, 324, .inl (fun _ => 0))), (q6, .inl (ct 0, 15, .inl (fun _ => 0))), (q7, .inl (ct 0, 5, .inl (fun _ => 0))), (q8, .inl (ct 0, 44, .inl (fun _ => 0))), (q9, .inl (ct 0, 4, .inl (fun _ => 0))), (q10, .inl (ct 1, 6, .inl (fun _ => 0))), (q11, .inl (ct 0, 240, .inl (fun _ => 0))), (q12, .inl (ct 0, 80, .inl (fun _ => 0)))] := hD
  refine lv_aload_n hx hb dn_Model_119 rfl (lv_at hl 2 rfl) ?_
  refine lv_iload_n hx hb dn_Model_120 rfl (lv_at hl 1 rfl) ?_
  refine lv_iconst (v := 2) hx hb dn_Model_121 (by decide) ?_
  refine jn_pc (e := 0) (e2 := 1) X hP hD hS rfl hl.1 (by decide) rfl ⟨(Nat.le_of_ble_eq_true rfl), (Nat.le_of_ble_eq_true rfl)⟩ ⟨(Nat.le_of_ble_eq_true rfl), (Nat.le_of_ble_eq_true rfl)⟩ dn_Model_122 (fun H locs hP hS => ?_)
  refine lv_istore_n (i := 1) (lv' := [(1, .int (nI (gf_pw 1))), (2, .int 0), (0, .ref h0)]) hx hb dn_Model_125 rfl hl (Nat.le_of_ble_eq_true rfl) rfl (fun ls hl => ?_)
  refine lv_iinc (k := 1) (v := 1) (lv' := [(2, .int 1), (1, .int (nI (gf_pw 1))), (0, .ref h0)]) hx hb dn_Model_126 hl rfl (by decide) (Nat.le_of_ble_eq_true rfl) rfl (fun ls hl => ?_)
  refine lv_goto (tgt := 106) hx hb dn_Model_129 (by decide) ?_
  refine W.eq (g2 := F0 m 106 ls []) rfl ?_
  refine lv_iload_n hx hb dn_Model_106 rfl (lv_at hl 0 rfl) ?_
  refine lv_bipush (v := 15) hx hb dn_Model_107 (by decide) ?_
  refine lv_icmp_ge (tgt := 132) hx hb dn_Model_109 (by decide) (fun h9 => absurd h9 (by decide)) (fun _ => ?_)
  refine lv_aload_n hx hb dn_Model_112 rfl (lv_at hl 2 rfl) ?_
  refine jn_get X hP 0 6 5 rfl rfl (by decide) (jn_m 77 rfl) rfl rfl dn_Model_113 ?_
  refine lv_iload_n hx hb dn_Model_116 rfl (lv_at hl 0 rfl) ?_
  refine lv_iload_n hx hb dn_Model_117 rfl (lv_at hl 1 rfl) ?_
  refine va_iast hx hb hK hP hD hS 3 0 rfl rfl (by unfold vp_in; decide) dn_Model_118 (fun H locs hP hD hS => ?_)
  have hP : va_P D jx_cl [(h0, .inr (6, [.int 0, .int 0, .ref q1, .int 0, .ref q2, .ref q3, .ref q4, .ref q5, .ref q6, .ref q7, .ref q8, .ref q9, .int 0, .int 0, .int 0, .ref q10, .ref q11, .int 0, .ref q12])), (q1, .inl (ct 0, 80, .inl (fun _ => 0))), (q2, .inl (ct 1, 1944, .inl (fun _ => 0))), (q3, .inl (ct 0, 15, .inl (upd (upd (fun _ => 0) (Int32.toNatClampNeg 0) (nI (gf_pw 0))) (Int32.toNatClampNeg 1) (nI (gf_pw 1))))), (q4, .inl (ct 1, 324, .inl (fun _ => 0))), (q5, .inl (ct 1, 324, .inl (fun _ => 0))), (q6, .inl (ct 0, 15, .inl (fun _ => 0))), (q7, .inl (ct 0, 5, .inl (fun _ => 0))), (q8, .inl (ct 0, 44, .inl (fun _ => 0))), (q9, .inl (ct 0, 4, .inl (fun _ => 0))), (q10, .inl (ct 1, 6, .inl (fun _ => 0))), (q11, .inl (ct 0, 240, .inl (fun _ => 0))), (q12, .inl (ct 0, 80, .inl (fun _ => 0)))] H := hP
  have hD : va_D A [(h0, .inr (6, [.int 0, .int 0, .ref q1, .int 0, .ref q2, .ref q3, .ref q4, .ref q5, .ref q6, .ref q7, .ref q8, .ref q9, .int 0, .int 0, .int 0, .ref q10, .ref q11, .int 0, .ref q12])), (q1, .inl (ct 0, 80, .inl (fun _ => 0))), (q2, .inl (ct 1, 1944, .inl (fun _ => 0))), (q3, .inl (ct 0, 15, .inl (upd (upd (fun _ => 0) (Int32.toNatClampNeg 0) (nI (gf_pw 0))) (Int32.toNatClampNeg 1) (nI (gf_pw 1))))), (q4, .inl (ct 1, 324, .inl (fun _ => 0))), (q5, .inl (ct 1, 324, .inl (fun _ => 0))), (q6, .inl (ct 0, 15, .inl (fun _ => 0))), (q7, .inl (ct 0, 5, .inl (fun _ => 0))), (q8, .inl (ct 0, 44, .inl (fun _ => 0))), (q9, .inl (ct 0, 4, .inl (fun _ => 0))), (q10, .inl (ct 1, 6, .inl (fun _ => 0))), (q11, .inl (ct 0, 240, .inl (fun _ => 0))), (q12, .inl (ct 0, 80, .inl (fun _ => 0)))] := hD
  refine lv_aload_n hx hb dn_Model_119 rfl (lv_at hl 2 rfl) ?_
  refine lv_iload_n hx hb dn_Model_120 rfl (lv_at hl 1 rfl) ?_
  refine lv_iconst (v := 2) hx hb dn_Model_121 (by decide) ?_
  refine jn_pc (e := 1) (e2 := 2) X hP hD hS rfl hl.1 (by decide) rfl ⟨(Nat.le_of_ble_eq_true rfl), (Nat.le_of_ble_eq_true rfl)⟩ ⟨(Nat.le_of_ble_eq_true rfl), (Nat.le_of_ble_eq_true rfl)⟩ dn_Model_122 (fun H locs hP hS => ?_)
  refine lv_istore_n (i := 1) (lv' := [(1, .int (nI (gf_pw 2))), (2, .int 1), (0, .ref h0)]) hx hb dn_Model_125 rfl hl (Nat.le_of_ble_eq_true rfl) rfl (fun ls hl => ?_)
  refine lv_iinc (k := 1) (v := 2) (lv' := [(2, .int 2), (1, .int (nI (gf_pw 2))), (0, .ref h0)]) hx hb dn_Model_126 hl rfl (by decide) (Nat.le_of_ble_eq_true rfl) rfl (fun ls hl => ?_)
  refine lv_goto (tgt := 106) hx hb dn_Model_129 (by decide) ?_
  refine W.eq (g2 := F0 m 106 ls []) rfl ?_
  refine lv_iload_n hx hb dn_Model_106 rfl (lv_at hl 0 rfl) ?_
  refine lv_bipush (v := 15) hx hb dn_Model_107 (by decide) ?_
  refine lv_icmp_ge (tgt := 132) hx hb dn_Model_109 (by decide) (fun h9 => absurd h9 (by decide)) (fun _ => ?_)
  refine lv_aload_n hx hb dn_Model_112 rfl (lv_at hl 2 rfl) ?_
  refine jn_get X hP 0 6 5 rfl rfl (by decide) (jn_m 77 rfl) rfl rfl dn_Model_113 ?_
  refine lv_iload_n hx hb dn_Model_116 rfl (lv_at hl 0 rfl) ?_
  refine lv_iload_n hx hb dn_Model_117 rfl (lv_at hl 1 rfl) ?_
  refine va_iast hx hb hK hP hD hS 3 0 rfl rfl (by unfold vp_in; decide) dn_Model_118 (fun H locs hP hD hS => ?_)
  have hP : va_P D jx_cl [(h0, .inr (6, [.int 0, .int 0, .ref q1, .int 0, .ref q2, .ref q3, .ref q4, .ref q5, .ref q6, .ref q7, .ref q8, .ref q9, .int 0, .int 0, .int 0, .ref q10, .ref q11, .int 0, .ref q12])), (q1, .inl (ct 0, 80, .inl (fun _ => 0))), (q2, .inl (ct 1, 1944, .inl (fun _ => 0))), (q3, .inl (ct 0, 15, .inl (upd (upd (upd (fun _ => 0) (Int32.toNatClampNeg 0) (nI (gf_pw 0))) (Int32.toNatClampNeg 1) (nI (gf_pw 1))) (Int32.toNatClampNeg 2) (nI (gf_pw 2))))), (q4, .inl (ct 1, 324, .inl (fun _ => 0))), (q5, .inl (ct 1, 324, .inl (fun _ => 0))), (q6, .inl (ct 0, 15, .inl (fun _ => 0))), (q7, .inl (ct 0, 5, .inl (fun _ => 0))), (q8, .inl (ct 0, 44, .inl (fun _ => 0))), (q9, .inl (ct 0, 4, .inl (fun _ => 0))), (q10, .inl (ct 1, 6, .inl (fun _ => 0))), (q11, .inl (ct 0, 240, .inl (fun _ => 0))), (q12, .inl (ct 0, 80, .inl (fun _ => 0)))] H := hP
  have hD : va_D A [(h0, .inr (6, [.int 0, .int 0, .ref q1, .int 0, .ref q2, .ref q3, .ref q4, .ref q5, .ref q6, .ref q7, .ref q8, .ref q9, .int 0, .int 0, .int 0, .ref q10, .ref q11, .int 0, .ref q12])), (q1, .inl (ct 0, 80, .inl (fun _ => 0))), (q2, .inl (ct 1, 1944, .inl (fun _ => 0))), (q3, .inl (ct 0, 15, .inl (upd (upd (upd (fun _ => 0) (Int32.toNatClampNeg 0) (nI (gf_pw 0))) (Int32.toNatClampNeg 1) (nI (gf_pw 1))) (Int32.toNatClampNeg 2) (nI (gf_pw 2))))), (q4, .inl (ct 1, 324, .inl (fun _ => 0))), (q5, .inl (ct 1, 324, .inl (fun _ => 0))), (q6, .inl (ct 0, 15, .inl (fun _ => 0))), (q7, .inl (ct 0, 5, .inl (fun _ => 0))), (q8, .inl (ct 0, 44, .inl (fun _ => 0))), (q9, .inl (ct 0, 4, .inl (fun _ => 0))), (q10, .inl (ct 1, 6, .inl (fun _ => 0))), (q11, .inl (ct 0, 240, .inl (fun _ => 0))), (q12, .inl (ct 0, 80, .inl (fun _ => 0)))] := hD
  refine lv_aload_n hx hb dn_Model_119 rfl (lv_at hl 2 rfl) ?_
  refine lv_iload_n hx hb dn_Model_120 rfl (lv_at hl 1 rfl) ?_
  refine lv_iconst (v := 2) hx hb dn_Model_121 (by decide) ?_
  refine jn_pc (e := 2) (e2 := 3) X hP hD hS rfl hl.1 (by decide) rfl ⟨(Nat.le_of_ble_eq_true rfl), (Nat.le_of_ble_eq_true rfl)⟩ ⟨(Nat.le_of_ble_eq_true rfl), (Nat.le_of_ble_eq_true rfl)⟩ dn_Model_122 (fun H locs hP hS => ?_)
  refine lv_istore_n (i := 1) (lv' := [(1, .int (nI (gf_pw 3))), (2, .int 2), (0, .ref h0)]) hx hb dn_Model_125 rfl hl (Nat.le_of_ble_eq_true rfl) rfl (fun ls hl => ?_)
  refine lv_iinc (k := 1) (v := 3) (lv' := [(2, .int 3), (1, .int (nI (gf_pw 3))), (0, .ref h0)]) hx hb dn_Model_126 hl rfl (by decide) (Nat.le_of_ble_eq_true rfl) rfl (fun ls hl => ?_)
  refine lv_goto (tgt := 106) hx hb dn_Model_129 (by decide) ?_
  refine W.eq (g2 := F0 m 106 ls []) rfl ?_
  refine lv_iload_n hx hb dn_Model_106 rfl (lv_at hl 0 rfl) ?_
  refine lv_bipush (v := 15) hx hb dn_Model_107 (by decide) ?_
  refine lv_icmp_ge (tgt := 132) hx hb dn_Model_109 (by decide) (fun h9 => absurd h9 (by decide)) (fun _ => ?_)
  refine lv_aload_n hx hb dn_Model_112 rfl (lv_at hl 2 rfl) ?_
  refine jn_get X hP 0 6 5 rfl rfl (by decide) (jn_m 77 rfl) rfl rfl dn_Model_113 ?_
  refine lv_iload_n hx hb dn_Model_116 rfl (lv_at hl 0 rfl) ?_
  refine lv_iload_n hx hb dn_Model_117 rfl (lv_at hl 1 rfl) ?_
  refine va_iast hx hb hK hP hD hS 3 0 rfl rfl (by unfold vp_in; decide) dn_Model_118 (fun H locs hP hD hS => ?_)
  have hP : va_P D jx_cl [(h0, .inr (6, [.int 0, .int 0, .ref q1, .int 0, .ref q2, .ref q3, .ref q4, .ref q5, .ref q6, .ref q7, .ref q8, .ref q9, .int 0, .int 0, .int 0, .ref q10, .ref q11, .int 0, .ref q12])), (q1, .inl (ct 0, 80, .inl (fun _ => 0))), (q2, .inl (ct 1, 1944, .inl (fun _ => 0))), (q3, .inl (ct 0, 15, .inl (upd (upd (upd (upd (fun _ => 0) (Int32.toNatClampNeg 0) (nI (gf_pw 0))) (Int32.toNatClampNeg 1) (nI (gf_pw 1))) (Int32.toNatClampNeg 2) (nI (gf_pw 2))) (Int32.toNatClampNeg 3) (nI (gf_pw 3))))), (q4, .inl (ct 1, 324, .inl (fun _ => 0))), (q5, .inl (ct 1, 324, .inl (fun _ => 0))), (q6, .inl (ct 0, 15, .inl (fun _ => 0))), (q7, .inl (ct 0, 5, .inl (fun _ => 0))), (q8, .inl (ct 0, 44, .inl (fun _ => 0))), (q9, .inl (ct 0, 4, .inl (fun _ => 0))), (q10, .inl (ct 1, 6, .inl (fun _ => 0))), (q11, .inl (ct 0, 240, .inl (fun _ => 0))), (q12, .inl (ct 0, 80, .inl (fun _ => 0)))] H := hP
  have hD : va_D A [(h0, .inr (6, [.int 0, .int 0, .ref q1, .int 0, .ref q2, .ref q3, .ref q4, .ref q5, .ref q6, .ref q7, .ref q8, .ref q9, .int 0, .int 0, .int 0, .ref q10, .ref q11, .int 0, .ref q12])), (q1, .inl (ct 0, 80, .inl (fun _ => 0))), (q2, .inl (ct 1, 1944, .inl (fun _ => 0))), (q3, .inl (ct 0, 15, .inl (upd (upd (upd (upd (fun _ => 0) (Int32.toNatClampNeg 0) (nI (gf_pw 0))) (Int32.toNatClampNeg 1) (nI (gf_pw 1))) (Int32.toNatClampNeg 2) (nI (gf_pw 2))) (Int32.toNatClampNeg 3) (nI (gf_pw 3))))), (q4, .inl (ct 1, 324, .inl (fun _ => 0))), (q5, .inl (ct 1, 324, .inl (fun _ => 0))), (q6, .inl (ct 0, 15, .inl (fun _ => 0))), (q7, .inl (ct 0, 5, .inl (fun _ => 0))), (q8, .inl (ct 0, 44, .inl (fun _ => 0))), (q9, .inl (ct 0, 4, .inl (fun _ => 0))), (q10, .inl (ct 1, 6, .inl (fun _ => 0))), (q11, .inl (ct 0, 240, .inl (fun _ => 0))), (q12, .inl (ct 0, 80, .inl (fun _ => 0)))] := hD
  refine lv_aload_n hx hb dn_Model_119 rfl (lv_at hl 2 rfl) ?_
  refine lv_iload_n hx hb dn_Model_120 rfl (lv_at hl 1 rfl) ?_
  refine lv_iconst (v := 2) hx hb dn_Model_121 (by decide) ?_
  refine jn_pc (e := 3) (e2 := 4) X hP hD hS rfl hl.1 (by decide) rfl ⟨(Nat.le_of_ble_eq_true rfl), (Nat.le_of_ble_eq_true rfl)⟩ ⟨(Nat.le_of_ble_eq_true rfl), (Nat.le_of_ble_eq_true rfl)⟩ dn_Model_122 (fun H locs hP hS => ?_)
  refine lv_istore_n (i := 1) (lv' := [(1, .int (nI (gf_pw 4))), (2, .int 3), (0, .ref h0)]) hx hb dn_Model_125 rfl hl (Nat.le_of_ble_eq_true rfl) rfl (fun ls hl => ?_)
  refine lv_iinc (k := 1) (v := 4) (lv' := [(2, .int 4), (1, .int (nI (gf_pw 4))), (0, .ref h0)]) hx hb dn_Model_126 hl rfl (by decide) (Nat.le_of_ble_eq_true rfl) rfl (fun ls hl => ?_)
  refine lv_goto (tgt := 106) hx hb dn_Model_129 (by decide) ?_
  refine W.eq (g2 := F0 m 106 ls []) rfl ?_
  refine lv_iload_n hx hb dn_Model_106 rfl (lv_at hl 0 rfl) ?_
  refine lv_bipush (v := 15) hx hb dn_Model_107 (by decide) ?_
  refine lv_icmp_ge (tgt := 132) hx hb dn_Model_109 (by decide) (fun h9 => absurd h9 (by decide)) (fun _ => ?_)
  refine lv_aload_n hx hb dn_Model_112 rfl (lv_at hl 2 rfl) ?_
  refine jn_get X hP 0 6 5 rfl rfl (by decide) (jn_m 77 rfl) rfl rfl dn_Model_113 ?_
  refine lv_iload_n hx hb dn_Model_116 rfl (lv_at hl 0 rfl) ?_
  refine lv_iload_n hx hb dn_Model_117 rfl (lv_at hl 1 rfl) ?_
  refine va_iast hx hb hK hP hD hS 3 0 rfl rfl (by unfold vp_in; decide) dn_Model_118 (fun H locs hP hD hS => ?_)
  have hP : va_P D jx_cl [(h0, .inr (6, [.int 0, .int 0, .ref q1, .int 0, .ref q2, .ref q3, .ref q4, .ref q5, .ref q6, .ref q7, .ref q8, .ref q9, .int 0, .int 0, .int 0, .ref q10, .ref q11, .int 0, .ref q12])), (q1, .inl (ct 0, 80, .inl (fun _ => 0))), (q2, .inl (ct 1, 1944, .inl (fun _ => 0))), (q3, .inl (ct 0, 15, .inl (upd (upd (upd (upd (upd (fun _ => 0) (Int32.toNatClampNeg 0) (nI (gf_pw 0))) (Int32.toNatClampNeg 1) (nI (gf_pw 1))) (Int32.toNatClampNeg 2) (nI (gf_pw 2))) (Int32.toNatClampNeg 3) (nI (gf_pw 3))) (Int32.toNatClampNeg 4) (nI (gf_pw 4))))), (q4, .inl (ct 1, 324, .inl (fun _ => 0))), (q5, .inl (ct 1, 324, .inl (fun _ => 0))), (q6, .inl (ct 0, 15, .inl (fun _ => 0))), (q7, .inl (ct 0, 5, .inl (fun _ => 0))), (q8, .inl (ct 0, 44, .inl (fun _ => 0))), (q9, .inl (ct 0, 4, .inl (fun _ => 0))), (q10, .inl (ct 1, 6, .inl (fun _ => 0))), (q11, .inl (ct 0, 240, .inl (fun _ => 0))), (q12, .inl (ct 0, 80, .inl (fun _ => 0)))] H := hP
  have hD : va_D A [(h0, .inr (6, [.int 0, .int 0, .ref q1, .int 0, .ref q2, .ref q3, .ref q4, .ref q5, .ref q6, .ref q7, .ref q8, .ref q9, .int 0, .int 0, .int 0, .ref q10, .ref q11, .int 0, .ref q12])), (q1, .inl (ct 0, 80, .inl (fun _ => 0))), (q2, .inl (ct 1, 1944, .inl (fun _ => 0))), (q3, .inl (ct 0, 15, .inl (upd (upd (upd (upd (upd (fun _ => 0) (Int32.toNatClampNeg 0) (nI (gf_pw 0))) (Int32.toNatClampNeg 1) (nI (gf_pw 1))) (Int32.toNatClampNeg 2) (nI (gf_pw 2))) (Int32.toNatClampNeg 3) (nI (gf_pw 3))) (Int32.toNatClampNeg 4) (nI (gf_pw 4))))), (q4, .inl (ct 1, 324, .inl (fun _ => 0))), (q5, .inl (ct 1, 324, .inl (fun _ => 0))), (q6, .inl (ct 0, 15, .inl (fun _ => 0))), (q7, .inl (ct 0, 5, .inl (fun _ => 0))), (q8, .inl (ct 0, 44, .inl (fun _ => 0))), (q9, .inl (ct 0, 4, .inl (fun _ => 0))), (q10, .inl (ct 1, 6, .inl (fun _ => 0))), (q11, .inl (ct 0, 240, .inl (fun _ => 0))), (q12, .inl (ct 0, 80, .inl (fun _ => 0)))] := hD
  refine lv_aload_n hx hb dn_Model_119 rfl (lv_at hl 2 rfl) ?_
  refine lv_iload_n hx hb dn_Model_120 rfl (lv_at hl 1 rfl) ?_
  refine lv_iconst (v := 2) hx hb dn_Model_121 (by decide) ?_
  refine jn_pc (e := 4) (e2 := 5) X hP hD hS rfl hl.1 (by decide) rfl ⟨(Nat.le_of_ble_eq_true rfl), (Nat.le_of_ble_eq_true rfl)⟩ ⟨(Nat.le_of_ble_eq_true rfl), (Nat.le_of_ble_eq_true rfl)⟩ dn_Model_122 (fun H locs hP hS => ?_)
  refine lv_istore_n (i := 1) (lv' := [(1, .int (nI (gf_pw 5))), (2, .int 4), (0, .ref h0)]) hx hb dn_Model_125 rfl hl (Nat.le_of_ble_eq_true rfl) rfl (fun ls hl => ?_)
  refine lv_iinc (k := 1) (v := 5) (lv' := [(2, .int 5), (1, .int (nI (gf_pw 5))), (0, .ref h0)]) hx hb dn_Model_126 hl rfl (by decide) (Nat.le_of_ble_eq_true rfl) rfl (fun ls hl => ?_)
  refine lv_goto (tgt := 106) hx hb dn_Model_129 (by decide) ?_
  refine W.eq (g2 := F0 m 106 ls []) rfl ?_
  refine lv_iload_n hx hb dn_Model_106 rfl (lv_at hl 0 rfl) ?_
  refine lv_bipush (v := 15) hx hb dn_Model_107 (by decide) ?_
  refine lv_icmp_ge (tgt := 132) hx hb dn_Model_109 (by decide) (fun h9 => absurd h9 (by decide)) (fun _ => ?_)
  refine lv_aload_n hx hb dn_Model_112 rfl (lv_at hl 2 rfl) ?_
  refine jn_get X hP 0 6 5 rfl rfl (by decide) (jn_m 77 rfl) rfl rfl dn_Model_113 ?_
  refine lv_iload_n hx hb dn_Model_116 rfl (lv_at hl 0 rfl) ?_
  refine lv_iload_n hx hb dn_Model_117 rfl (lv_at hl 1 rfl) ?_
  refine va_iast hx hb hK hP hD hS 3 0 rfl rfl (by unfold vp_in; decide) dn_Model_118 (fun H locs hP hD hS => ?_)
  have hP : va_P D jx_cl [(h0, .inr (6, [.int 0, .int 0, .ref q1, .int 0, .ref q2, .ref q3, .ref q4, .ref q5, .ref q6, .ref q7, .ref q8, .ref q9, .int 0, .int 0, .int 0, .ref q10, .ref q11, .int 0, .ref q12])), (q1, .inl (ct 0, 80, .inl (fun _ => 0))), (q2, .inl (ct 1, 1944, .inl (fun _ => 0))), (q3, .inl (ct 0, 15, .inl (upd (upd (upd (upd (upd (upd (fun _ => 0) (Int32.toNatClampNeg 0) (nI (gf_pw 0))) (Int32.toNatClampNeg 1) (nI (gf_pw 1))) (Int32.toNatClampNeg 2) (nI (gf_pw 2))) (Int32.toNatClampNeg 3) (nI (gf_pw 3))) (Int32.toNatClampNeg 4) (nI (gf_pw 4))) (Int32.toNatClampNeg 5) (nI (gf_pw 5))))), (q4, .inl (ct 1, 324, .inl (fun _ => 0))), (q5, .inl (ct 1, 324, .inl (fun _ => 0))), (q6, .inl (ct 0, 15, .inl (fun _ => 0))), (q7, .inl (ct 0, 5, .inl (fun _ => 0))), (q8, .inl (ct 0, 44, .inl (fun _ => 0))), (q9, .inl (ct 0, 4, .inl (fun _ => 0))), (q10, .inl (ct 1, 6, .inl (fun _ => 0))), (q11, .inl (ct 0, 240, .inl (fun _ => 0))), (q12, .inl (ct 0, 80, .inl (fun _ => 0)))] H := hP
  have hD : va_D A [(h0, .inr (6, [.int 0, .int 0, .ref q1, .int 0, .ref q2, .ref q3, .ref q4, .ref q5, .ref q6, .ref q7, .ref q8, .ref q9, .int 0, .int 0, .int 0, .ref q10, .ref q11, .int 0, .ref q12])), (q1, .inl (ct 0, 80, .inl (fun _ => 0))), (q2, .inl (ct 1, 1944, .inl (fun _ => 0))), (q3, .inl (ct 0, 15, .inl (upd (upd (upd (upd (upd (upd (fun _ => 0) (Int32.toNatClampNeg 0) (nI (gf_pw 0))) (Int32.toNatClampNeg 1) (nI (gf_pw 1))) (Int32.toNatClampNeg 2) (nI (gf_pw 2))) (Int32.toNatClampNeg 3) (nI (gf_pw 3))) (Int32.toNatClampNeg 4) (nI (gf_pw 4))) (Int32.toNatClampNeg 5) (nI (gf_pw 5))))), (q4, .inl (ct 1, 324, .inl (fun _ => 0))), (q5, .inl (ct 1, 324, .inl (fun _ => 0))), (q6, .inl (ct 0, 15, .inl (fun _ => 0))), (q7, .inl (ct 0, 5, .inl (fun _ => 0))), (q8, .inl (ct 0, 44, .inl (fun _ => 0))), (q9, .inl (ct 0, 4, .inl (fun _ => 0))), (q10, .inl (ct 1, 6, .inl (fun _ => 0))), (q11, .inl (ct 0, 240, .inl (fun _ => 0))), (q12, .inl (ct 0, 80, .inl (fun _ => 0)))] := hD
  refine lv_aload_n hx hb dn_Model_119 rfl (lv_at hl 2 rfl) ?_
  refine lv_iload_n hx hb dn_Model_120 rfl (lv_at hl 1 rfl) ?_
  refine lv_iconst (v := 2) hx hb dn_Model_121 (by decide) ?_
  refine jn_pc (e := 5) (e2 := 6) X hP hD hS rfl hl.1 (by decide) rfl ⟨(Nat.le_of_ble_eq_true rfl), (Nat.le_of_ble_eq_true rfl)⟩ ⟨(Nat.le_of_ble_eq_true rfl), (Nat.le_of_ble_eq_true rfl)⟩ dn_Model_122 (fun H locs hP hS => ?_)
  refine lv_istore_n (i := 1) (lv' := [(1, .int (nI (gf_pw 6))), (2, .int 5), (0, .ref h0)]) hx hb dn_Model_125 rfl hl (Nat.le_of_ble_eq_true rfl) rfl (fun ls hl => ?_)
  refine lv_iinc (k := 1) (v := 6) (lv' := [(2, .int 6), (1, .int (nI (gf_pw 6))), (0, .ref h0)]) hx hb dn_Model_126 hl rfl (by decide) (Nat.le_of_ble_eq_true rfl) rfl (fun ls hl => ?_)
  refine lv_goto (tgt := 106) hx hb dn_Model_129 (by decide) ?_
  refine W.eq (g2 := F0 m 106 ls []) rfl ?_
  refine lv_iload_n hx hb dn_Model_106 rfl (lv_at hl 0 rfl) ?_
  refine lv_bipush (v := 15) hx hb dn_Model_107 (by decide) ?_
  refine lv_icmp_ge (tgt := 132) hx hb dn_Model_109 (by decide) (fun h9 => absurd h9 (by decide)) (fun _ => ?_)
  refine lv_aload_n hx hb dn_Model_112 rfl (lv_at hl 2 rfl) ?_
  refine jn_get X hP 0 6 5 rfl rfl (by decide) (jn_m 77 rfl) rfl rfl dn_Model_113 ?_
  refine lv_iload_n hx hb dn_Model_116 rfl (lv_at hl 0 rfl) ?_
  refine lv_iload_n hx hb dn_Model_117 rfl (lv_at hl 1 rfl) ?_
  refine va_iast hx hb hK hP hD hS 3 0 rfl rfl (by unfold vp_in; decide) dn_Model_118 (fun H locs hP hD hS => ?_)
  have hP : va_P D jx_cl [(h0, .inr (6, [.int 0, .int 0, .ref q1, .int 0, .ref q2, .ref q3, .ref q4, .ref q5, .ref q6, .ref q7, .ref q8, .ref q9, .int 0, .int 0, .int 0, .ref q10, .ref q11, .int 0, .ref q12])), (q1, .inl (ct 0, 80, .inl (fun _ => 0))), (q2, .inl (ct 1, 1944, .inl (fun _ => 0))), (q3, .inl (ct 0, 15, .inl (upd (upd (upd (upd (upd (upd (upd (fun _ => 0) (Int32.toNatClampNeg 0) (nI (gf_pw 0))) (Int32.toNatClampNeg 1) (nI (gf_pw 1))) (Int32.toNatClampNeg 2) (nI (gf_pw 2))) (Int32.toNatClampNeg 3) (nI (gf_pw 3))) (Int32.toNatClampNeg 4) (nI (gf_pw 4))) (Int32.toNatClampNeg 5) (nI (gf_pw 5))) (Int32.toNatClampNeg 6) (nI (gf_pw 6))))), (q4, .inl (ct 1, 324, .inl (fun _ => 0))), (q5, .inl (ct 1, 324, .inl (fun _ => 0))), (q6, .inl (ct 0, 15, .inl (fun _ => 0))), (q7, .inl (ct 0, 5, .inl (fun _ => 0))), (q8, .inl (ct 0, 44, .inl (fun _ => 0))), (q9, .inl (ct 0, 4, .inl (fun _ => 0))), (q10, .inl (ct 1, 6, .inl (fun _ => 0))), (q11, .inl (ct 0, 240, .inl (fun _ => 0))), (q12, .inl (ct 0, 80, .inl (fun _ => 0)))] H := hP
  have hD : va_D A [(h0, .inr (6, [.int 0, .int 0, .ref q1, .int 0, .ref q2, .ref q3, .ref q4, .ref q5, .ref q6, .ref q7, .ref q8, .ref q9, .int 0, .int 0, .int 0, .ref q10, .ref q11, .int 0, .ref q12])), (q1, .inl (ct 0, 80, .inl (fun _ => 0))), (q2, .inl (ct 1, 1944, .inl (fun _ => 0))), (q3, .inl (ct 0, 15, .inl (upd (upd (upd (upd (upd (upd (upd (fun _ => 0) (Int32.toNatClampNeg 0) (nI (gf_pw 0))) (Int32.toNatClampNeg 1) (nI (gf_pw 1))) (Int32.toNatClampNeg 2) (nI (gf_pw 2))) (Int32.toNatClampNeg 3) (nI (gf_pw 3))) (Int32.toNatClampNeg 4) (nI (gf_pw 4))) (Int32.toNatClampNeg 5) (nI (gf_pw 5))) (Int32.toNatClampNeg 6) (nI (gf_pw 6))))), (q4, .inl (ct 1, 324, .inl (fun _ => 0))), (q5, .inl (ct 1, 324, .inl (fun _ => 0))), (q6, .inl (ct 0, 15, .inl (fun _ => 0))), (q7, .inl (ct 0, 5, .inl (fun _ => 0))), (q8, .inl (ct 0, 44, .inl (fun _ => 0))), (q9, .inl (ct 0, 4, .inl (fun _ => 0))), (q10, .inl (ct 1, 6, .inl (fun _ => 0))), (q11, .inl (ct 0, 240, .inl (fun _ => 0))), (q12, .inl (ct 0, 80, .inl (fun _ => 0)))] := hD
  refine lv_aload_n hx hb dn_Model_119 rfl (lv_at hl 2 rfl) ?_
  refine lv_iload_n hx hb dn_Model_120 rfl (lv_at hl 1 rfl) ?_
  refine lv_iconst (v := 2) hx hb dn_Model_121 (by decide) ?_
  refine jn_pc (e := 6) (e2 := 7) X hP hD hS rfl hl.1 (by decide) rfl ⟨(Nat.le_of_ble_eq_true rfl), (Nat.le_of_ble_eq_true rfl)⟩ ⟨(Nat.le_of_ble_eq_true rfl), (Nat.le_of_ble_eq_true rfl)⟩ dn_Model_122 (fun H locs hP hS => ?_)
  refine lv_istore_n (i := 1) (lv' := [(1, .int (nI (gf_pw 7))), (2, .int 6), (0, .ref h0)]) hx hb dn_Model_125 rfl hl (Nat.le_of_ble_eq_true rfl) rfl (fun ls hl => ?_)
  refine lv_iinc (k := 1) (v := 7) (lv' := [(2, .int 7), (1, .int (nI (gf_pw 7))), (0, .ref h0)]) hx hb dn_Model_126 hl rfl (by decide) (Nat.le_of_ble_eq_true rfl) rfl (fun ls hl => ?_)
  refine lv_goto (tgt := 106) hx hb dn_Model_129 (by decide) ?_
  refine W.eq (g2 := F0 m 106 ls []) rfl ?_
  refine lv_iload_n hx hb dn_Model_106 rfl (lv_at hl 0 rfl) ?_
  refine lv_bipush (v := 15) hx hb dn_Model_107 (by decide) ?_
  refine lv_icmp_ge (tgt := 132) hx hb dn_Model_109 (by decide) (fun h9 => absurd h9 (by decide)) (fun _ => ?_)
  refine lv_aload_n hx hb dn_Model_112 rfl (lv_at hl 2 rfl) ?_
  refine jn_get X hP 0 6 5 rfl rfl (by decide) (jn_m 77 rfl) rfl rfl dn_Model_113 ?_
  refine lv_iload_n hx hb dn_Model_116 rfl (lv_at hl 0 rfl) ?_
  refine lv_iload_n hx hb dn_Model_117 rfl (lv_at hl 1 rfl) ?_
  refine va_iast hx hb hK hP hD hS 3 0 rfl rfl (by unfold vp_in; decide) dn_Model_118 (fun H locs hP hD hS => ?_)
  have hP : va_P D jx_cl [(h0, .inr (6, [.int 0, .int 0, .ref q1, .int 0, .ref q2, .ref q3, .ref q4, .ref q5, .ref q6, .ref q7, .ref q8, .ref q9, .int 0, .int 0, .int 0, .ref q10, .ref q11, .int 0, .ref q12])), (q1, .inl (ct 0, 80, .inl (fun _ => 0))), (q2, .inl (ct 1, 1944, .inl (fun _ => 0))), (q3, .inl (ct 0, 15, .inl (upd (upd (upd (upd (upd (upd (upd (upd (fun _ => 0) (Int32.toNatClampNeg 0) (nI (gf_pw 0))) (Int32.toNatClampNeg 1) (nI (gf_pw 1))) (Int32.toNatClampNeg 2) (nI (gf_pw 2))) (Int32.toNatClampNeg 3) (nI (gf_pw 3))) (Int32.toNatClampNeg 4) (nI (gf_pw 4))) (Int32.toNatClampNeg 5) (nI (gf_pw 5))) (Int32.toNatClampNeg 6) (nI (gf_pw 6))) (Int32.toNatClampNeg 7) (nI (gf_pw 7))))), (q4, .inl (ct 1, 324, .inl (fun _ => 0))), (q5, .inl (ct 1, 324, .inl (fun _ => 0))), (q6, .inl (ct 0, 15, .inl (fun _ => 0))), (q7, .inl (ct 0, 5, .inl (fun _ => 0))), (q8, .inl (ct 0, 44, .inl (fun _ => 0))), (q9, .inl (ct 0, 4, .inl (fun _ => 0))), (q10, .inl (ct 1, 6, .inl (fun _ => 0))), (q11, .inl (ct 0, 240, .inl (fun _ => 0))), (q12, .inl (ct 0, 80, .inl (fun _ => 0)))] H := hP
  have hD : va_D A [(h0, .inr (6, [.int 0, .int 0, .ref q1, .int 0, .ref q2, .ref q3, .ref q4, .ref q5, .ref q6, .ref q7, .ref q8, .ref q9, .int 0, .int 0, .int 0, .ref q10, .ref q11, .int 0, .ref q12])), (q1, .inl (ct 0, 80, .inl (fun _ => 0))), (q2, .inl (ct 1, 1944, .inl (fun _ => 0))), (q3, .inl (ct 0, 15, .inl (upd (upd (upd (upd (upd (upd (upd (upd (fun _ => 0) (Int32.toNatClampNeg 0) (nI (gf_pw 0))) (Int32.toNatClampNeg 1) (nI (gf_pw 1))) (Int32.toNatClampNeg 2) (nI (gf_pw 2))) (Int32.toNatClampNeg 3) (nI (gf_pw 3))) (Int32.toNatClampNeg 4) (nI (gf_pw 4))) (Int32.toNatClampNeg 5) (nI (gf_pw 5))) (Int32.toNatClampNeg 6) (nI (gf_pw 6))) (Int32.toNatClampNeg 7) (nI (gf_pw 7))))), (q4, .inl (ct 1, 324, .inl (fun _ => 0))), (q5, .inl (ct 1, 324, .inl (fun _ => 0))), (q6, .inl (ct 0, 15, .inl (fun _ => 0))), (q7, .inl (ct 0, 5, .inl (fun _ => 0))), (q8, .inl (ct 0, 44, .inl (fun _ => 0))), (q9, .inl (ct 0, 4, .inl (fun _ => 0))), (q10, .inl (ct 1, 6, .inl (fun _ => 0))), (q11, .inl (ct 0, 240, .inl (fun _ => 0))), (q12, .inl (ct 0, 80, .inl (fun _ => 0)))] := hD
  refine lv_aload_n hx hb dn_Model_119 rfl (lv_at hl 2 rfl) ?_
  refine lv_iload_n hx hb dn_Model_120 rfl (lv_at hl 1 rfl) ?_
  refine lv_iconst (v := 2) hx hb dn_Model_121 (by decide) ?_
  refine jn_pc (e := 7) (e2 := 8) X hP hD hS rfl hl.1 (by decide) rfl ⟨(Nat.le_of_ble_eq_true rfl), (Nat.le_of_ble_eq_true rfl)⟩ ⟨(Nat.le_of_ble_eq_true rfl), (Nat.le_of_ble_eq_true rfl)⟩ dn_Model_122 (fun H locs hP hS => ?_)
  refine lv_istore_n (i := 1) (lv' := [(1, .int (nI (gf_pw 8))), (2, .int 7), (0, .ref h0)]) hx hb dn_Model_125 rfl hl (Nat.le_of_ble_eq_true rfl) rfl (fun ls hl => ?_)
  refine lv_iinc (k := 1) (v := 8) (lv' := [(2, .int 8), (1, .int (nI (gf_pw 8))), (0, .ref h0)]) hx hb dn_Model_126 hl rfl (by decide) (Nat.le_of_ble_eq_true rfl) rfl (fun ls hl => ?_)
  refine lv_goto (tgt := 106) hx hb dn_Model_129 (by decide) ?_
  refine W.eq (g2 := F0 m 106 ls []) rfl ?_
  refine lv_iload_n hx hb dn_Model_106 rfl (lv_at hl 0 rfl) ?_
  refine lv_bipush (v := 15) hx hb dn_Model_107 (by decide) ?_
  refine lv_icmp_ge (tgt := 132) hx hb dn_Model_109 (by decide) (fun h9 => absurd h9 (by decide)) (fun _ => ?_)
  refine lv_aload_n hx hb dn_Model_112 rfl (lv_at hl 2 rfl) ?_
  refine jn_get X hP 0 6 5 rfl rfl (by decide) (jn_m 77 rfl) rfl rfl dn_Model_113 ?_
  refine lv_iload_n hx hb dn_Model_116 rfl (lv_at hl 0 rfl) ?_
  refine lv_iload_n hx hb dn_Model_117 rfl (lv_at hl 1 rfl) ?_
  refine va_iast hx hb hK hP hD hS 3 0 rfl rfl (by unfold vp_in; decide) dn_Model_118 (fun H locs hP hD hS => ?_)
  have hP : va_P D jx_cl [(h0, .inr (6, [.int 0, .int 0, .ref q1, .int 0, .ref q2, .ref q3, .ref q4, .ref q5, .ref q6, .ref q7, .ref q8, .ref q9, .int 0, .int 0, .int 0, .ref q10, .ref q11, .int 0, .ref q12])), (q1, .inl (ct 0, 80, .inl (fun _ => 0))), (q2, .inl (ct 1, 1944, .inl (fun _ => 0))), (q3, .inl (ct 0, 15, .inl (upd (upd (upd (upd (upd (upd (upd (upd (upd (fun _ => 0) (Int32.toNatClampNeg 0) (nI (gf_pw 0))) (Int32.toNatClampNeg 1) (nI (gf_pw 1))) (Int32.toNatClampNeg 2) (nI (gf_pw 2))) (Int32.toNatClampNeg 3) (nI (gf_pw 3))) (Int32.toNatClampNeg 4) (nI (gf_pw 4))) (Int32.toNatClampNeg 5) (nI (gf_pw 5))) (Int32.toNatClampNeg 6) (nI (gf_pw 6))) (Int32.toNatClampNeg 7) (nI (gf_pw 7))) (Int32.toNatClampNeg 8) (nI (gf_pw 8))))), (q4, .inl (ct 1, 324, .inl (fun _ => 0))), (q5, .inl (ct 1, 324, .inl (fun _ => 0))), (q6, .inl (ct 0, 15, .inl (fun _ => 0))), (q7, .inl (ct 0, 5, .inl (fun _ => 0))), (q8, .inl (ct 0, 44, .inl (fun _ => 0))), (q9, .inl (ct 0, 4, .inl (fun _ => 0))), (q10, .inl (ct 1, 6, .inl (fun _ => 0))), (q11, .inl (ct 0, 240, .inl (fun _ => 0))), (q12, .inl (ct 0, 80, .inl (fun _ => 0)))] H := hP
  have hD : va_D A [(h0, .inr (6, [.int 0, .int 0, .ref q1, .int 0, .ref q2, .ref q3, .ref q4, .ref q5, .ref q6, .ref q7, .ref q8, .ref q9, .int 0, .int 0, .int 0, .ref q10, .ref q11, .int 0, .ref q12])), (q1, .inl (ct 0, 80, .inl (fun _ => 0))), (q2, .inl (ct 1, 1944, .inl (fun _ => 0))), (q3, .inl (ct 0, 15, .inl (upd (upd (upd (upd (upd (upd (upd (upd (upd (fun _ => 0) (Int32.toNatClampNeg 0) (nI (gf_pw 0))) (Int32.toNatClampNeg 1) (nI (gf_pw 1))) (Int32.toNatClampNeg 2) (nI (gf_pw 2))) (Int32.toNatClampNeg 3) (nI (gf_pw 3))) (Int32.toNatClampNeg 4) (nI (gf_pw 4))) (Int32.toNatClampNeg 5) (nI (gf_pw 5))) (Int32.toNatClampNeg 6) (nI (gf_pw 6))) (Int32.toNatClampNeg 7) (nI (gf_pw 7))) (Int32.toNatClampNeg 8) (nI (gf_pw 8))))), (q4, .inl (ct 1, 324, .inl (fun _ => 0))), (q5, .inl (ct 1, 324, .inl (fun _ => 0))), (q6, .inl (ct 0, 15, .inl (fun _ => 0))), (q7, .inl (ct 0, 5, .inl (fun _ => 0))), (q8, .inl (ct 0, 44, .inl (fun _ => 0))), (q9, .inl (ct 0, 4, .inl (fun _ => 0))), (q10, .inl (ct 1, 6, .inl (fun _ => 0))), (q11, .inl (ct 0, 240, .inl (fun _ => 0))), (q12, .inl (ct 0, 80, .inl (fun _ => 0)))] := hD
  refine lv_aload_n hx hb dn_Model_119 rfl (lv_at hl 2 rfl) ?_
  refine lv_iload_n hx hb dn_Model_120 rfl (lv_at hl 1 rfl) ?_
  refine lv_iconst (v := 2) hx hb dn_Model_121 (by decide) ?_
  refine jn_pc (e := 8) (e2 := 9) X hP hD hS rfl hl.1 (by decide) rfl ⟨(Nat.le_of_ble_eq_true rfl), (Nat.le_of_ble_eq_true rfl)⟩ ⟨(Nat.le_of_ble_eq_true rfl), (Nat.le_of_ble_eq_true rfl)⟩ dn_Model_122 (fun H locs hP hS => ?_)
  refine lv_istore_n (i := 1) (lv' := [(1, .int (nI (gf_pw 9))), (2, .int 8), (0, .ref h0)]) hx hb dn_Model_125 rfl hl (Nat.le_of_ble_eq_true rfl) rfl (fun ls hl => ?_)
  refine lv_iinc (k := 1) (v := 9) (lv' := [(2, .int 9), (1, .int (nI (gf_pw 9))), (0, .ref h0)]) hx hb dn_Model_126 hl rfl (by decide) (Nat.le_of_ble_eq_true rfl) rfl (fun ls hl => ?_)
  refine lv_goto (tgt := 106) hx hb dn_Model_129 (by decide) ?_
  refine W.eq (g2 := F0 m 106 ls []) rfl ?_
  refine lv_iload_n hx hb dn_Model_106 rfl (lv_at hl 0 rfl) ?_
  refine lv_bipush (v := 15) hx hb dn_Model_107 (by decide) ?_
  refine lv_icmp_ge (tgt := 132) hx hb dn_Model_109 (by decide) (fun h9 => absurd h9 (by decide)) (fun _ => ?_)
  refine lv_aload_n hx hb dn_Model_112 rfl (lv_at hl 2 rfl) ?_
  refine jn_get X hP 0 6 5 rfl rfl (by decide) (jn_m 77 rfl) rfl rfl dn_Model_113 ?_
  refine lv_iload_n hx hb dn_Model_116 rfl (lv_at hl 0 rfl) ?_
  refine lv_iload_n hx hb dn_Model_117 rfl (lv_at hl 1 rfl) ?_
  refine va_iast hx hb hK hP hD hS 3 0 rfl rfl (by unfold vp_in; decide) dn_Model_118 (fun H locs hP hD hS => ?_)
  have hP : va_P D jx_cl [(h0, .inr (6, [.int 0, .int 0, .ref q1, .int 0, .ref q2, .ref q3, .ref q4, .ref q5, .ref q6, .ref q7, .ref q8, .ref q9, .int 0, .int 0, .int 0, .ref q10, .ref q11, .int 0, .ref q12])), (q1, .inl (ct 0, 80, .inl (fun _ => 0))), (q2, .inl (ct 1, 1944, .inl (fun _ => 0))), (q3, .inl (ct 0, 15, .inl (upd (upd (upd (upd (upd (upd (upd (upd (upd (upd (fun _ => 0) (Int32.toNatClampNeg 0) (nI (gf_pw 0))) (Int32.toNatClampNeg 1) (nI (gf_pw 1))) (Int32.toNatClampNeg 2) (nI (gf_pw 2))) (Int32.toNatClampNeg 3) (nI (gf_pw 3))) (Int32.toNatClampNeg 4) (nI (gf_pw 4))) (Int32.toNatClampNeg 5) (nI (gf_pw 5))) (Int32.toNatClampNeg 6) (nI (gf_pw 6))) (Int32.toNatClampNeg 7) (nI (gf_pw 7))) (Int32.toNatClampNeg 8) (nI (gf_pw 8))) (Int32.toNatClampNeg 9) (nI (gf_pw 9))))), (q4, .inl (ct 1, 324, .inl (fun _ => 0))), (q5, .inl (ct 1, 324, .inl (fun _ => 0))), (q6, .inl (ct 0, 15, .inl (fun _ => 0))), (q7, .inl (ct 0, 5, .inl (fun _ => 0))), (q8, .inl (ct 0, 44, .inl (fun _ => 0))), (q9, .inl (ct 0, 4, .inl (fun _ => 0))), (q10, .inl (ct 1, 6, .inl (fun _ => 0))), (q11, .inl (ct 0, 240, .inl (fun _ => 0))), (q12, .inl (ct 0, 80, .inl (fun _ => 0)))] H := hP
  have hD : va_D A [(h0, .inr (6, [.int 0, .int 0, .ref q1, .int 0, .ref q2, .ref q3, .ref q4, .ref q5, .ref q6, .ref q7, .ref q8, .ref q9, .int 0, .int 0, .int 0, .ref q10, .ref q11, .int 0, .ref q12])), (q1, .inl (ct 0, 80, .inl (fun _ => 0))), (q2, .inl (ct 1, 1944, .inl (fun _ => 0))), (q3, .inl (ct 0, 15, .inl (upd (upd (upd (upd (upd (upd (upd (upd (upd (upd (fun _ => 0) (Int32.toNatClampNeg 0) (nI (gf_pw 0))) (Int32.toNatClampNeg 1) (nI (gf_pw 1))) (Int32.toNatClampNeg 2) (nI (gf_pw 2))) (Int32.toNatClampNeg 3) (nI (gf_pw 3))) (Int32.toNatClampNeg 4) (nI (gf_pw 4))) (Int32.toNatClampNeg 5) (nI (gf_pw 5))) (Int32.toNatClampNeg 6) (nI (gf_pw 6))) (Int32.toNatClampNeg 7) (nI (gf_pw 7))) (Int32.toNatClampNeg 8) (nI (gf_pw 8))) (Int32.toNatClampNeg 9) (nI (gf_pw 9))))), (q4, .inl (ct 1, 324, .inl (fun _ => 0))), (q5, .inl (ct 1, 324, .inl (fun _ => 0))), (q6, .inl (ct 0, 15, .inl (fun _ => 0))), (q7, .inl (ct 0, 5, .inl (fun _ => 0))), (q8, .inl (ct 0, 44, .inl (fun _ => 0))), (q9, .inl (ct 0, 4, .inl (fun _ => 0))), (q10, .inl (ct 1, 6, .inl (fun _ => 0))), (q11, .inl (ct 0, 240, .inl (fun _ => 0))), (q12, .inl (ct 0, 80, .inl (fun _ => 0)))] := hD
  refine lv_aload_n hx hb dn_Model_119 rfl (lv_at hl 2 rfl) ?_
  refine lv_iload_n hx hb dn_Model_120 rfl (lv_at hl 1 rfl) ?_
  refine lv_iconst (v := 2) hx hb dn_Model_121 (by decide) ?_
  refine jn_pc (e := 9) (e2 := 10) X hP hD hS rfl hl.1 (by decide) rfl ⟨(Nat.le_of_ble_eq_true rfl), (Nat.le_of_ble_eq_true rfl)⟩ ⟨(Nat.le_of_ble_eq_true rfl), (Nat.le_of_ble_eq_true rfl)⟩ dn_Model_122 (fun H locs hP hS => ?_)
  refine lv_istore_n (i := 1) (lv' := [(1, .int (nI (gf_pw 10))), (2, .int 9), (0, .ref h0)]) hx hb dn_Model_125 rfl hl (Nat.le_of_ble_eq_true rfl) rfl (fun ls hl => ?_)
  refine lv_iinc (k := 1) (v := 10) (lv' := [(2, .int 10), (1, .int (nI (gf_pw 10))), (0, .ref h0)]) hx hb dn_Model_126 hl rfl (by decide) (Nat.le_of_ble_eq_true rfl) rfl (fun ls hl => ?_)
  refine lv_goto (tgt := 106) hx hb dn_Model_129 (by decide) ?_
  refine W.eq (g2 := F0 m 106 ls []) rfl ?_
  refine lv_iload_n hx hb dn_Model_106 rfl (lv_at hl 0 rfl) ?_
  refine lv_bipush (v := 15) hx hb dn_Model_107 (by decide) ?_
  refine lv_icmp_ge (tgt := 132) hx hb dn_Model_109 (by decide) (fun h9 => absurd h9 (by decide)) (fun _ => ?_)
  refine lv_aload_n hx hb dn_Model_112 rfl (lv_at hl 2 rfl) ?_
  refine jn_get X hP 0 6 5 rfl rfl (by decide) (jn_m 77 rfl) rfl rfl dn_Model_113 ?_
  refine lv_iload_n hx hb dn_Model_116 rfl (lv_at hl 0 rfl) ?_
  refine lv_iload_n hx hb dn_Model_117 rfl (lv_at hl 1 rfl) ?_
  refine va_iast hx hb hK hP hD hS 3 0 rfl rfl (by unfold vp_in; decide) dn_Model_118 (fun H locs hP hD hS => ?_)
  have hP : va_P D jx_cl [(h0, .inr (6, [.int 0, .int 0, .ref q1, .int 0, .ref q2, .ref q3, .ref q4, .ref q5, .ref q6, .ref q7, .ref q8, .ref q9, .int 0, .int 0, .int 0, .ref q10, .ref q11, .int 0, .ref q12])), (q1, .inl (ct 0, 80, .inl (fun _ => 0))), (q2, .inl (ct 1, 1944, .inl (fun _ => 0))), (q3, .inl (ct 0, 15, .inl (upd (upd (upd (upd (upd (upd (upd (upd (upd (upd (upd (fun _ => 0) (Int32.toNatClampNeg 0) (nI (gf_pw 0))) (Int32.toNatClampNeg 1) (nI (gf_pw 1))) (Int32.toNatClampNeg 2) (nI (gf_pw 2))) (Int32.toNatClampNeg 3) (nI (gf_pw 3))) (Int32.toNatClampNeg 4) (nI (gf_pw 4))) (Int32.toNatClampNeg 5) (nI (gf_pw 5))) (Int32.toNatClampNeg 6) (nI (gf_pw 6))) (Int32.toNatClampNeg 7) (nI (gf_pw 7))) (Int32.toNatClampNeg 8) (nI (gf_pw 8))) (Int32.toNatClampNeg 9) (nI (gf_pw 9))) (Int32.toNatClampNeg 10) (nI (gf_pw 10))))), (q4, .inl (ct 1, 324, .inl (fun _ => 0))), (q5, .inl (ct 1, 324, .inl (fun _ => 0))), (q6, .inl (ct 0, 15, .inl (fun _ => 0))), (q7, .inl (ct 0, 5, .inl (fun _ => 0))), (q8, .inl (ct 0, 44, .inl (fun _ => 0))), (q9, .inl (ct 0, 4, .inl (fun _ => 0))), (q10, .inl (ct 1, 6, .inl (fun _ => 0))), (q11, .inl (ct 0, 240, .inl (fun _ => 0))), (q12, .inl (ct 0, 80, .inl (fun _ => 0)))] H := hP
  have hD : va_D A [(h0, .inr (6, [.int 0, .int 0, .ref q1, .int 0, .ref q2, .ref q3, .ref q4, .ref q5, .ref q6, .ref q7, .ref q8, .ref q9, .int 0, .int 0, .int 0, .ref q10, .ref q11, .int 0, .ref q12])), (q1, .inl (ct 0, 80, .inl (fun _ => 0))), (q2, .inl (ct 1, 1944, .inl (fun _ => 0))), (q3, .inl (ct 0, 15, .inl (upd (upd (upd (upd (upd (upd (upd (upd (upd (upd (upd (fun _ => 0) (Int32.toNatClampNeg 0) (nI (gf_pw 0))) (Int32.toNatClampNeg 1) (nI (gf_pw 1))) (Int32.toNatClampNeg 2) (nI (gf_pw 2))) (Int32.toNatClampNeg 3) (nI (gf_pw 3))) (Int32.toNatClampNeg 4) (nI (gf_pw 4))) (Int32.toNatClampNeg 5) (nI (gf_pw 5))) (Int32.toNatClampNeg 6) (nI (gf_pw 6))) (Int32.toNatClampNeg 7) (nI (gf_pw 7))) (Int32.toNatClampNeg 8) (nI (gf_pw 8))) (Int32.toNatClampNeg 9) (nI (gf_pw 9))) (Int32.toNatClampNeg 10) (nI (gf_pw 10))))), (q4, .inl (ct 1, 324, .inl (fun _ => 0))), (q5, .inl (ct 1, 324, .inl (fun _ => 0))), (q6, .inl (ct 0, 15, .inl (fun _ => 0))), (q7, .inl (ct 0, 5, .inl (fun _ => 0))), (q8, .inl (ct 0, 44, .inl (fun _ => 0))), (q9, .inl (ct 0, 4, .inl (fun _ => 0))), (q10, .inl (ct 1, 6, .inl (fun _ => 0))), (q11, .inl (ct 0, 240, .inl (fun _ => 0))), (q12, .inl (ct 0, 80, .inl (fun _ => 0)))] := hD
  refine lv_aload_n hx hb dn_Model_119 rfl (lv_at hl 2 rfl) ?_
  refine lv_iload_n hx hb dn_Model_120 rfl (lv_at hl 1 rfl) ?_
  refine lv_iconst (v := 2) hx hb dn_Model_121 (by decide) ?_
  refine jn_pc (e := 10) (e2 := 11) X hP hD hS rfl hl.1 (by decide) rfl ⟨(Nat.le_of_ble_eq_true rfl), (Nat.le_of_ble_eq_true rfl)⟩ ⟨(Nat.le_of_ble_eq_true rfl), (Nat.le_of_ble_eq_true rfl)⟩ dn_Model_122 (fun H locs hP hS => ?_)
  refine lv_istore_n (i := 1) (lv' := [(1, .int (nI (gf_pw 11))), (2, .int 10), (0, .ref h0)]) hx hb dn_Model_125 rfl hl (Nat.le_of_ble_eq_true rfl) rfl (fun ls hl => ?_)
  refine lv_iinc (k := 1) (v := 11) (lv' := [(2, .int 11), (1, .int (nI (gf_pw 11))), (0, .ref h0)]) hx hb dn_Model_126 hl rfl (by decide) (Nat.le_of_ble_eq_true rfl) rfl (fun ls hl => ?_)
  refine lv_goto (tgt := 106) hx hb dn_Model_129 (by decide) ?_
  refine W.eq (g2 := F0 m 106 ls []) rfl ?_
  refine lv_iload_n hx hb dn_Model_106 rfl (lv_at hl 0 rfl) ?_
  refine lv_bipush (v := 15) hx hb dn_Model_107 (by decide) ?_
  refine lv_icmp_ge (tgt := 132) hx hb dn_Model_109 (by decide) (fun h9 => absurd h9 (by decide)) (fun _ => ?_)
  refine lv_aload_n hx hb dn_Model_112 rfl (lv_at hl 2 rfl) ?_
  refine jn_get X hP 0 6 5 rfl rfl (by decide) (jn_m 77 rfl) rfl rfl dn_Model_113 ?_
  refine lv_iload_n hx hb dn_Model_116 rfl (lv_at hl 0 rfl) ?_
  refine lv_iload_n hx hb dn_Model_117 rfl (lv_at hl 1 rfl) ?_
  refine va_iast hx hb hK hP hD hS 3 0 rfl rfl (by unfold vp_in; decide) dn_Model_118 (fun H locs hP hD hS => ?_)
  have hP : va_P D jx_cl [(h0, .inr (6, [.int 0, .int 0, .ref q1, .int 0, .ref q2, .ref q3, .ref q4, .ref q5, .ref q6, .ref q7, .ref q8, .ref q9, .int 0, .int 0, .int 0, .ref q10, .ref q11, .int 0, .ref q12])), (q1, .inl (ct 0, 80, .inl (fun _ => 0))), (q2, .inl (ct 1, 1944, .inl (fun _ => 0))), (q3, .inl (ct 0, 15, .inl (upd (upd (upd (upd (upd (upd (upd (upd (upd (upd (upd (upd (fun _ => 0) (Int32.toNatClampNeg 0) (nI (gf_pw 0))) (Int32.toNatClampNeg 1) (nI (gf_pw 1))) (Int32.toNatClampNeg 2) (nI (gf_pw 2))) (Int32.toNatClampNeg 3) (nI (gf_pw 3))) (Int32.toNatClampNeg 4) (nI (gf_pw 4))) (Int32.toNatClampNeg 5) (nI (gf_pw 5))) (Int32.toNatClampNeg 6) (nI (gf_pw 6))) (Int32.toNatClampNeg 7) (nI (gf_pw 7))) (Int32.toNatClampNeg 8) (nI (gf_pw 8))) (Int32.toNatClampNeg 9) (nI (gf_pw 9))) (Int32.toNatClampNeg 10) (nI (gf_pw 10))) (Int32.toNatClampNeg 11) (nI (gf_pw 11))))), (q4, .inl (ct 1, 324, .inl (fun _ => 0))), (q5, .inl (ct 1, 324, .inl (fun _ => 0))), (q6, .inl (ct 0, 15, .inl (fun _ => 0))), (q7, .inl (ct 0, 5, .inl (fun _ => 0))), (q8, .inl (ct 0, 44, .inl (fun _ => 0))), (q9, .inl (ct 0, 4, .inl (fun _ => 0))), (q10, .inl (ct 1, 6, .inl (fun _ => 0))), (q11, .inl (ct 0, 240, .inl (fun _ => 0))), (q12, .inl (ct 0, 80, .inl (fun _ => 0)))] H := hP
  have hD : va_D A [(h0, .inr (6, [.int 0, .int 0, .ref q1, .int 0, .ref q2, .ref q3, .ref q4, .ref q5, .ref q6, .ref q7, .ref q8, .ref q9, .int 0, .int 0, .int 0, .ref q10, .ref q11, .int 0, .ref q12])), (q1, .inl (ct 0, 80, .inl (fun _ => 0))), (q2, .inl (ct 1, 1944, .inl (fun _ => 0))), (q3, .inl (ct 0, 15, .inl (upd (upd (upd (upd (upd (upd (upd (upd (upd (upd (upd (upd (fun _ => 0) (Int32.toNatClampNeg 0) (nI (gf_pw 0))) (Int32.toNatClampNeg 1) (nI (gf_pw 1))) (Int32.toNatClampNeg 2) (nI (gf_pw 2))) (Int32.toNatClampNeg 3) (nI (gf_pw 3))) (Int32.toNatClampNeg 4) (nI (gf_pw 4))) (Int32.toNatClampNeg 5) (nI (gf_pw 5))) (Int32.toNatClampNeg 6) (nI (gf_pw 6))) (Int32.toNatClampNeg 7) (nI (gf_pw 7))) (Int32.toNatClampNeg 8) (nI (gf_pw 8))) (Int32.toNatClampNeg 9) (nI (gf_pw 9))) (Int32.toNatClampNeg 10) (nI (gf_pw 10))) (Int32.toNatClampNeg 11) (nI (gf_pw 11))))), (q4, .inl (ct 1, 324, .inl (fun _ => 0))), (q5, .inl (ct 1, 324, .inl (fun _ => 0))), (q6, .inl (ct 0, 15, .inl (fun _ => 0))), (q7, .inl (ct 0, 5, .inl (fun _ => 0))), (q8, .inl (ct 0, 44, .inl (fun _ => 0))), (q9, .inl (ct 0, 4, .inl (fun _ => 0))), (q10, .inl (ct 1, 6, .inl (fun _ => 0))), (q11, .inl (ct 0, 240, .inl (fun _ => 0))), (q12, .inl (ct 0, 80, .inl (fun _ => 0)))] := hD
  refine lv_aload_n hx hb dn_Model_119 rfl (lv_at hl 2 rfl) ?_
  refine lv_iload_n hx hb dn_Model_120 rfl (lv_at hl 1 rfl) ?_
  refine lv_iconst (v := 2) hx hb dn_Model_121 (by decide) ?_
  refine jn_pc (e := 11) (e2 := 12) X hP hD hS rfl hl.1 (by decide) rfl ⟨(Nat.le_of_ble_eq_true rfl), (Nat.le_of_ble_eq_true rfl)⟩ ⟨(Nat.le_of_ble_eq_true rfl), (Nat.le_of_ble_eq_true rfl)⟩ dn_Model_122 (fun H locs hP hS => ?_)
  refine lv_istore_n (i := 1) (lv' := [(1, .int (nI (gf_pw 12))), (2, .int 11), (0, .ref h0)]) hx hb dn_Model_125 rfl hl (Nat.le_of_ble_eq_true rfl) rfl (fun ls hl => ?_)
  refine lv_iinc (k := 1) (v := 12) (lv' := [(2, .int 12), (1, .int (nI (gf_pw 12))), (0, .ref h0)]) hx hb dn_Model_126 hl rfl (by decide) (Nat.le_of_ble_eq_true rfl) rfl (fun ls hl => ?_)
  refine lv_goto (tgt := 106) hx hb dn_Model_129 (by decide) ?_
  refine W.eq (g2 := F0 m 106 ls []) rfl ?_
  refine lv_iload_n hx hb dn_Model_106 rfl (lv_at hl 0 rfl) ?_
  refine lv_bipush (v := 15) hx hb dn_Model_107 (by decide) ?_
  refine lv_icmp_ge (tgt := 132) hx hb dn_Model_109 (by decide) (fun h9 => absurd h9 (by decide)) (fun _ => ?_)
  refine lv_aload_n hx hb dn_Model_112 rfl (lv_at hl 2 rfl) ?_
  refine jn_get X hP 0 6 5 rfl rfl (by decide) (jn_m 77 rfl) rfl rfl dn_Model_113 ?_
  refine lv_iload_n hx hb dn_Model_116 rfl (lv_at hl 0 rfl) ?_
  refine lv_iload_n hx hb dn_Model_117 rfl (lv_at hl 1 rfl) ?_
  refine va_iast hx hb hK hP hD hS 3 0 rfl rfl (by unfold vp_in; decide) dn_Model_118 (fun H locs hP hD hS => ?_)
  have hP : va_P D jx_cl [(h0, .inr (6, [.int 0, .int 0, .ref q1, .int 0, .ref q2, .ref q3, .ref q4, .ref q5, .ref q6, .ref q7, .ref q8, .ref q9, .int 0, .int 0, .int 0, .ref q10, .ref q11, .int 0, .ref q12])), (q1, .inl (ct 0, 80, .inl (fun _ => 0))), (q2, .inl (ct 1, 1944, .inl (fun _ => 0))), (q3, .inl (ct 0, 15, .inl (upd (upd (upd (upd (upd (upd (upd (upd (upd (upd (upd (upd (upd (fun _ => 0) (Int32.toNatClampNeg 0) (nI (gf_pw 0))) (Int32.toNatClampNeg 1) (nI (gf_pw 1))) (Int32.toNatClampNeg 2) (nI (gf_pw 2))) (Int32.toNatClampNeg 3) (nI (gf_pw 3))) (Int32.toNatClampNeg 4) (nI (gf_pw 4))) (Int32.toNatClampNeg 5) (nI (gf_pw 5))) (Int32.toNatClampNeg 6) (nI (gf_pw 6))) (Int32.toNatClampNeg 7) (nI (gf_pw 7))) (Int32.toNatClampNeg 8) (nI (gf_pw 8))) (Int32.toNatClampNeg 9) (nI (gf_pw 9))) (Int32.toNatClampNeg 10) (nI (gf_pw 10))) (Int32.toNatClampNeg 11) (nI (gf_pw 11))) (Int32.toNatClampNeg 12) (nI (gf_pw 12))))), (q4, .inl (ct 1, 324, .inl (fun _ => 0))), (q5, .inl (ct 1, 324, .inl (fun _ => 0))), (q6, .inl (ct 0, 15, .inl (fun _ => 0))), (q7, .inl (ct 0, 5, .inl (fun _ => 0))), (q8, .inl (ct 0, 44, .inl (fun _ => 0))), (q9, .inl (ct 0, 4, .inl (fun _ => 0))), (q10, .inl (ct 1, 6, .inl (fun _ => 0))), (q11, .inl (ct 0, 240, .inl (fun _ => 0))), (q12, .inl (ct 0, 80, .inl (fun _ => 0)))] H := hP
  have hD : va_D A [(h0, .inr (6, [.int 0, .int 0, .ref q1, .int 0, .ref q2, .ref q3, .ref q4, .ref q5, .ref q6, .ref q7, .ref q8, .ref q9, .int 0, .int 0, .int 0, .ref q10, .ref q11, .int 0, .ref q12])), (q1, .inl (ct 0, 80, .inl (fun _ => 0))), (q2, .inl (ct 1, 1944, .inl (fun _ => 0))), (q3, .inl (ct 0, 15, .inl (upd (upd (upd (upd (upd (upd (upd (upd (upd (upd (upd (upd (upd (fun _ => 0) (Int32.toNatClampNeg 0) (nI (gf_pw 0))) (Int32.toNatClampNeg 1) (nI (gf_pw 1))) (Int32.toNatClampNeg 2) (nI (gf_pw 2))) (Int32.toNatClampNeg 3) (nI (gf_pw 3))) (Int32.toNatClampNeg 4) (nI (gf_pw 4))) (Int32.toNatClampNeg 5) (nI (gf_pw 5))) (Int32.toNatClampNeg 6) (nI (gf_pw 6))) (Int32.toNatClampNeg 7) (nI (gf_pw 7))) (Int32.toNatClampNeg 8) (nI (gf_pw 8))) (Int32.toNatClampNeg 9) (nI (gf_pw 9))) (Int32.toNatClampNeg 10) (nI (gf_pw 10))) (Int32.toNatClampNeg 11) (nI (gf_pw 11))) (Int32.toNatClampNeg 12) (nI (gf_pw 12))))), (q4, .inl (ct 1, 324, .inl (fun _ => 0))), (q5, .inl (ct 1, 324, .inl (fun _ => 0))), (q6, .inl (ct 0, 15, .inl (fun _ => 0))), (q7, .inl (ct 0, 5, .inl (fun _ => 0))), (q8, .inl (ct 0, 44, .inl (fun _ => 0))), (q9, .inl (ct 0, 4, .inl (fun _ => 0))), (q10, .inl (ct 1, 6, .inl (fun _ => 0))), (q11, .inl (ct 0, 240, .inl (fun _ => 0))), (q12, .inl (ct 0, 80, .inl (fun _ => 0)))] := hD
  refine lv_aload_n hx hb dn_Model_119 rfl (lv_at hl 2 rfl) ?_
  refine lv_iload_n hx hb dn_Model_120 rfl (lv_at hl 1 rfl) ?_
  refine lv_iconst (v := 2) hx hb dn_Model_121 (by decide) ?_
  refine jn_pc (e := 12) (e2 := 13) X hP hD hS rfl hl.1 (by decide) rfl ⟨(Nat.le_of_ble_eq_true rfl), (Nat.le_of_ble_eq_true rfl)⟩ ⟨(Nat.le_of_ble_eq_true rfl), (Nat.le_of_ble_eq_true rfl)⟩ dn_Model_122 (fun H locs hP hS => ?_)
  refine lv_istore_n (i := 1) (lv' := [(1, .int (nI (gf_pw 13))), (2, .int 12), (0, .ref h0)]) hx hb dn_Model_125 rfl hl (Nat.le_of_ble_eq_true rfl) rfl (fun ls hl => ?_)
  refine lv_iinc (k := 1) (v := 13) (lv' := [(2, .int 13), (1, .int (nI (gf_pw 13))), (0, .ref h0)]) hx hb dn_Model_126 hl rfl (by decide) (Nat.le_of_ble_eq_true rfl) rfl (fun ls hl => ?_)
  refine lv_goto (tgt := 106) hx hb dn_Model_129 (by decide) ?_
  refine W.eq (g2 := F0 m 106 ls []) rfl ?_
  refine lv_iload_n hx hb dn_Model_106 rfl (lv_at hl 0 rfl) ?_
  refine lv_bipush (v := 15) hx hb dn_Model_107 (by decide) ?_
  refine lv_icmp_ge (tgt := 132) hx hb dn_Model_109 (by decide) (fun h9 => absurd h9 (by decide)) (fun _ => ?_)
  refine lv_aload_n hx hb dn_Model_112 rfl (lv_at hl 2 rfl) ?_
  refine jn_get X hP 0 6 5 rfl rfl (by decide) (jn_m 77 rfl) rfl rfl dn_Model_113 ?_
  refine lv_iload_n hx hb dn_Model_116 rfl (lv_at hl 0 rfl) ?_
  refine lv_iload_n hx hb dn_Model_117 rfl (lv_at hl 1 rfl) ?_
  refine va_iast hx hb hK hP hD hS 3 0 rfl rfl (by unfold vp_in; decide) dn_Model_118 (fun H locs hP hD hS => ?_)
  have hP : va_P D jx_cl [(h0, .inr (6, [.int 0, .int 0, .ref q1, .int 0, .ref q2, .ref q3, .ref q4, .ref q5, .ref q6, .ref q7, .ref q8, .ref q9, .int 0, .int 0, .int 0, .ref q10, .ref q11, .int 0, .ref q12])), (q1, .inl (ct 0, 80, .inl (fun _ => 0))), (q2, .inl (ct 1, 1944, .inl (fun _ => 0))), (q3, .inl (ct 0, 15, .inl (upd (upd (upd (upd (upd (upd (upd (upd (upd (upd (upd (upd (upd (upd (fun _ => 0) (Int32.toNatClampNeg 0) (nI (gf_pw 0))) (Int32.toNatClampNeg 1) (nI (gf_pw 1))) (Int32.toNatClampNeg 2) (nI (gf_pw 2))) (Int32.toNatClampNeg 3) (nI (gf_pw 3))) (Int32.toNatClampNeg 4) (nI (gf_pw 4))) (Int32.toNatClampNeg 5) (nI (gf_pw 5))) (Int32.toNatClampNeg 6) (nI (gf_pw 6))) (Int32.toNatClampNeg 7) (nI (gf_pw 7))) (Int32.toNatClampNeg 8) (nI (gf_pw 8))) (Int32.toNatClampNeg 9) (nI (gf_pw 9))) (Int32.toNatClampNeg 10) (nI (gf_pw 10))) (Int32.toNatClampNeg 11) (nI (gf_pw 11))) (Int32.toNatClampNeg 12) (nI (gf_pw 12))) (Int32.toNatClampNeg 13) (nI (gf_pw 13))))), (q4, .inl (ct 1, 324, .inl (fun _ => 0))), (q5, .inl (ct 1, 324, .inl (fun _ => 0))), (q6, .inl (ct 0, 15, .inl (fun _ => 0))), (q7, .inl (ct 0, 5, .inl (fun _ => 0))), (q8, .inl (ct 0, 44, .inl (fun _ => 0))), (q9, .inl (ct 0, 4, .inl (fun _ => 0))), (q10, .inl (ct 1, 6, .inl (fun _ => 0))), (q11, .inl (ct 0, 240, .inl (fun _ => 0))), (q12, .inl (ct 0, 80, .inl (fun _ => 0)))] H := hP
  have hD : va_D A [(h0, .inr (6, [.int 0, .int 0, .ref q1, .int 0, .ref q2, .ref q3, .ref q4, .ref q5, .ref q6, .ref q7, .ref q8, .ref q9, .int 0, .int 0, .int 0, .ref q10, .ref q11, .int 0, .ref q12])), (q1, .inl (ct 0, 80, .inl (fun _ => 0))), (q2, .inl (ct 1, 1944, .inl (fun _ => 0))), (q3, .inl (ct 0, 15, .inl (upd (upd (upd (upd (upd (upd (upd (upd (upd (upd (upd (upd (upd (upd (fun _ => 0) (Int32.toNatClampNeg 0) (nI (gf_pw 0))) (Int32.toNatClampNeg 1) (nI (gf_pw 1))) (Int32.toNatClampNeg 2) (nI (gf_pw 2))) (Int32.toNatClampNeg 3) (nI (gf_pw 3))) (Int32.toNatClampNeg 4) (nI (gf_pw 4))) (Int32.toNatClampNeg 5) (nI (gf_pw 5))) (Int32.toNatClampNeg 6) (nI (gf_pw 6))) (Int32.toNatClampNeg 7) (nI (gf_pw 7))) (Int32.toNatClampNeg 8) (nI (gf_pw 8))) (Int32.toNatClampNeg 9) (nI (gf_pw 9))) (Int32.toNatClampNeg 10) (nI (gf_pw 10))) (Int32.toNatClampNeg 11) (nI (gf_pw 11))) (Int32.toNatClampNeg 12) (nI (gf_pw 12))) (Int32.toNatClampNeg 13) (nI (gf_pw 13))))), (q4, .inl (ct 1, 324, .inl (fun _ => 0))), (q5, .inl (ct 1, 324, .inl (fun _ => 0))), (q6, .inl (ct 0, 15, .inl (fun _ => 0))), (q7, .inl (ct 0, 5, .inl (fun _ => 0))), (q8, .inl (ct 0, 44, .inl (fun _ => 0))), (q9, .inl (ct 0, 4, .inl (fun _ => 0))), (q10, .inl (ct 1, 6, .inl (fun _ => 0))), (q11, .inl (ct 0, 240, .inl (fun _ => 0))), (q12, .inl (ct 0, 80, .inl (fun _ => 0)))] := hD
  refine lv_aload_n hx hb dn_Model_119 rfl (lv_at hl 2 rfl) ?_
  refine lv_iload_n hx hb dn_Model_120 rfl (lv_at hl 1 rfl) ?_
  refine lv_iconst (v := 2) hx hb dn_Model_121 (by decide) ?_
  refine jn_pc (e := 13) (e2 := 14) X hP hD hS rfl hl.1 (by decide) rfl ⟨(Nat.le_of_ble_eq_true rfl), (Nat.le_of_ble_eq_true rfl)⟩ ⟨(Nat.le_of_ble_eq_true rfl), (Nat.le_of_ble_eq_true rfl)⟩ dn_Model_122 (fun H locs hP hS => ?_)
  refine lv_istore_n (i := 1) (lv' := [(1, .int (nI (gf_pw 14))), (2, .int 13), (0, .ref h0)]) hx hb dn_Model_125 rfl hl (Nat.le_of_ble_eq_true rfl) rfl (fun ls hl => ?_)
  refine lv_iinc (k := 1) (v := 14) (lv' := [(2, .int 14), (1, .int (nI (gf_pw 14))), (0, .ref h0)]) hx hb dn_Model_126 hl rfl (by decide) (Nat.le_of_ble_eq_true rfl) rfl (fun ls hl => ?_)
  refine lv_goto (tgt := 106) hx hb dn_Model_129 (by decide) ?_
  refine W.eq (g2 := F0 m 106 ls []) rfl ?_
  refine lv_iload_n hx hb dn_Model_106 rfl (lv_at hl 0 rfl) ?_
  refine lv_bipush (v := 15) hx hb dn_Model_107 (by decide) ?_
  refine lv_icmp_ge (tgt := 132) hx hb dn_Model_109 (by decide) (fun h9 => absurd h9 (by decide)) (fun _ => ?_)
  refine lv_aload_n hx hb dn_Model_112 rfl (lv_at hl 2 rfl) ?_
  refine jn_get X hP 0 6 5 rfl rfl (by decide) (jn_m 77 rfl) rfl rfl dn_Model_113 ?_
  refine lv_iload_n hx hb dn_Model_116 rfl (lv_at hl 0 rfl) ?_
  refine lv_iload_n hx hb dn_Model_117 rfl (lv_at hl 1 rfl) ?_
  refine va_iast hx hb hK hP hD hS 3 0 rfl rfl (by unfold vp_in; decide) dn_Model_118 (fun H locs hP hD hS => ?_)
  have hP : va_P D jx_cl [(h0, .inr (6, [.int 0, .int 0, .ref q1, .int 0, .ref q2, .ref q3, .ref q4, .ref q5, .ref q6, .ref q7, .ref q8, .ref q9, .int 0, .int 0, .int 0, .ref q10, .ref q11, .int 0, .ref q12])), (q1, .inl (ct 0, 80, .inl (fun _ => 0))), (q2, .inl (ct 1, 1944, .inl (fun _ => 0))), (q3, .inl (ct 0, 15, .inl (upd (upd (upd (upd (upd (upd (upd (upd (upd (upd (upd (upd (upd (upd (upd (fun _ => 0) (Int32.toNatClampNeg 0) (nI (gf_pw 0))) (Int32.toNatClampNeg 1) (nI (gf_pw 1))) (Int32.toNatClampNeg 2) (nI (gf_pw 2))) (Int32.toNatClampNeg 3) (nI (gf_pw 3))) (Int32.toNatClampNeg 4) (nI (gf_pw 4))) (Int32.toNatClampNeg 5) (nI (gf_pw 5))) (Int32.toNatClampNeg 6) (nI (gf_pw 6))) (Int32.toNatClampNeg 7) (nI (gf_pw 7))) (Int32.toNatClampNeg 8) (nI (gf_pw 8))) (Int32.toNatClampNeg 9) (nI (gf_pw 9))) (Int32.toNatClampNeg 10) (nI (gf_pw 10))) (Int32.toNatClampNeg 11) (nI (gf_pw 11))) (Int32.toNatClampNeg 12) (nI (gf_pw 12))) (Int32.toNatClampNeg 13) (nI (gf_pw 13))) (Int32.toNatClampNeg 14) (nI (gf_pw 14))))), (q4, .inl (ct 1, 324, .inl (fun _ => 0))), (q5, .inl (ct 1, 324, .inl (fun _ => 0))), (q6, .inl (ct 0, 15, .inl (fun _ => 0))), (q7, .inl (ct 0, 5, .inl (fun _ => 0))), (q8, .inl (ct 0, 44, .inl (fun _ => 0))), (q9, .inl (ct 0, 4, .inl (fun _ => 0))), (q10, .inl (ct 1, 6, .inl (fun _ => 0))), (q11, .inl (ct 0, 240, .inl (fun _ => 0))), (q12, .inl (ct 0, 80, .inl (fun _ => 0)))] H := hP
  have hD : va_D A [(h0, .inr (6, [.int 0, .int 0, .ref q1, .int 0, .ref q2, .ref q3, .ref q4, .ref q5, .ref q6, .ref q7, .ref q8, .ref q9, .int 0, .int 0, .int 0, .ref q10, .ref q11, .int 0, .ref q12])), (q1, .inl (ct 0, 80, .inl (fun _ => 0))), (q2, .inl (ct 1, 1944, .inl (fun _ => 0))), (q3, .inl (ct 0, 15, .inl (upd (upd (upd (upd (upd (upd (upd (upd (upd (upd (upd (upd (upd (upd (upd (fun _ => 0) (Int32.toNatClampNeg 0) (nI (gf_pw 0))) (Int32.toNatClampNeg 1) (nI (gf_pw 1))) (Int32.toNatClampNeg 2) (nI (gf_pw 2))) (Int32.toNatClampNeg 3) (nI (gf_pw 3))) (Int32.toNatClampNeg 4) (nI (gf_pw 4))) (Int32.toNatClampNeg 5) (nI (gf_pw 5))) (Int32.toNatClampNeg 6) (nI (gf_pw 6))) (Int32.toNatClampNeg 7) (nI (gf_pw 7))) (Int32.toNatClampNeg 8) (nI (gf_pw 8))) (Int32.toNatClampNeg 9) (nI (gf_pw 9))) (Int32.toNatClampNeg 10) (nI (gf_pw 10))) (Int32.toNatClampNeg 11) (nI (gf_pw 11))) (Int32.toNatClampNeg 12) (nI (gf_pw 12))) (Int32.toNatClampNeg 13) (nI (gf_pw 13))) (Int32.toNatClampNeg 14) (nI (gf_pw 14))))), (q4, .inl (ct 1, 324, .inl (fun _ => 0))), (q5, .inl (ct 1, 324, .inl (fun _ => 0))), (q6, .inl (ct 0, 15, .inl (fun _ => 0))), (q7, .inl (ct 0, 5, .inl (fun _ => 0))), (q8, .inl (ct 0, 44, .inl (fun _ => 0))), (q9, .inl (ct 0, 4, .inl (fun _ => 0))), (q10, .inl (ct 1, 6, .inl (fun _ => 0))), (q11, .inl (ct 0, 240, .inl (fun _ => 0))), (q12, .inl (ct 0, 80, .inl (fun _ => 0)))] := hD
  refine lv_aload_n hx hb dn_Model_119 rfl (lv_at hl 2 rfl) ?_
  refine lv_iload_n hx hb dn_Model_120 rfl (lv_at hl 1 rfl) ?_
  refine lv_iconst (v := 2) hx hb dn_Model_121 (by decide) ?_
  refine jn_pc (e := 14) (e2 := 15) X hP hD hS rfl hl.1 (by decide) rfl ⟨(Nat.le_of_ble_eq_true rfl), (Nat.le_of_ble_eq_true rfl)⟩ ⟨(Nat.le_of_ble_eq_true rfl), (Nat.le_of_ble_eq_true rfl)⟩ dn_Model_122 (fun H locs hP hS => ?_)
  refine lv_istore_n (i := 1) (lv' := [(1, .int (nI (gf_pw 15))), (2, .int 14), (0, .ref h0)]) hx hb dn_Model_125 rfl hl (Nat.le_of_ble_eq_true rfl) rfl (fun ls hl => ?_)
  refine lv_iinc (k := 1) (v := 15) (lv' := [(2, .int 15), (1, .int (nI (gf_pw 15))), (0, .ref h0)]) hx hb dn_Model_126 hl rfl (by decide) (Nat.le_of_ble_eq_true rfl) rfl (fun ls hl => ?_)
  refine lv_goto (tgt := 106) hx hb dn_Model_129 (by decide) ?_
  refine W.eq (g2 := F0 m 106 ls []) rfl ?_
  refine lv_iload_n hx hb dn_Model_106 rfl (lv_at hl 0 rfl) ?_
  refine lv_bipush (v := 15) hx hb dn_Model_107 (by decide) ?_
  refine lv_icmp_ge (tgt := 132) hx hb dn_Model_109 (by decide) (fun _ => ?_) (fun h9 => absurd (by decide) h9)
  refine W.eq (g2 := F0 m 132 ls []) rfl ?_
  refine lv_iconst (v := 0) hx hb dn_Model_132 (by decide) ?_
  refine lv_istore_n (i := 2) (lv' := [(2, .int 0), (1, .int (nI (gf_pw 15))), (0, .ref h0)]) hx hb dn_Model_133 rfl hl (Nat.le_of_ble_eq_true rfl) rfl (fun ls hl => ?_)
  refine lv_iload_n hx hb dn_Model_134 rfl (lv_at hl 0 rfl) ?_
  refine lv_iconst (v := 4) hx hb dn_Model_135 (by decide) ?_
  refine lv_icmp_ge (tgt := 153) hx hb dn_Model_136 (by decide) (fun h9 => absurd h9 (by decide)) (fun _ => ?_)
  refine lv_aload_n hx hb dn_Model_139 rfl (lv_at hl 2 rfl) ?_
  refine jn_get X hP 0 6 11 rfl rfl (by decide) (jn_m 83 rfl) rfl rfl dn_Model_140 ?_
  refine lv_iload_n hx hb dn_Model_143 rfl (lv_at hl 0 rfl) ?_
  refine lv_bipush (v := (-2)) hx hb dn_Model_144 (by decide) ?_
  refine va_iast hx hb hK hP hD hS 9 0 rfl rfl (by unfold vp_in; decide) dn_Model_146 (fun H locs hP hD hS => ?_)
  have hP : va_P D jx_cl [(h0, .inr (6, [.int 0, .int 0, .ref q1, .int 0, .ref q2, .ref q3, .ref q4, .ref q5, .ref q6, .ref q7, .ref q8, .ref q9, .int 0, .int 0, .int 0, .ref q10, .ref q11, .int 0, .ref q12])), (q1, .inl (ct 0, 80, .inl (fun _ => 0))), (q2, .inl (ct 1, 1944, .inl (fun _ => 0))), (q3, .inl (ct 0, 15, .inl (upd (upd (upd (upd (upd (upd (upd (upd (upd (upd (upd (upd (upd (upd (upd (fun _ => 0) (Int32.toNatClampNeg 0) (nI (gf_pw 0))) (Int32.toNatClampNeg 1) (nI (gf_pw 1))) (Int32.toNatClampNeg 2) (nI (gf_pw 2))) (Int32.toNatClampNeg 3) (nI (gf_pw 3))) (Int32.toNatClampNeg 4) (nI (gf_pw 4))) (Int32.toNatClampNeg 5) (nI (gf_pw 5))) (Int32.toNatClampNeg 6) (nI (gf_pw 6))) (Int32.toNatClampNeg 7) (nI (gf_pw 7))) (Int32.toNatClampNeg 8) (nI (gf_pw 8))) (Int32.toNatClampNeg 9) (nI (gf_pw 9))) (Int32.toNatClampNeg 10) (nI (gf_pw 10))) (Int32.toNatClampNeg 11) (nI (gf_pw 11))) (Int32.toNatClampNeg 12) (nI (gf_pw 12))) (Int32.toNatClampNeg 13) (nI (gf_pw 13))) (Int32.toNatClampNeg 14) (nI (gf_pw 14))))), (q4, .inl (ct 1, 324, .inl (fun _ => 0))), (q5, .inl (ct 1, 324, .inl (fun _ => 0))), (q6, .inl (ct 0, 15, .inl (fun _ => 0))), (q7, .inl (ct 0, 5, .inl (fun _ => 0))), (q8, .inl (ct 0, 44, .inl (fun _ => 0))), (q9, .inl (ct 0, 4, .inl (upd (fun _ => 0) (Int32.toNatClampNeg 0) (-2)))), (q10, .inl (ct 1, 6, .inl (fun _ => 0))), (q11, .inl (ct 0, 240, .inl (fun _ => 0))), (q12, .inl (ct 0, 80, .inl (fun _ => 0)))] H := hP
  have hD : va_D A [(h0, .inr (6, [.int 0, .int 0, .ref q1, .int 0, .ref q2, .ref q3, .ref q4, .ref q5, .ref q6, .ref q7, .ref q8, .ref q9, .int 0, .int 0, .int 0, .ref q10, .ref q11, .int 0, .ref q12])), (q1, .inl (ct 0, 80, .inl (fun _ => 0))), (q2, .inl (ct 1, 1944, .inl (fun _ => 0))), (q3, .inl (ct 0, 15, .inl (upd (upd (upd (upd (upd (upd (upd (upd (upd (upd (upd (upd (upd (upd (upd (fun _ => 0) (Int32.toNatClampNeg 0) (nI (gf_pw 0))) (Int32.toNatClampNeg 1) (nI (gf_pw 1))) (Int32.toNatClampNeg 2) (nI (gf_pw 2))) (Int32.toNatClampNeg 3) (nI (gf_pw 3))) (Int32.toNatClampNeg 4) (nI (gf_pw 4))) (Int32.toNatClampNeg 5) (nI (gf_pw 5))) (Int32.toNatClampNeg 6) (nI (gf_pw 6))) (Int32.toNatClampNeg 7) (nI (gf_pw 7))) (Int32.toNatClampNeg 8) (nI (gf_pw 8))) (Int32.toNatClampNeg 9) (nI (gf_pw 9))) (Int32.toNatClampNeg 10) (nI (gf_pw 10))) (Int32.toNatClampNeg 11) (nI (gf_pw 11))) (Int32.toNatClampNeg 12) (nI (gf_pw 12))) (Int32.toNatClampNeg 13) (nI (gf_pw 13))) (Int32.toNatClampNeg 14) (nI (gf_pw 14))))), (q4, .inl (ct 1, 324, .inl (fun _ => 0))), (q5, .inl (ct 1, 324, .inl (fun _ => 0))), (q6, .inl (ct 0, 15, .inl (fun _ => 0))), (q7, .inl (ct 0, 5, .inl (fun _ => 0))), (q8, .inl (ct 0, 44, .inl (fun _ => 0))), (q9, .inl (ct 0, 4, .inl (upd (fun _ => 0) (Int32.toNatClampNeg 0) (-2)))), (q10, .inl (ct 1, 6, .inl (fun _ => 0))), (q11, .inl (ct 0, 240, .inl (fun _ => 0))), (q12, .inl (ct 0, 80, .inl (fun _ => 0)))] := hD
  refine lv_iinc (k := 0) (v := 1) (lv' := [(2, .int 1), (1, .int (nI (gf_pw 15))), (0, .ref h0)]) hx hb dn_Model_147 hl rfl (by decide) (Nat.le_of_ble_eq_true rfl) rfl (fun ls hl => ?_)
  refine lv_goto (tgt := 134) hx hb dn_Model_150 (by decide) ?_
  refine W.eq (g2 := F0 m 134 ls []) rfl ?_
  refine lv_iload_n hx hb dn_Model_134 rfl (lv_at hl 0 rfl) ?_
  refine lv_iconst (v := 4) hx hb dn_Model_135 (by decide) ?_
  refine lv_icmp_ge (tgt := 153) hx hb dn_Model_136 (by decide) (fun h9 => absurd h9 (by decide)) (fun _ => ?_)
  refine lv_aload_n hx hb dn_Model_139 rfl (lv_at hl 2 rfl) ?_
  refine jn_get X hP 0 6 11 rfl rfl (by decide) (jn_m 83 rfl) rfl rfl dn_Model_140 ?_
  refine lv_iload_n hx hb dn_Model_143 rfl (lv_at hl 0 rfl) ?_
  refine lv_bipush (v := (-2)) hx hb dn_Model_144 (by decide) ?_
  refine va_iast hx hb hK hP hD hS 9 0 rfl rfl (by unfold vp_in; decide) dn_Model_146 (fun H locs hP hD hS => ?_)
  have hP : va_P D jx_cl [(h0, .inr (6, [.int 0, .int 0, .ref q1, .int 0, .ref q2, .ref q3, .ref q4, .ref q5, .ref q6, .ref q7, .ref q8, .ref q9, .int 0, .int 0, .int 0, .ref q10, .ref q11, .int 0, .ref q12])), (q1, .inl (ct 0, 80, .inl (fun _ => 0))), (q2, .inl (ct 1, 1944, .inl (fun _ => 0))), (q3, .inl (ct 0, 15, .inl (upd (upd (upd (upd (upd (upd (upd (upd (upd (upd (upd (upd (upd (upd (upd (fun _ => 0) (Int32.toNatClampNeg 0) (nI (gf_pw 0))) (Int32.toNatClampNeg 1) (nI (gf_pw 1))) (Int32.toNatClampNeg 2) (nI (gf_pw 2))) (Int32.toNatClampNeg 3) (nI (gf_pw 3))) (Int32.toNatClampNeg 4) (nI (gf_pw 4))) (Int32.toNatClampNeg 5) (nI (gf_pw 5))) (Int32.toNatClampNeg 6) (nI (gf_pw 6))) (Int32.toNatClampNeg 7) (nI (gf_pw 7))) (Int32.toNatClampNeg 8) (nI (gf_pw 8))) (Int32.toNatClampNeg 9) (nI (gf_pw 9))) (Int32.toNatClampNeg 10) (nI (gf_pw 10))) (Int32.toNatClampNeg 11) (nI (gf_pw 11))) (Int32.toNatClampNeg 12) (nI (gf_pw 12))) (Int32.toNatClampNeg 13) (nI (gf_pw 13))) (Int32.toNatClampNeg 14) (nI (gf_pw 14))))), (q4, .inl (ct 1, 324, .inl (fun _ => 0))), (q5, .inl (ct 1, 324, .inl (fun _ => 0))), (q6, .inl (ct 0, 15, .inl (fun _ => 0))), (q7, .inl (ct 0, 5, .inl (fun _ => 0))), (q8, .inl (ct 0, 44, .inl (fun _ => 0))), (q9, .inl (ct 0, 4, .inl (upd (upd (fun _ => 0) (Int32.toNatClampNeg 0) (-2)) (Int32.toNatClampNeg 1) (-2)))), (q10, .inl (ct 1, 6, .inl (fun _ => 0))), (q11, .inl (ct 0, 240, .inl (fun _ => 0))), (q12, .inl (ct 0, 80, .inl (fun _ => 0)))] H := hP
  have hD : va_D A [(h0, .inr (6, [.int 0, .int 0, .ref q1, .int 0, .ref q2, .ref q3, .ref q4, .ref q5, .ref q6, .ref q7, .ref q8, .ref q9, .int 0, .int 0, .int 0, .ref q10, .ref q11, .int 0, .ref q12])), (q1, .inl (ct 0, 80, .inl (fun _ => 0))), (q2, .inl (ct 1, 1944, .inl (fun _ => 0))), (q3, .inl (ct 0, 15, .inl (upd (upd (upd (upd (upd (upd (upd (upd (upd (upd (upd (upd (upd (upd (upd (fun _ => 0) (Int32.toNatClampNeg 0) (nI (gf_pw 0))) (Int32.toNatClampNeg 1) (nI (gf_pw 1))) (Int32.toNatClampNeg 2) (nI (gf_pw 2))) (Int32.toNatClampNeg 3) (nI (gf_pw 3))) (Int32.toNatClampNeg 4) (nI (gf_pw 4))) (Int32.toNatClampNeg 5) (nI (gf_pw 5))) (Int32.toNatClampNeg 6) (nI (gf_pw 6))) (Int32.toNatClampNeg 7) (nI (gf_pw 7))) (Int32.toNatClampNeg 8) (nI (gf_pw 8))) (Int32.toNatClampNeg 9) (nI (gf_pw 9))) (Int32.toNatClampNeg 10) (nI (gf_pw 10))) (Int32.toNatClampNeg 11) (nI (gf_pw 11))) (Int32.toNatClampNeg 12) (nI (gf_pw 12))) (Int32.toNatClampNeg 13) (nI (gf_pw 13))) (Int32.toNatClampNeg 14) (nI (gf_pw 14))))), (q4, .inl (ct 1, 324, .inl (fun _ => 0))), (q5, .inl (ct 1, 324, .inl (fun _ => 0))), (q6, .inl (ct 0, 15, .inl (fun _ => 0))), (q7, .inl (ct 0, 5, .inl (fun _ => 0))), (q8, .inl (ct 0, 44, .inl (fun _ => 0))), (q9, .inl (ct 0, 4, .inl (upd (upd (fun _ => 0) (Int32.toNatClampNeg 0) (-2)) (Int32.toNatClampNeg 1) (-2)))), (q10, .inl (ct 1, 6, .inl (fun _ => 0))), (q11, .inl (ct 0, 240, .inl (fun _ => 0))), (q12, .inl (ct 0, 80, .inl (fun _ => 0)))] := hD
  refine lv_iinc (k := 0) (v := 2) (lv' := [(2, .int 2), (1, .int (nI (gf_pw 15))), (0, .ref h0)]) hx hb dn_Model_147 hl rfl (by decide) (Nat.le_of_ble_eq_true rfl) rfl (fun ls hl => ?_)
  refine lv_goto (tgt := 134) hx hb dn_Model_150 (by decide) ?_
  refine W.eq (g2 := F0 m 134 ls []) rfl ?_
  refine lv_iload_n hx hb dn_Model_134 rfl (lv_at hl 0 rfl) ?_
  refine lv_iconst (v := 4) hx hb dn_Model_135 (by decide) ?_
  refine lv_icmp_ge (tgt := 153) hx hb dn_Model_136 (by decide) (fun h9 => absurd h9 (by decide)) (fun _ => ?_)
  refine lv_aload_n hx hb dn_Model_139 rfl (lv_at hl 2 rfl) ?_
  refine jn_get X hP 0 6 11 rfl rfl (by decide) (jn_m 83 rfl) rfl rfl dn_Model_140 ?_
  refine lv_iload_n hx hb dn_Model_143 rfl (lv_at hl 0 rfl) ?_
  refine lv_bipush (v := (-2)) hx hb dn_Model_144 (by decide) ?_
  refine va_iast hx hb hK hP hD hS 9 0 rfl rfl (by unfold vp_in; decide) dn_Model_146 (fun H locs hP hD hS => ?_)
  have hP : va_P D jx_cl [(h0, .inr (6, [.int 0, .int 0, .ref q1, .int 0, .ref q2, .ref q3, .ref q4, .ref q5, .ref q6, .ref q7, .ref q8, .ref q9, .int 0, .int 0, .int 0, .ref q10, .ref q11, .int 0, .ref q12])), (q1, .inl (ct 0, 80, .inl (fun _ => 0))), (q2, .inl (ct 1, 1944, .inl (fun _ => 0))), (q3, .inl (ct 0, 15, .inl (upd (upd (upd (upd (upd (upd (upd (upd (upd (upd (upd (upd (upd (upd (upd (fun _ => 0) (Int32.toNatClampNeg 0) (nI (gf_pw 0))) (Int32.toNatClampNeg 1) (nI (gf_pw 1))) (Int32.toNatClampNeg 2) (nI (gf_pw 2))) (Int32.toNatClampNeg 3) (nI (gf_pw 3))) (Int32.toNatClampNeg 4) (nI (gf_pw 4))) (Int32.toNatClampNeg 5) (nI (gf_pw 5))) (Int32.toNatClampNeg 6) (nI (gf_pw 6))) (Int32.toNatClampNeg 7) (nI (gf_pw 7))) (Int32.toNatClampNeg 8) (nI (gf_pw 8))) (Int32.toNatClampNeg 9) (nI (gf_pw 9))) (Int32.toNatClampNeg 10) (nI (gf_pw 10))) (Int32.toNatClampNeg 11) (nI (gf_pw 11))) (Int32.toNatClampNeg 12) (nI (gf_pw 12))) (Int32.toNatClampNeg 13) (nI (gf_pw 13))) (Int32.toNatClampNeg 14) (nI (gf_pw 14))))), (q4, .inl (ct 1, 324, .inl (fun _ => 0))), (q5, .inl (ct 1, 324, .inl (fun _ => 0))), (q6, .inl (ct 0, 15, .inl (fun _ => 0))), (q7, .inl (ct 0, 5, .inl (fun _ => 0))), (q8, .inl (ct 0, 44, .inl (fun _ => 0))), (q9, .inl (ct 0, 4, .inl (upd (upd (upd (fun _ => 0) (Int32.toNatClampNeg 0) (-2)) (Int32.toNatClampNeg 1) (-2)) (Int32.toNatClampNeg 2) (-2)))), (q10, .inl (ct 1, 6, .inl (fun _ => 0))), (q11, .inl (ct 0, 240, .inl (fun _ => 0))), (q12, .inl (ct 0, 80, .inl (fun _ => 0)))] H := hP
  have hD : va_D A [(h0, .inr (6, [.int 0, .int 0, .ref q1, .int 0, .ref q2, .ref q3, .ref q4, .ref q5, .ref q6, .ref q7, .ref q8, .ref q9, .int 0, .int 0, .int 0, .ref q10, .ref q11, .int 0, .ref q12])), (q1, .inl (ct 0, 80, .inl (fun _ => 0))), (q2, .inl (ct 1, 1944, .inl (fun _ => 0))), (q3, .inl (ct 0, 15, .inl (upd (upd (upd (upd (upd (upd (upd (upd (upd (upd (upd (upd (upd (upd (upd (fun _ => 0) (Int32.toNatClampNeg 0) (nI (gf_pw 0))) (Int32.toNatClampNeg 1) (nI (gf_pw 1))) (Int32.toNatClampNeg 2) (nI (gf_pw 2))) (Int32.toNatClampNeg 3) (nI (gf_pw 3))) (Int32.toNatClampNeg 4) (nI (gf_pw 4))) (Int32.toNatClampNeg 5) (nI (gf_pw 5))) (Int32.toNatClampNeg 6) (nI (gf_pw 6))) (Int32.toNatClampNeg 7) (nI (gf_pw 7))) (Int32.toNatClampNeg 8) (nI (gf_pw 8))) (Int32.toNatClampNeg 9) (nI (gf_pw 9))) (Int32.toNatClampNeg 10) (nI (gf_pw 10))) (Int32.toNatClampNeg 11) (nI (gf_pw 11))) (Int32.toNatClampNeg 12) (nI (gf_pw 12))) (Int32.toNatClampNeg 13) (nI (gf_pw 13))) (Int32.toNatClampNeg 14) (nI (gf_pw 14))))), (q4, .inl (ct 1, 324, .inl (fun _ => 0))), (q5, .inl (ct 1, 324, .inl (fun _ => 0))), (q6, .inl (ct 0, 15, .inl (fun _ => 0))), (q7, .inl (ct 0, 5, .inl (fun _ => 0))), (q8, .inl (ct 0, 44, .inl (fun _ => 0))), (q9, .inl (ct 0, 4, .inl (upd (upd (upd (fun _ => 0) (Int32.toNatClampNeg 0) (-2)) (Int32.toNatClampNeg 1) (-2)) (Int32.toNatClampNeg 2) (-2)))), (q10, .inl (ct 1, 6, .inl (fun _ => 0))), (q11, .inl (ct 0, 240, .inl (fun _ => 0))), (q12, .inl (ct 0, 80, .inl (fun _ => 0)))] := hD
  refine lv_iinc (k := 0) (v := 3) (lv' := [(2, .int 3), (1, .int (nI (gf_pw 15))), (0, .ref h0)]) hx hb dn_Model_147 hl rfl (by decide) (Nat.le_of_ble_eq_true rfl) rfl (fun ls hl => ?_)
  refine lv_goto (tgt := 134) hx hb dn_Model_150 (by decide) ?_
  refine W.eq (g2 := F0 m 134 ls []) rfl ?_
  refine lv_iload_n hx hb dn_Model_134 rfl (lv_at hl 0 rfl) ?_
  refine lv_iconst (v := 4) hx hb dn_Model_135 (by decide) ?_
  refine lv_icmp_ge (tgt := 153) hx hb dn_Model_136 (by decide) (fun h9 => absurd h9 (by decide)) (fun _ => ?_)
  refine lv_aload_n hx hb dn_Model_139 rfl (lv_at hl 2 rfl) ?_
  refine jn_get X hP 0 6 11 rfl rfl (by decide) (jn_m 83 rfl) rfl rfl dn_Model_140 ?_
  refine lv_iload_n hx hb dn_Model_143 rfl (lv_at hl 0 rfl) ?_
  refine lv_bipush (v := (-2)) hx hb dn_Model_144 (by decide) ?_
  refine va_iast hx hb hK hP hD hS 9 0 rfl rfl (by unfold vp_in; decide) dn_Model_146 (fun H locs hP hD hS => ?_)
  have hP : va_P D jx_cl [(h0, .inr (6, [.int 0, .int 0, .ref q1, .int 0, .ref q2, .ref q3, .ref q4, .ref q5, .ref q6, .ref q7, .ref q8, .ref q9, .int 0, .int 0, .int 0, .ref q10, .ref q11, .int 0, .ref q12])), (q1, .inl (ct 0, 80, .inl (fun _ => 0))), (q2, .inl (ct 1, 1944, .inl (fun _ => 0))), (q3, .inl (ct 0, 15, .inl (upd (upd (upd (upd (upd (upd (upd (upd (upd (upd (upd (upd (upd (upd (upd (fun _ => 0) (Int32.toNatClampNeg 0) (nI (gf_pw 0))) (Int32.toNatClampNeg 1) (nI (gf_pw 1))) (Int32.toNatClampNeg 2) (nI (gf_pw 2))) (Int32.toNatClampNeg 3) (nI (gf_pw 3))) (Int32.toNatClampNeg 4) (nI (gf_pw 4))) (Int32.toNatClampNeg 5) (nI (gf_pw 5))) (Int32.toNatClampNeg 6) (nI (gf_pw 6))) (Int32.toNatClampNeg 7) (nI (gf_pw 7))) (Int32.toNatClampNeg 8) (nI (gf_pw 8))) (Int32.toNatClampNeg 9) (nI (gf_pw 9))) (Int32.toNatClampNeg 10) (nI (gf_pw 10))) (Int32.toNatClampNeg 11) (nI (gf_pw 11))) (Int32.toNatClampNeg 12) (nI (gf_pw 12))) (Int32.toNatClampNeg 13) (nI (gf_pw 13))) (Int32.toNatClampNeg 14) (nI (gf_pw 14))))), (q4, .inl (ct 1, 324, .inl (fun _ => 0))), (q5, .inl (ct 1, 324, .inl (fun _ => 0))), (q6, .inl (ct 0, 15, .inl (fun _ => 0))), (q7, .inl (ct 0, 5, .inl (fun _ => 0))), (q8, .inl (ct 0, 44, .inl (fun _ => 0))), (q9, .inl (ct 0, 4, .inl (upd (upd (upd (upd (fun _ => 0) (Int32.toNatClampNeg 0) (-2)) (Int32.toNatClampNeg 1) (-2)) (Int32.toNatClampNeg 2) (-2)) (Int32.toNatClampNeg 3) (-2)))), (q10, .inl (ct 1, 6, .inl (fun _ => 0))), (q11, .inl (ct 0, 240, .inl (fun _ => 0))), (q12, .inl (ct 0, 80, .inl (fun _ => 0)))] H := hP
  have hD : va_D A [(h0, .inr (6, [.int 0, .int 0, .ref q1, .int 0, .ref q2, .ref q3, .ref q4, .ref q5, .ref q6, .ref q7, .ref q8, .ref q9, .int 0, .int 0, .int 0, .ref q10, .ref q11, .int 0, .ref q12])), (q1, .inl (ct 0, 80, .inl (fun _ => 0))), (q2, .inl (ct 1, 1944, .inl (fun _ => 0))), (q3, .inl (ct 0, 15, .inl (upd (upd (upd (upd (upd (upd (upd (upd (upd (upd (upd (upd (upd (upd (upd (fun _ => 0) (Int32.toNatClampNeg 0) (nI (gf_pw 0))) (Int32.toNatClampNeg 1) (nI (gf_pw 1))) (Int32.toNatClampNeg 2) (nI (gf_pw 2))) (Int32.toNatClampNeg 3) (nI (gf_pw 3))) (Int32.toNatClampNeg 4) (nI (gf_pw 4))) (Int32.toNatClampNeg 5) (nI (gf_pw 5))) (Int32.toNatClampNeg 6) (nI (gf_pw 6))) (Int32.toNatClampNeg 7) (nI (gf_pw 7))) (Int32.toNatClampNeg 8) (nI (gf_pw 8))) (Int32.toNatClampNeg 9) (nI (gf_pw 9))) (Int32.toNatClampNeg 10) (nI (gf_pw 10))) (Int32.toNatClampNeg 11) (nI (gf_pw 11))) (Int32.toNatClampNeg 12) (nI (gf_pw 12))) (Int32.toNatClampNeg 13) (nI (gf_pw 13))) (Int32.toNatClampNeg 14) (nI (gf_pw 14))))), (q4, .inl (ct 1, 324, .inl (fun _ => 0))), (q5, .inl (ct 1, 324, .inl (fun _ => 0))), (q6, .inl (ct 0, 15, .inl (fun _ => 0))), (q7, .inl (ct 0, 5, .inl (fun _ => 0))), (q8, .inl (ct 0, 44, .inl (fun _ => 0))), (q9, .inl (ct 0, 4, .inl (upd (upd (upd (upd (fun _ => 0) (Int32.toNatClampNeg 0) (-2)) (Int32.toNatClampNeg 1) (-2)) (Int32.toNatClampNeg 2) (-2)) (Int32.toNatClampNeg 3) (-2)))), (q10, .inl (ct 1, 6, .inl (fun _ => 0))), (q11, .inl (ct 0, 240, .inl (fun _ => 0))), (q12, .inl (ct 0, 80, .inl (fun _ => 0)))] := hD
  refine lv_iinc (k := 0) (v := 4) (lv' := [(2, .int 4), (1, .int (nI (gf_pw 15))), (0, .ref h0)]) hx hb dn_Model_147 hl rfl (by decide) (Nat.le_of_ble_eq_true rfl) rfl (fun ls hl => ?_)
  refine lv_goto (tgt := 134) hx hb dn_Model_150 (by decide) ?_
  refine W.eq (g2 := F0 m 134 ls []) rfl ?_
  refine lv_iload_n hx hb dn_Model_134 rfl (lv_at hl 0 rfl) ?_
  refine lv_iconst (v := 4) hx hb dn_Model_135 (by decide) ?_
  refine lv_icmp_ge (tgt := 153) hx hb dn_Model_136 (by decide) (fun _ => ?_) (fun h9 => absurd (by decide) h9)
  refine W.eq (g2 := F0 m 153 ls []) rfl ?_
  obtain ⟨hP, hD⟩ := jn_swap (g := fun j => nI (gf_pw j)) hP hD (k := 3) rfl (by decide +kernel)
  have hP : va_P D jx_cl [(h0, .inr (6, [.int 0, .int 0, .ref q1, .int 0, .ref q2, .ref q3, .ref q4, .ref q5, .ref q6, .ref q7, .ref q8, .ref q9, .int 0, .int 0, .int 0, .ref q10, .ref q11, .int 0, .ref q12])), (q1, .inl (ct 0, 80, .inl (fun _ => 0))), (q2, .inl (ct 1, 1944, .inl (fun _ => 0))), (q3, .inl (ct 0, 15, .inl (fun j => nI (gf_pw j)))), (q4, .inl (ct 1, 324, .inl (fun _ => 0))), (q5, .inl (ct 1, 324, .inl (fun _ => 0))), (q6, .inl (ct 0, 15, .inl (fun _ => 0))), (q7, .inl (ct 0, 5, .inl (fun _ => 0))), (q8, .inl (ct 0, 44, .inl (fun _ => 0))), (q9, .inl (ct 0, 4, .inl (upd (upd (upd (upd (fun _ => 0) (Int32.toNatClampNeg 0) (-2)) (Int32.toNatClampNeg 1) (-2)) (Int32.toNatClampNeg 2) (-2)) (Int32.toNatClampNeg 3) (-2)))), (q10, .inl (ct 1, 6, .inl (fun _ => 0))), (q11, .inl (ct 0, 240, .inl (fun _ => 0))), (q12, .inl (ct 0, 80, .inl (fun _ => 0)))] H := hP
  have hD : va_D A [(h0, .inr (6, [.int 0, .int 0, .ref q1, .int 0, .ref q2, .ref q3, .ref q4, .ref q5, .ref q6, .ref q7, .ref q8, .ref q9, .int 0, .int 0, .int 0, .ref q10, .ref q11, .int 0, .ref q12])), (q1, .inl (ct 0, 80, .inl (fun _ => 0))), (q2, .inl (ct 1, 1944, .inl (fun _ => 0))), (q3, .inl (ct 0, 15, .inl (fun j => nI (gf_pw j)))), (q4, .inl (ct 1, 324, .inl (fun _ => 0))), (q5, .inl (ct 1, 324, .inl (fun _ => 0))), (q6, .inl (ct 0, 15, .inl (fun _ => 0))), (q7, .inl (ct 0, 5, .inl (fun _ => 0))), (q8, .inl (ct 0, 44, .inl (fun _ => 0))), (q9, .inl (ct 0, 4, .inl (upd (upd (upd (upd (fun _ => 0) (Int32.toNatClampNeg 0) (-2)) (Int32.toNatClampNeg 1) (-2)) (Int32.toNatClampNeg 2) (-2)) (Int32.toNatClampNeg 3) (-2)))), (q10, .inl (ct 1, 6, .inl (fun _ => 0))), (q11, .inl (ct 0, 240, .inl (fun _ => 0))), (q12, .inl (ct 0, 80, .inl (fun _ => 0)))] := hD
  obtain ⟨hP, hD⟩ := jn_swap (g := fun _ => -nI 2) hP hD (k := 9) rfl (by decide +kernel)
  have hP : va_P D jx_cl [(h0, .inr (6, [.int 0, .int 0, .ref q1, .int 0, .ref q2, .ref q3, .ref q4, .ref q5, .ref q6, .ref q7, .ref q8, .ref q9, .int 0, .int 0, .int 0, .ref q10, .ref q11, .int 0, .ref q12])), (q1, .inl (ct 0, 80, .inl (fun _ => 0))), (q2, .inl (ct 1, 1944, .inl (fun _ => 0))), (q3, .inl (ct 0, 15, .inl (fun j => nI (gf_pw j)))), (q4, .inl (ct 1, 324, .inl (fun _ => 0))), (q5, .inl (ct 1, 324, .inl (fun _ => 0))), (q6, .inl (ct 0, 15, .inl (fun _ => 0))), (q7, .inl (ct 0, 5, .inl (fun _ => 0))), (q8, .inl (ct 0, 44, .inl (fun _ => 0))), (q9, .inl (ct 0, 4, .inl (fun _ => -nI 2))), (q10, .inl (ct 1, 6, .inl (fun _ => 0))), (q11, .inl (ct 0, 240, .inl (fun _ => 0))), (q12, .inl (ct 0, 80, .inl (fun _ => 0)))] H := hP
  have hD : va_D A [(h0, .inr (6, [.int 0, .int 0, .ref q1, .int 0, .ref q2, .ref q3, .ref q4, .ref q5, .ref q6, .ref q7, .ref q8, .ref q9, .int 0, .int 0, .int 0, .ref q10, .ref q11, .int 0, .ref q12])), (q1, .inl (ct 0, 80, .inl (fun _ => 0))), (q2, .inl (ct 1, 1944, .inl (fun _ => 0))), (q3, .inl (ct 0, 15, .inl (fun j => nI (gf_pw j)))), (q4, .inl (ct 1, 324, .inl (fun _ => 0))), (q5, .inl (ct 1, 324, .inl (fun _ => 0))), (q6, .inl (ct 0, 15, .inl (fun _ => 0))), (q7, .inl (ct 0, 5, .inl (fun _ => 0))), (q8, .inl (ct 0, 44, .inl (fun _ => 0))), (q9, .inl (ct 0, 4, .inl (fun _ => -nI 2))), (q10, .inl (ct 1, 6, .inl (fun _ => 0))), (q11, .inl (ct 0, 240, .inl (fun _ => 0))), (q12, .inl (ct 0, 80, .inl (fun _ => 0)))] := hD
  exact fin H locs _ ls _ ⟨fun k _ => match k with | 20 => h0 | 21 => q1 | 22 => q2 | 23 => q3 | 24 => q4 | 25 => q5 | 26 => q6 | 27 => q7 | 28 => q8 | 29 => q9 | 30 => q10 | 31 => q11 | 32 => q12 | _ => 0, rfl, rfl⟩ hP hD hS dn_Model_153
