/-! The constructors of Sheet, Row, Column, Scan, Reader, walked. Written by wip/whole/gen46.py. -/
theorem jn_df0 : ∀ j, j < 9 → defaultValue ((parseFieldDescriptor (jx_T0 j).2.2.1).getD .int) = vp_V [.null, .int 0, .null, .int 0, .null, .null, .null, .null, .null] j := by decide +kernel
theorem jn_df1 : ∀ j, j < 1 → defaultValue ((parseFieldDescriptor (jx_T1 j).2.2.1).getD .int) = vp_V [.null] j := by decide +kernel
theorem jn_df2 : ∀ j, j < 2 → defaultValue ((parseFieldDescriptor (jx_T2 j).2.2.1).getD .int) = vp_V [.null, .null] j := by decide +kernel
theorem jn_df3 : ∀ j, j < 1 → defaultValue ((parseFieldDescriptor (jx_T3 j).2.2.1).getD .int) = vp_V [.null] j := by decide +kernel
theorem jn_df4 : ∀ j, j < 3 → defaultValue ((parseFieldDescriptor (jx_T4 j).2.2.1).getD .int) = vp_V [.null, .null, .null] j := by decide +kernel
theorem jn_df5 : ∀ j, j < 8 → defaultValue ((parseFieldDescriptor (jx_T5 j).2.2.1).getD .int) = vp_V [.null, .null, .int 0, .int 0, .int 0, .null, .int 0, .null] j := by decide +kernel
theorem jn_df6 : ∀ j, j < 19 → defaultValue ((parseFieldDescriptor (jx_T6 j).2.2.1).getD .int) = vp_V [.int 0, .int 0, .null, .int 0, .null, .null, .null, .null, .null, .null, .null, .null, .int 0, .int 0, .int 0, .null, .null, .int 0, .null] j := by decide +kernel
def B_Column (D : va_G) (ct : Nat → ClassId) (h0 : Nat) (w : va_W) : Prop := ∃ (q1 : Nat), w = [(h0, .inr (3, [.ref q1])), (q1, .inl (ct 0, 6, .inl (fun _ => 0)))]
theorem dn_Column_0 : decode prog_2_method_1_code 0 = .ok (.aload_n 0, 1) := by decide +kernel
theorem dn_Column_1 : decode prog_2_method_1_code 1 = .ok (.invokespecial 3, 3) := by decide +kernel
theorem dn_Column_4 : decode prog_2_method_1_code 4 = .ok (.aload_n 0, 1) := by decide +kernel
theorem dn_Column_5 : decode prog_2_method_1_code 5 = .ok (.bipush 6, 2) := by decide +kernel
theorem dn_Column_7 : decode prog_2_method_1_code 7 = .ok (.newarray .int, 2) := by decide +kernel
theorem dn_Column_9 : decode prog_2_method_1_code 9 = .ok (.putfield 9, 3) := by decide +kernel
theorem dn_Column_12 : decode prog_2_method_1_code 12 = .ok (.return_, 1) := by decide +kernel
set_option maxHeartbeats 4000000 in
set_option maxRecDepth 100000 in
theorem c_Column (l : Launch) : jn_C l "DotVault$Column" prog_2_method_1_code 1 { frames := 1, cells := 1, slots := 6, locals := 12 } 3 [.null] B_Column := by
  refine jn_by (by decide) (by decide +kernel) (fun D ct h0 p e s m args below meth c A Q ls X hin hl hP hD hS fin => ?_)
  have hx := X.1
  have hb := X.2.1
  have hK := X.2.2.2.2.2.1
  refine lv_aload_n hx hb dn_Column_0 rfl (lv_at hl 0 rfl) ?_
  refine jn_obj X (jn_m 3 rfl) hl.1 dn_Column_1 ⟨(Nat.le_of_ble_eq_true rfl), (Nat.le_of_ble_eq_true rfl)⟩ ?_
  refine lv_aload_n hx hb dn_Column_4 rfl (lv_at hl 0 rfl) ?_
  refine lv_bipush (v := 6) hx hb dn_Column_5 (by decide) ?_
  refine jn_newa X hP hD hS (a0 := (6, .inl (fun _ => 0))) (X.2.2.2.2.1 _ (jn_m 9 rfl)) rfl 0 rfl (fun _ => rfl) (by decide) (by decide) (by decide) (Nat.le_of_ble_eq_true rfl) (Nat.le_of_ble_eq_true rfl) dn_Column_7 (fun q1 H hP hD hS => ?_)
  have hP : va_P D jx_cl [(h0, .inr (3, [.null])), (q1, .inl (ct 0, 6, .inl (fun _ => 0)))] H := hP
  have hD : va_D A [(h0, .inr (3, [.null])), (q1, .inl (ct 0, 6, .inl (fun _ => 0)))] := hD
  refine W.widen (k := 1) (n := 6) (Nat.le_of_ble_eq_true rfl) (Nat.le_of_ble_eq_true rfl) ?_
  refine jn_put X hin hP hD hS (ty := (.array .int)) (v := .ref q1) 0 3 0 rfl rfl (by decide) (jn_m 63 rfl) rfl (by decide +kernel) rfl rfl (Nat.le_of_ble_eq_true rfl) dn_Column_9 (fun H locs hP hD hS => ?_)
  have hP : va_P D jx_cl [(h0, .inr (3, [.ref q1])), (q1, .inl (ct 0, 6, .inl (fun _ => 0)))] H := hP
  have hD : va_D A [(h0, .inr (3, [.ref q1])), (q1, .inl (ct 0, 6, .inl (fun _ => 0)))] := hD
  exact fin H locs _ ls _ ⟨q1, rfl⟩ hP hD hS dn_Column_12
def B_Row (D : va_G) (ct : Nat → ClassId) (h0 : Nat) (w : va_W) : Prop := ∃ (q1 : Nat) (q2 : Nat), w = [(h0, .inr (2, [.ref q1, .ref q2])), (q1, .inl (ct 0, 15, .inl (fun _ => 0))), (q2, .inl (ct 0, 4, .inl (fun _ => 0)))]
theorem dn_Row_0 : decode prog_4_method_1_code 0 = .ok (.aload_n 0, 1) := by decide +kernel
theorem dn_Row_1 : decode prog_4_method_1_code 1 = .ok (.invokespecial 3, 3) := by decide +kernel
theorem dn_Row_4 : decode prog_4_method_1_code 4 = .ok (.aload_n 0, 1) := by decide +kernel
theorem dn_Row_5 : decode prog_4_method_1_code 5 = .ok (.bipush 15, 2) := by decide +kernel
theorem dn_Row_7 : decode prog_4_method_1_code 7 = .ok (.newarray .int, 2) := by decide +kernel
theorem dn_Row_9 : decode prog_4_method_1_code 9 = .ok (.putfield 9, 3) := by decide +kernel
theorem dn_Row_12 : decode prog_4_method_1_code 12 = .ok (.aload_n 0, 1) := by decide +kernel
theorem dn_Row_13 : decode prog_4_method_1_code 13 = .ok (.iconst 4, 1) := by decide +kernel
theorem dn_Row_14 : decode prog_4_method_1_code 14 = .ok (.newarray .int, 2) := by decide +kernel
theorem dn_Row_16 : decode prog_4_method_1_code 16 = .ok (.putfield 15, 3) := by decide +kernel
theorem dn_Row_19 : decode prog_4_method_1_code 19 = .ok (.return_, 1) := by decide +kernel
set_option maxHeartbeats 4000000 in
set_option maxRecDepth 100000 in
theorem c_Row (l : Launch) : jn_C l "DotVault$Row" prog_4_method_1_code 1 { frames := 1, cells := 2, slots := 19, locals := 12 } 2 [.null, .null] B_Row := by
  refine jn_by (by decide) (by decide +kernel) (fun D ct h0 p e s m args below meth c A Q ls X hin hl hP hD hS fin => ?_)
  have hx := X.1
  have hb := X.2.1
  have hK := X.2.2.2.2.2.1
  refine lv_aload_n hx hb dn_Row_0 rfl (lv_at hl 0 rfl) ?_
  refine jn_obj X (jn_m 2 rfl) hl.1 dn_Row_1 ⟨(Nat.le_of_ble_eq_true rfl), (Nat.le_of_ble_eq_true rfl)⟩ ?_
  refine lv_aload_n hx hb dn_Row_4 rfl (lv_at hl 0 rfl) ?_
  refine lv_bipush (v := 15) hx hb dn_Row_5 (by decide) ?_
  refine jn_newa X hP hD hS (a0 := (15, .inl (fun _ => 0))) (X.2.2.2.2.1 _ (jn_m 9 rfl)) rfl 0 rfl (fun _ => rfl) (by decide) (by decide) (by decide) (Nat.le_of_ble_eq_true rfl) (Nat.le_of_ble_eq_true rfl) dn_Row_7 (fun q1 H hP hD hS => ?_)
  have hP : va_P D jx_cl [(h0, .inr (2, [.null, .null])), (q1, .inl (ct 0, 15, .inl (fun _ => 0)))] H := hP
  have hD : va_D A [(h0, .inr (2, [.null, .null])), (q1, .inl (ct 0, 15, .inl (fun _ => 0)))] := hD
  refine W.widen (k := 1) (n := 15) (Nat.le_of_ble_eq_true rfl) (Nat.le_of_ble_eq_true rfl) ?_
  refine jn_put X hin hP hD hS (ty := (.array .int)) (v := .ref q1) 0 2 0 rfl rfl (by decide) (jn_m 61 rfl) rfl (by decide +kernel) rfl rfl (Nat.le_of_ble_eq_true rfl) dn_Row_9 (fun H locs hP hD hS => ?_)
  have hP : va_P D jx_cl [(h0, .inr (2, [.ref q1, .null])), (q1, .inl (ct 0, 15, .inl (fun _ => 0)))] H := hP
  have hD : va_D A [(h0, .inr (2, [.ref q1, .null])), (q1, .inl (ct 0, 15, .inl (fun _ => 0)))] := hD
  refine lv_aload_n hx hb dn_Row_12 rfl (lv_at hl 0 rfl) ?_
  refine lv_iconst (v := 4) hx hb dn_Row_13 (by decide) ?_
  refine jn_newa X hP hD hS (a0 := (4, .inl (fun _ => 0))) (X.2.2.2.2.1 _ (jn_m 9 rfl)) rfl 0 rfl (fun _ => rfl) (by decide) (by decide) (by decide) (Nat.le_of_ble_eq_true rfl) (Nat.le_of_ble_eq_true rfl) dn_Row_14 (fun q2 H hP hD hS => ?_)
  have hP : va_P D jx_cl [(h0, .inr (2, [.ref q1, .null])), (q1, .inl (ct 0, 15, .inl (fun _ => 0))), (q2, .inl (ct 0, 4, .inl (fun _ => 0)))] H := hP
  have hD : va_D A [(h0, .inr (2, [.ref q1, .null])), (q1, .inl (ct 0, 15, .inl (fun _ => 0))), (q2, .inl (ct 0, 4, .inl (fun _ => 0)))] := hD
  refine W.widen (k := 2) (n := 19) (Nat.le_of_ble_eq_true rfl) (Nat.le_of_ble_eq_true rfl) ?_
  refine jn_put X hin hP hD hS (ty := (.array .int)) (v := .ref q2) 0 2 1 rfl rfl (by decide) (jn_m 62 rfl) rfl (by decide +kernel) rfl rfl (Nat.le_of_ble_eq_true rfl) dn_Row_16 (fun H locs hP hD hS => ?_)
  have hP : va_P D jx_cl [(h0, .inr (2, [.ref q1, .ref q2])), (q1, .inl (ct 0, 15, .inl (fun _ => 0))), (q2, .inl (ct 0, 4, .inl (fun _ => 0)))] H := hP
  have hD : va_D A [(h0, .inr (2, [.ref q1, .ref q2])), (q1, .inl (ct 0, 15, .inl (fun _ => 0))), (q2, .inl (ct 0, 4, .inl (fun _ => 0)))] := hD
  exact fin H locs _ ls _ ⟨q1, q2, rfl⟩ hP hD hS dn_Row_19
def B_Sheet (D : va_G) (ct : Nat → ClassId) (h0 : Nat) (w : va_W) : Prop := ∃ (q1 : Nat), w = [(h0, .inr (1, [.ref q1])), (q1, .inl (ct 0, 18, .inl (fun _ => 0)))]
theorem dn_Sheet_0 : decode prog_6_method_1_code 0 = .ok (.aload_n 0, 1) := by decide +kernel
theorem dn_Sheet_1 : decode prog_6_method_1_code 1 = .ok (.invokespecial 3, 3) := by decide +kernel
theorem dn_Sheet_4 : decode prog_6_method_1_code 4 = .ok (.aload_n 0, 1) := by decide +kernel
theorem dn_Sheet_5 : decode prog_6_method_1_code 5 = .ok (.bipush 18, 2) := by decide +kernel
theorem dn_Sheet_7 : decode prog_6_method_1_code 7 = .ok (.newarray .int, 2) := by decide +kernel
theorem dn_Sheet_9 : decode prog_6_method_1_code 9 = .ok (.putfield 9, 3) := by decide +kernel
theorem dn_Sheet_12 : decode prog_6_method_1_code 12 = .ok (.return_, 1) := by decide +kernel
set_option maxHeartbeats 4000000 in
set_option maxRecDepth 100000 in
theorem c_Sheet (l : Launch) : jn_C l "DotVault$Sheet" prog_6_method_1_code 1 { frames := 1, cells := 1, slots := 18, locals := 12 } 1 [.null] B_Sheet := by
  refine jn_by (by decide) (by decide +kernel) (fun D ct h0 p e s m args below meth c A Q ls X hin hl hP hD hS fin => ?_)
  have hx := X.1
  have hb := X.2.1
  have hK := X.2.2.2.2.2.1
  refine lv_aload_n hx hb dn_Sheet_0 rfl (lv_at hl 0 rfl) ?_
  refine jn_obj X (jn_m 1 rfl) hl.1 dn_Sheet_1 ⟨(Nat.le_of_ble_eq_true rfl), (Nat.le_of_ble_eq_true rfl)⟩ ?_
  refine lv_aload_n hx hb dn_Sheet_4 rfl (lv_at hl 0 rfl) ?_
  refine lv_bipush (v := 18) hx hb dn_Sheet_5 (by decide) ?_
  refine jn_newa X hP hD hS (a0 := (18, .inl (fun _ => 0))) (X.2.2.2.2.1 _ (jn_m 9 rfl)) rfl 0 rfl (fun _ => rfl) (by decide) (by decide) (by decide) (Nat.le_of_ble_eq_true rfl) (Nat.le_of_ble_eq_true rfl) dn_Sheet_7 (fun q1 H hP hD hS => ?_)
  have hP : va_P D jx_cl [(h0, .inr (1, [.null])), (q1, .inl (ct 0, 18, .inl (fun _ => 0)))] H := hP
  have hD : va_D A [(h0, .inr (1, [.null])), (q1, .inl (ct 0, 18, .inl (fun _ => 0)))] := hD
  refine W.widen (k := 1) (n := 18) (Nat.le_of_ble_eq_true rfl) (Nat.le_of_ble_eq_true rfl) ?_
  refine jn_put X hin hP hD hS (ty := (.array .int)) (v := .ref q1) 0 1 0 rfl rfl (by decide) (jn_m 60 rfl) rfl (by decide +kernel) rfl rfl (Nat.le_of_ble_eq_true rfl) dn_Sheet_9 (fun H locs hP hD hS => ?_)
  have hP : va_P D jx_cl [(h0, .inr (1, [.ref q1])), (q1, .inl (ct 0, 18, .inl (fun _ => 0)))] H := hP
  have hD : va_D A [(h0, .inr (1, [.ref q1])), (q1, .inl (ct 0, 18, .inl (fun _ => 0)))] := hD
  exact fin H locs _ ls _ ⟨q1, rfl⟩ hP hD hS dn_Sheet_12
def B_Scan (D : va_G) (ct : Nat → ClassId) (h0 : Nat) (w : va_W) : Prop := ∃ (q1 : Nat) (q2 : Nat) (q3 : Nat) (q4 : Nat) (q5 : Nat), w = [(h0, .inr (4, [.ref q1, .ref q2, .ref q3])), (q1, .inl (ct 0, 44, .inl (fun _ => 0))), (q2, .inl (ct 0, 4, .inl (fun _ => -nI 2))), (q3, .inr (2, [.ref q4, .ref q5])), (q4, .inl (ct 0, 15, .inl (fun _ => 0))), (q5, .inl (ct 0, 4, .inl (fun _ => 0)))]
theorem dn_Scan_0 : decode prog_5_method_1_code 0 = .ok (.aload_n 0, 1) := by decide +kernel
theorem dn_Scan_1 : decode prog_5_method_1_code 1 = .ok (.invokespecial 3, 3) := by decide +kernel
theorem dn_Scan_4 : decode prog_5_method_1_code 4 = .ok (.aload_n 0, 1) := by decide +kernel
theorem dn_Scan_5 : decode prog_5_method_1_code 5 = .ok (.bipush 44, 2) := by decide +kernel
theorem dn_Scan_7 : decode prog_5_method_1_code 7 = .ok (.newarray .int, 2) := by decide +kernel
theorem dn_Scan_9 : decode prog_5_method_1_code 9 = .ok (.putfield 9, 3) := by decide +kernel
theorem dn_Scan_12 : decode prog_5_method_1_code 12 = .ok (.aload_n 0, 1) := by decide +kernel
theorem dn_Scan_13 : decode prog_5_method_1_code 13 = .ok (.iconst 4, 1) := by decide +kernel
theorem dn_Scan_14 : decode prog_5_method_1_code 14 = .ok (.newarray .int, 2) := by decide +kernel
theorem dn_Scan_16 : decode prog_5_method_1_code 16 = .ok (.dup, 1) := by decide +kernel
theorem dn_Scan_17 : decode prog_5_method_1_code 17 = .ok (.iconst 0, 1) := by decide +kernel
theorem dn_Scan_18 : decode prog_5_method_1_code 18 = .ok (.bipush (-2), 2) := by decide +kernel
theorem dn_Scan_20 : decode prog_5_method_1_code 20 = .ok (.iastore, 1) := by decide +kernel
theorem dn_Scan_21 : decode prog_5_method_1_code 21 = .ok (.dup, 1) := by decide +kernel
theorem dn_Scan_22 : decode prog_5_method_1_code 22 = .ok (.iconst 1, 1) := by decide +kernel
theorem dn_Scan_23 : decode prog_5_method_1_code 23 = .ok (.bipush (-2), 2) := by decide +kernel
theorem dn_Scan_25 : decode prog_5_method_1_code 25 = .ok (.iastore, 1) := by decide +kernel
theorem dn_Scan_26 : decode prog_5_method_1_code 26 = .ok (.dup, 1) := by decide +kernel
theorem dn_Scan_27 : decode prog_5_method_1_code 27 = .ok (.iconst 2, 1) := by decide +kernel
theorem dn_Scan_28 : decode prog_5_method_1_code 28 = .ok (.bipush (-2), 2) := by decide +kernel
theorem dn_Scan_30 : decode prog_5_method_1_code 30 = .ok (.iastore, 1) := by decide +kernel
theorem dn_Scan_31 : decode prog_5_method_1_code 31 = .ok (.dup, 1) := by decide +kernel
theorem dn_Scan_32 : decode prog_5_method_1_code 32 = .ok (.iconst 3, 1) := by decide +kernel
theorem dn_Scan_33 : decode prog_5_method_1_code 33 = .ok (.bipush (-2), 2) := by decide +kernel
theorem dn_Scan_35 : decode prog_5_method_1_code 35 = .ok (.iastore, 1) := by decide +kernel
theorem dn_Scan_36 : decode prog_5_method_1_code 36 = .ok (.putfield 15, 3) := by decide +kernel
theorem dn_Scan_39 : decode prog_5_method_1_code 39 = .ok (.aload_n 0, 1) := by decide +kernel
theorem dn_Scan_40 : decode prog_5_method_1_code 40 = .ok (.new 18, 3) := by decide +kernel
theorem dn_Scan_43 : decode prog_5_method_1_code 43 = .ok (.dup, 1) := by decide +kernel
theorem dn_Scan_44 : decode prog_5_method_1_code 44 = .ok (.invokespecial 20, 3) := by decide +kernel
theorem dn_Scan_47 : decode prog_5_method_1_code 47 = .ok (.putfield 21, 3) := by decide +kernel
theorem dn_Scan_50 : decode prog_5_method_1_code 50 = .ok (.return_, 1) := by decide +kernel
set_option maxHeartbeats 4000000 in
set_option maxRecDepth 100000 in
theorem c_Scan (l : Launch) : jn_C l "DotVault$Scan" prog_5_method_1_code 1 { frames := 2, cells := 5, slots := 69, locals := 32 } 4 [.null, .null, .null] B_Scan := by
  refine jn_by (by decide) (by decide +kernel) (fun D ct h0 p e s m args below meth c A Q ls X hin hl hP hD hS fin => ?_)
  have hx := X.1
  have hb := X.2.1
  have hK := X.2.2.2.2.2.1
  refine lv_aload_n hx hb dn_Scan_0 rfl (lv_at hl 0 rfl) ?_
  refine jn_obj X (jn_m 4 rfl) hl.1 dn_Scan_1 ⟨(Nat.le_of_ble_eq_true rfl), (Nat.le_of_ble_eq_true rfl)⟩ ?_
  refine lv_aload_n hx hb dn_Scan_4 rfl (lv_at hl 0 rfl) ?_
  refine lv_bipush (v := 44) hx hb dn_Scan_5 (by decide) ?_
  refine jn_newa X hP hD hS (a0 := (44, .inl (fun _ => 0))) (X.2.2.2.2.1 _ (jn_m 9 rfl)) rfl 0 rfl (fun _ => rfl) (by decide) (by decide) (by decide) (Nat.le_of_ble_eq_true rfl) (Nat.le_of_ble_eq_true rfl) dn_Scan_7 (fun q1 H hP hD hS => ?_)
  have hP : va_P D jx_cl [(h0, .inr (4, [.null, .null, .null])), (q1, .inl (ct 0, 44, .inl (fun _ => 0)))] H := hP
  have hD : va_D A [(h0, .inr (4, [.null, .null, .null])), (q1, .inl (ct 0, 44, .inl (fun _ => 0)))] := hD
  refine W.widen (k := 1) (n := 44) (Nat.le_of_ble_eq_true rfl) (Nat.le_of_ble_eq_true rfl) ?_
  refine jn_put X hin hP hD hS (ty := (.array .int)) (v := .ref q1) 0 4 0 rfl rfl (by decide) (jn_m 64 rfl) rfl (by decide +kernel) rfl rfl (Nat.le_of_ble_eq_true rfl) dn_Scan_9 (fun H locs hP hD hS => ?_)
  have hP : va_P D jx_cl [(h0, .inr (4, [.ref q1, .null, .null])), (q1, .inl (ct 0, 44, .inl (fun _ => 0)))] H := hP
  have hD : va_D A [(h0, .inr (4, [.ref q1, .null, .null])), (q1, .inl (ct 0, 44, .inl (fun _ => 0)))] := hD
  refine lv_aload_n hx hb dn_Scan_12 rfl (lv_at hl 0 rfl) ?_
  refine lv_iconst (v := 4) hx hb dn_Scan_13 (by decide) ?_
  refine jn_newa X hP hD hS (a0 := (4, .inl (fun _ => 0))) (X.2.2.2.2.1 _ (jn_m 9 rfl)) rfl 0 rfl (fun _ => rfl) (by decide) (by decide) (by decide) (Nat.le_of_ble_eq_true rfl) (Nat.le_of_ble_eq_true rfl) dn_Scan_14 (fun q2 H hP hD hS => ?_)
  have hP : va_P D jx_cl [(h0, .inr (4, [.ref q1, .null, .null])), (q1, .inl (ct 0, 44, .inl (fun _ => 0))), (q2, .inl (ct 0, 4, .inl (fun _ => 0)))] H := hP
  have hD : va_D A [(h0, .inr (4, [.ref q1, .null, .null])), (q1, .inl (ct 0, 44, .inl (fun _ => 0))), (q2, .inl (ct 0, 4, .inl (fun _ => 0)))] := hD
  refine W.widen (k := 2) (n := 48) (Nat.le_of_ble_eq_true rfl) (Nat.le_of_ble_eq_true rfl) ?_
  refine lv_dup hx hb dn_Scan_16 rfl ?_
  refine lv_iconst (v := 0) hx hb dn_Scan_17 (by decide) ?_
  refine lv_bipush (v := (-2)) hx hb dn_Scan_18 (by decide) ?_
  refine va_iast hx hb hK hP hD hS 2 0 rfl rfl (by unfold vp_in; decide) dn_Scan_20 (fun H locs hP hD hS => ?_)
  have hP : va_P D jx_cl [(h0, .inr (4, [.ref q1, .null, .null])), (q1, .inl (ct 0, 44, .inl (fun _ => 0))), (q2, .inl (ct 0, 4, .inl (upd (fun _ => 0) (Int32.toNatClampNeg 0) (-2))))] H := hP
  have hD : va_D A [(h0, .inr (4, [.ref q1, .null, .null])), (q1, .inl (ct 0, 44, .inl (fun _ => 0))), (q2, .inl (ct 0, 4, .inl (upd (fun _ => 0) (Int32.toNatClampNeg 0) (-2))))] := hD
  refine lv_dup hx hb dn_Scan_21 rfl ?_
  refine lv_iconst (v := 1) hx hb dn_Scan_22 (by decide) ?_
  refine lv_bipush (v := (-2)) hx hb dn_Scan_23 (by decide) ?_
  refine va_iast hx hb hK hP hD hS 2 0 rfl rfl (by unfold vp_in; decide) dn_Scan_25 (fun H locs hP hD hS => ?_)
  have hP : va_P D jx_cl [(h0, .inr (4, [.ref q1, .null, .null])), (q1, .inl (ct 0, 44, .inl (fun _ => 0))), (q2, .inl (ct 0, 4, .inl (upd (upd (fun _ => 0) (Int32.toNatClampNeg 0) (-2)) (Int32.toNatClampNeg 1) (-2))))] H := hP
  have hD : va_D A [(h0, .inr (4, [.ref q1, .null, .null])), (q1, .inl (ct 0, 44, .inl (fun _ => 0))), (q2, .inl (ct 0, 4, .inl (upd (upd (fun _ => 0) (Int32.toNatClampNeg 0) (-2)) (Int32.toNatClampNeg 1) (-2))))] := hD
  refine lv_dup hx hb dn_Scan_26 rfl ?_
  refine lv_iconst (v := 2) hx hb dn_Scan_27 (by decide) ?_
  refine lv_bipush (v := (-2)) hx hb dn_Scan_28 (by decide) ?_
  refine va_iast hx hb hK hP hD hS 2 0 rfl rfl (by unfold vp_in; decide) dn_Scan_30 (fun H locs hP hD hS => ?_)
  have hP : va_P D jx_cl [(h0, .inr (4, [.ref q1, .null, .null])), (q1, .inl (ct 0, 44, .inl (fun _ => 0))), (q2, .inl (ct 0, 4, .inl (upd (upd (upd (fun _ => 0) (Int32.toNatClampNeg 0) (-2)) (Int32.toNatClampNeg 1) (-2)) (Int32.toNatClampNeg 2) (-2))))] H := hP
  have hD : va_D A [(h0, .inr (4, [.ref q1, .null, .null])), (q1, .inl (ct 0, 44, .inl (fun _ => 0))), (q2, .inl (ct 0, 4, .inl (upd (upd (upd (fun _ => 0) (Int32.toNatClampNeg 0) (-2)) (Int32.toNatClampNeg 1) (-2)) (Int32.toNatClampNeg 2) (-2))))] := hD
  refine lv_dup hx hb dn_Scan_31 rfl ?_
  refine lv_iconst (v := 3) hx hb dn_Scan_32 (by decide) ?_
  refine lv_bipush (v := (-2)) hx hb dn_Scan_33 (by decide) ?_
  refine va_iast hx hb hK hP hD hS 2 0 rfl rfl (by unfold vp_in; decide) dn_Scan_35 (fun H locs hP hD hS => ?_)
  have hP : va_P D jx_cl [(h0, .inr (4, [.ref q1, .null, .null])), (q1, .inl (ct 0, 44, .inl (fun _ => 0))), (q2, .inl (ct 0, 4, .inl (upd (upd (upd (upd (fun _ => 0) (Int32.toNatClampNeg 0) (-2)) (Int32.toNatClampNeg 1) (-2)) (Int32.toNatClampNeg 2) (-2)) (Int32.toNatClampNeg 3) (-2))))] H := hP
  have hD : va_D A [(h0, .inr (4, [.ref q1, .null, .null])), (q1, .inl (ct 0, 44, .inl (fun _ => 0))), (q2, .inl (ct 0, 4, .inl (upd (upd (upd (upd (fun _ => 0) (Int32.toNatClampNeg 0) (-2)) (Int32.toNatClampNeg 1) (-2)) (Int32.toNatClampNeg 2) (-2)) (Int32.toNatClampNeg 3) (-2))))] := hD
  refine jn_put X hin hP hD hS (ty := (.array .int)) (v := .ref q2) 0 4 1 rfl rfl (by decide) (jn_m 65 rfl) rfl (by decide +kernel) rfl rfl (Nat.le_of_ble_eq_true rfl) dn_Scan_36 (fun H locs hP hD hS => ?_)
  have hP : va_P D jx_cl [(h0, .inr (4, [.ref q1, .ref q2, .null])), (q1, .inl (ct 0, 44, .inl (fun _ => 0))), (q2, .inl (ct 0, 4, .inl (upd (upd (upd (upd (fun _ => 0) (Int32.toNatClampNeg 0) (-2)) (Int32.toNatClampNeg 1) (-2)) (Int32.toNatClampNeg 2) (-2)) (Int32.toNatClampNeg 3) (-2))))] H := hP
  have hD : va_D A [(h0, .inr (4, [.ref q1, .ref q2, .null])), (q1, .inl (ct 0, 44, .inl (fun _ => 0))), (q2, .inl (ct 0, 4, .inl (upd (upd (upd (upd (fun _ => 0) (Int32.toNatClampNeg 0) (-2)) (Int32.toNatClampNeg 1) (-2)) (Int32.toNatClampNeg 2) (-2)) (Int32.toNatClampNeg 3) (-2))))] := hD
  refine lv_aload_n hx hb dn_Scan_39 rfl (lv_at hl 0 rfl) ?_
  refine jn_mk X (c_Row l) hP hD hS (ci := 2) rfl hl.1 ⟨(jn_m 30 rfl), (jn_m 20 rfl), (jn_m 13 rfl), (jn_m 34 rfl), (jn_m 39 rfl)⟩ (List.mem_of_getElem? (i := 5) rfl) ⟨by decide, by decide⟩ jn_df2 (Nat.le_of_ble_eq_true rfl) ⟨(Nat.le_of_ble_eq_true rfl), (Nat.le_of_ble_eq_true rfl)⟩ ⟨(Nat.le_of_ble_eq_true rfl), (Nat.le_of_ble_eq_true rfl)⟩ dn_Scan_40 dn_Scan_43 dn_Scan_44 (fun q3 w1 H locs hB hP hD hS => ?_)
  obtain ⟨q4, q5, rfl⟩ := hB
  have hP : va_P D jx_cl [(h0, .inr (4, [.ref q1, .ref q2, .null])), (q1, .inl (ct 0, 44, .inl (fun _ => 0))), (q2, .inl (ct 0, 4, .inl (upd (upd (upd (upd (fun _ => 0) (Int32.toNatClampNeg 0) (-2)) (Int32.toNatClampNeg 1) (-2)) (Int32.toNatClampNeg 2) (-2)) (Int32.toNatClampNeg 3) (-2)))), (q3, .inr (2, [.ref q4, .ref q5])), (q4, .inl (ct 0, 15, .inl (fun _ => 0))), (q5, .inl (ct 0, 4, .inl (fun _ => 0)))] H := hP
  have hD : va_D A [(h0, .inr (4, [.ref q1, .ref q2, .null])), (q1, .inl (ct 0, 44, .inl (fun _ => 0))), (q2, .inl (ct 0, 4, .inl (upd (upd (upd (upd (fun _ => 0) (Int32.toNatClampNeg 0) (-2)) (Int32.toNatClampNeg 1) (-2)) (Int32.toNatClampNeg 2) (-2)) (Int32.toNatClampNeg 3) (-2)))), (q3, .inr (2, [.ref q4, .ref q5])), (q4, .inl (ct 0, 15, .inl (fun _ => 0))), (q5, .inl (ct 0, 4, .inl (fun _ => 0)))] := hD
  refine W.widen (k := 5) (n := 69) (Nat.le_of_ble_eq_true rfl) (Nat.le_of_ble_eq_true rfl) ?_
  refine W.eq (g2 := F0 m 47 ls [.ref q3, .ref h0]) rfl ?_
  refine jn_put X hin hP hD hS (ty := (.object "DotVault$Row")) (v := .ref q3) 0 4 2 rfl rfl (by decide) (jn_m 66 rfl) rfl (by decide +kernel) rfl rfl (Nat.le_of_ble_eq_true rfl) dn_Scan_47 (fun H locs hP hD hS => ?_)
  have hP : va_P D jx_cl [(h0, .inr (4, [.ref q1, .ref q2, .ref q3])), (q1, .inl (ct 0, 44, .inl (fun _ => 0))), (q2, .inl (ct 0, 4, .inl (upd (upd (upd (upd (fun _ => 0) (Int32.toNatClampNeg 0) (-2)) (Int32.toNatClampNeg 1) (-2)) (Int32.toNatClampNeg 2) (-2)) (Int32.toNatClampNeg 3) (-2)))), (q3, .inr (2, [.ref q4, .ref q5])), (q4, .inl (ct 0, 15, .inl (fun _ => 0))), (q5, .inl (ct 0, 4, .inl (fun _ => 0)))] H := hP
  have hD : va_D A [(h0, .inr (4, [.ref q1, .ref q2, .ref q3])), (q1, .inl (ct 0, 44, .inl (fun _ => 0))), (q2, .inl (ct 0, 4, .inl (upd (upd (upd (upd (fun _ => 0) (Int32.toNatClampNeg 0) (-2)) (Int32.toNatClampNeg 1) (-2)) (Int32.toNatClampNeg 2) (-2)) (Int32.toNatClampNeg 3) (-2)))), (q3, .inr (2, [.ref q4, .ref q5])), (q4, .inl (ct 0, 15, .inl (fun _ => 0))), (q5, .inl (ct 0, 4, .inl (fun _ => 0)))] := hD
  obtain ⟨hP, hD⟩ := jn_swap (g := fun _ => -nI 2) hP hD (k := 2) rfl (by decide)
  exact fin H locs _ ls _ ⟨q1, q2, q3, q4, q5, rfl⟩ hP hD hS dn_Scan_50
def B_Reader (D : va_G) (ct : Nat → ClassId) (h0 : Nat) (w : va_W) : Prop := ∃ (q1 : Nat) (q2 : Nat → Nat) (q3 : Nat) (q4 : Nat) (q5 : Nat) (q6 : Nat), w = [(h0, .inr (5, [.ref q1, .ref q3, .int 0, .int 0, .int 0, .ref q4, .int 0, .ref q5])), (q1, .inl (ct 3, 6, .inr (.inr (.inr (.inr (fun i => some (q2 i))))))), (q2 0, .inl (ct 0, 40, .inl (fun _ => 0))), (q2 1, .inl (ct 0, 40, .inl (fun _ => 0))), (q2 2, .inl (ct 0, 40, .inl (fun _ => 0))), (q2 3, .inl (ct 0, 40, .inl (fun _ => 0))), (q2 4, .inl (ct 0, 40, .inl (fun _ => 0))), (q2 5, .inl (ct 0, 40, .inl (fun _ => 0))), (q3, .inl (ct 1, 6, .inl (fun _ => 0))), (q4, .inl (ct 0, 80, .inl (fun _ => 0))), (q5, .inr (3, [.ref q6])), (q6, .inl (ct 0, 6, .inl (fun _ => 0)))]
theorem dn_Reader_0 : decode prog_3_method_1_code 0 = .ok (.aload_n 0, 1) := by decide +kernel
theorem dn_Reader_1 : decode prog_3_method_1_code 1 = .ok (.invokespecial 3, 3) := by decide +kernel
theorem dn_Reader_4 : decode prog_3_method_1_code 4 = .ok (.aload_n 0, 1) := by decide +kernel
theorem dn_Reader_5 : decode prog_3_method_1_code 5 = .ok (.bipush 6, 2) := by decide +kernel
theorem dn_Reader_7 : decode prog_3_method_1_code 7 = .ok (.bipush 40, 2) := by decide +kernel
theorem dn_Reader_9 : decode prog_3_method_1_code 9 = .ok (.multianewarray 9 2, 4) := by decide +kernel
theorem dn_Reader_13 : decode prog_3_method_1_code 13 = .ok (.putfield 11, 3) := by decide +kernel
theorem dn_Reader_16 : decode prog_3_method_1_code 16 = .ok (.aload_n 0, 1) := by decide +kernel
theorem dn_Reader_17 : decode prog_3_method_1_code 17 = .ok (.bipush 6, 2) := by decide +kernel
theorem dn_Reader_19 : decode prog_3_method_1_code 19 = .ok (.newarray .boolean, 2) := by decide +kernel
theorem dn_Reader_21 : decode prog_3_method_1_code 21 = .ok (.putfield 16, 3) := by decide +kernel
theorem dn_Reader_24 : decode prog_3_method_1_code 24 = .ok (.aload_n 0, 1) := by decide +kernel
theorem dn_Reader_25 : decode prog_3_method_1_code 25 = .ok (.iconst 0, 1) := by decide +kernel
theorem dn_Reader_26 : decode prog_3_method_1_code 26 = .ok (.putfield 20, 3) := by decide +kernel
theorem dn_Reader_29 : decode prog_3_method_1_code 29 = .ok (.aload_n 0, 1) := by decide +kernel
theorem dn_Reader_30 : decode prog_3_method_1_code 30 = .ok (.iconst 0, 1) := by decide +kernel
theorem dn_Reader_31 : decode prog_3_method_1_code 31 = .ok (.putfield 24, 3) := by decide +kernel
theorem dn_Reader_34 : decode prog_3_method_1_code 34 = .ok (.aload_n 0, 1) := by decide +kernel
theorem dn_Reader_35 : decode prog_3_method_1_code 35 = .ok (.iconst 0, 1) := by decide +kernel
theorem dn_Reader_36 : decode prog_3_method_1_code 36 = .ok (.putfield 27, 3) := by decide +kernel
theorem dn_Reader_39 : decode prog_3_method_1_code 39 = .ok (.aload_n 0, 1) := by decide +kernel
theorem dn_Reader_40 : decode prog_3_method_1_code 40 = .ok (.bipush 80, 2) := by decide +kernel
theorem dn_Reader_42 : decode prog_3_method_1_code 42 = .ok (.newarray .int, 2) := by decide +kernel
theorem dn_Reader_44 : decode prog_3_method_1_code 44 = .ok (.putfield 30, 3) := by decide +kernel
theorem dn_Reader_47 : decode prog_3_method_1_code 47 = .ok (.aload_n 0, 1) := by decide +kernel
theorem dn_Reader_48 : decode prog_3_method_1_code 48 = .ok (.iconst 0, 1) := by decide +kernel
theorem dn_Reader_49 : decode prog_3_method_1_code 49 = .ok (.putfield 34, 3) := by decide +kernel
theorem dn_Reader_52 : decode prog_3_method_1_code 52 = .ok (.aload_n 0, 1) := by decide +kernel
theorem dn_Reader_53 : decode prog_3_method_1_code 53 = .ok (.new 37, 3) := by decide +kernel
theorem dn_Reader_56 : decode prog_3_method_1_code 56 = .ok (.dup, 1) := by decide +kernel
theorem dn_Reader_57 : decode prog_3_method_1_code 57 = .ok (.invokespecial 39, 3) := by decide +kernel
theorem dn_Reader_60 : decode prog_3_method_1_code 60 = .ok (.putfield 40, 3) := by decide +kernel
theorem dn_Reader_63 : decode prog_3_method_1_code 63 = .ok (.return_, 1) := by decide +kernel
set_option maxHeartbeats 4000000 in
set_option maxRecDepth 100000 in
theorem c_Reader (l : Launch) : jn_C l "DotVault$Reader" prog_3_method_1_code 1 { frames := 2, cells := 11, slots := 339, locals := 32 } 5 [.null, .null, .int 0, .int 0, .int 0, .null, .int 0, .null] B_Reader := by
  refine jn_by (by decide) (by decide +kernel) (fun D ct h0 p e s m args below meth c A Q ls X hin hl hP hD hS fin => ?_)
  have hx := X.1
  have hb := X.2.1
  have hK := X.2.2.2.2.2.1
  refine lv_aload_n hx hb dn_Reader_0 rfl (lv_at hl 0 rfl) ?_
  refine jn_obj X (jn_m 5 rfl) hl.1 dn_Reader_1 ⟨(Nat.le_of_ble_eq_true rfl), (Nat.le_of_ble_eq_true rfl)⟩ ?_
  refine lv_aload_n hx hb dn_Reader_4 rfl (lv_at hl 0 rfl) ?_
  refine lv_bipush (v := 6) hx hb dn_Reader_5 (by decide) ?_
  refine lv_bipush (v := 40) hx hb dn_Reader_7 (by decide) ?_
  refine jn_mna X hP hD hS (jn_m 32 rfl) (Nat.le_of_ble_eq_true rfl) (Nat.le_of_ble_eq_true rfl) dn_Reader_9 (fun q1 q2 H hP hD hS => ?_)
  have hP : va_P D jx_cl [(h0, .inr (5, [.null, .null, .int 0, .int 0, .int 0, .null, .int 0, .null])), (q1, .inl (ct 3, 6, .inr (.inr (.inr (.inr (fun i => some (q2 i))))))), (q2 0, .inl (ct 0, 40, .inl (fun _ => 0))), (q2 1, .inl (ct 0, 40, .inl (fun _ => 0))), (q2 2, .inl (ct 0, 40, .inl (fun _ => 0))), (q2 3, .inl (ct 0, 40, .inl (fun _ => 0))), (q2 4, .inl (ct 0, 40, .inl (fun _ => 0))), (q2 5, .inl (ct 0, 40, .inl (fun _ => 0)))] H := hP
  have hD : va_D A [(h0, .inr (5, [.null, .null, .int 0, .int 0, .int 0, .null, .int 0, .null])), (q1, .inl (ct 3, 6, .inr (.inr (.inr (.inr (fun i => some (q2 i))))))), (q2 0, .inl (ct 0, 40, .inl (fun _ => 0))), (q2 1, .inl (ct 0, 40, .inl (fun _ => 0))), (q2 2, .inl (ct 0, 40, .inl (fun _ => 0))), (q2 3, .inl (ct 0, 40, .inl (fun _ => 0))), (q2 4, .inl (ct 0, 40, .inl (fun _ => 0))), (q2 5, .inl (ct 0, 40, .inl (fun _ => 0)))] := hD
  refine W.widen (k := 7) (n := 246) (Nat.le_of_ble_eq_true rfl) (Nat.le_of_ble_eq_true rfl) ?_
  refine jn_put X hin hP hD hS (ty := (.array (.array .int))) (v := .ref q1) 0 5 0 rfl rfl (by decide) (jn_m 67 rfl) rfl (by decide +kernel) rfl rfl (Nat.le_of_ble_eq_true rfl) dn_Reader_13 (fun H locs hP hD hS => ?_)
  have hP : va_P D jx_cl [(h0, .inr (5, [.ref q1, .null, .int 0, .int 0, .int 0, .null, .int 0, .null])), (q1, .inl (ct 3, 6, .inr (.inr (.inr (.inr (fun i => some (q2 i))))))), (q2 0, .inl (ct 0, 40, .inl (fun _ => 0))), (q2 1, .inl (ct 0, 40, .inl (fun _ => 0))), (q2 2, .inl (ct 0, 40, .inl (fun _ => 0))), (q2 3, .inl (ct 0, 40, .inl (fun _ => 0))), (q2 4, .inl (ct 0, 40, .inl (fun _ => 0))), (q2 5, .inl (ct 0, 40, .inl (fun _ => 0)))] H := hP
  have hD : va_D A [(h0, .inr (5, [.ref q1, .null, .int 0, .int 0, .int 0, .null, .int 0, .null])), (q1, .inl (ct 3, 6, .inr (.inr (.inr (.inr (fun i => some (q2 i))))))), (q2 0, .inl (ct 0, 40, .inl (fun _ => 0))), (q2 1, .inl (ct 0, 40, .inl (fun _ => 0))), (q2 2, .inl (ct 0, 40, .inl (fun _ => 0))), (q2 3, .inl (ct 0, 40, .inl (fun _ => 0))), (q2 4, .inl (ct 0, 40, .inl (fun _ => 0))), (q2 5, .inl (ct 0, 40, .inl (fun _ => 0)))] := hD
  refine lv_aload_n hx hb dn_Reader_16 rfl (lv_at hl 0 rfl) ?_
  refine lv_bipush (v := 6) hx hb dn_Reader_17 (by decide) ?_
  refine jn_newa X hP hD hS (a0 := (6, .inl (fun _ => 0))) (X.2.2.2.2.1 _ (jn_m 10 rfl)) rfl 1 rfl (fun _ => rfl) (by decide) (by decide) (by decide) (Nat.le_of_ble_eq_true rfl) (Nat.le_of_ble_eq_true rfl) dn_Reader_19 (fun q3 H hP hD hS => ?_)
  have hP : va_P D jx_cl [(h0, .inr (5, [.ref q1, .null, .int 0, .int 0, .int 0, .null, .int 0, .null])), (q1, .inl (ct 3, 6, .inr (.inr (.inr (.inr (fun i => some (q2 i))))))), (q2 0, .inl (ct 0, 40, .inl (fun _ => 0))), (q2 1, .inl (ct 0, 40, .inl (fun _ => 0))), (q2 2, .inl (ct 0, 40, .inl (fun _ => 0))), (q2 3, .inl (ct 0, 40, .inl (fun _ => 0))), (q2 4, .inl (ct 0, 40, .inl (fun _ => 0))), (q2 5, .inl (ct 0, 40, .inl (fun _ => 0))), (q3, .inl (ct 1, 6, .inl (fun _ => 0)))] H := hP
  have hD : va_D A [(h0, .inr (5, [.ref q1, .null, .int 0, .int 0, .int 0, .null, .int 0, .null])), (q1, .inl (ct 3, 6, .inr (.inr (.inr (.inr (fun i => some (q2 i))))))), (q2 0, .inl (ct 0, 40, .inl (fun _ => 0))), (q2 1, .inl (ct 0, 40, .inl (fun _ => 0))), (q2 2, .inl (ct 0, 40, .inl (fun _ => 0))), (q2 3, .inl (ct 0, 40, .inl (fun _ => 0))), (q2 4, .inl (ct 0, 40, .inl (fun _ => 0))), (q2 5, .inl (ct 0, 40, .inl (fun _ => 0))), (q3, .inl (ct 1, 6, .inl (fun _ => 0)))] := hD
  refine W.widen (k := 8) (n := 252) (Nat.le_of_ble_eq_true rfl) (Nat.le_of_ble_eq_true rfl) ?_
  refine jn_put X hin hP hD hS (ty := (.array .boolean)) (v := .ref q3) 0 5 1 rfl rfl (by decide) (jn_m 68 rfl) rfl (by decide +kernel) rfl rfl (Nat.le_of_ble_eq_true rfl) dn_Reader_21 (fun H locs hP hD hS => ?_)
  have hP : va_P D jx_cl [(h0, .inr (5, [.ref q1, .ref q3, .int 0, .int 0, .int 0, .null, .int 0, .null])), (q1, .inl (ct 3, 6, .inr (.inr (.inr (.inr (fun i => some (q2 i))))))), (q2 0, .inl (ct 0, 40, .inl (fun _ => 0))), (q2 1, .inl (ct 0, 40, .inl (fun _ => 0))), (q2 2, .inl (ct 0, 40, .inl (fun _ => 0))), (q2 3, .inl (ct 0, 40, .inl (fun _ => 0))), (q2 4, .inl (ct 0, 40, .inl (fun _ => 0))), (q2 5, .inl (ct 0, 40, .inl (fun _ => 0))), (q3, .inl (ct 1, 6, .inl (fun _ => 0)))] H := hP
  have hD : va_D A [(h0, .inr (5, [.ref q1, .ref q3, .int 0, .int 0, .int 0, .null, .int 0, .null])), (q1, .inl (ct 3, 6, .inr (.inr (.inr (.inr (fun i => some (q2 i))))))), (q2 0, .inl (ct 0, 40, .inl (fun _ => 0))), (q2 1, .inl (ct 0, 40, .inl (fun _ => 0))), (q2 2, .inl (ct 0, 40, .inl (fun _ => 0))), (q2 3, .inl (ct 0, 40, .inl (fun _ => 0))), (q2 4, .inl (ct 0, 40, .inl (fun _ => 0))), (q2 5, .inl (ct 0, 40, .inl (fun _ => 0))), (q3, .inl (ct 1, 6, .inl (fun _ => 0)))] := hD
  refine lv_aload_n hx hb dn_Reader_24 rfl (lv_at hl 0 rfl) ?_
  refine lv_iconst (v := 0) hx hb dn_Reader_25 (by decide) ?_
  refine jn_put X hin hP hD hS (ty := .int) (v := .int 0) 0 5 2 rfl rfl (by decide) (jn_m 69 rfl) rfl (by decide +kernel) rfl rfl (Nat.le_of_ble_eq_true rfl) dn_Reader_26 (fun H locs hP hD hS => ?_)
  have hP : va_P D jx_cl [(h0, .inr (5, [.ref q1, .ref q3, .int 0, .int 0, .int 0, .null, .int 0, .null])), (q1, .inl (ct 3, 6, .inr (.inr (.inr (.inr (fun i => some (q2 i))))))), (q2 0, .inl (ct 0, 40, .inl (fun _ => 0))), (q2 1, .inl (ct 0, 40, .inl (fun _ => 0))), (q2 2, .inl (ct 0, 40, .inl (fun _ => 0))), (q2 3, .inl (ct 0, 40, .inl (fun _ => 0))), (q2 4, .inl (ct 0, 40, .inl (fun _ => 0))), (q2 5, .inl (ct 0, 40, .inl (fun _ => 0))), (q3, .inl (ct 1, 6, .inl (fun _ => 0)))] H := hP
  have hD : va_D A [(h0, .inr (5, [.ref q1, .ref q3, .int 0, .int 0, .int 0, .null, .int 0, .null])), (q1, .inl (ct 3, 6, .inr (.inr (.inr (.inr (fun i => some (q2 i))))))), (q2 0, .inl (ct 0, 40, .inl (fun _ => 0))), (q2 1, .inl (ct 0, 40, .inl (fun _ => 0))), (q2 2, .inl (ct 0, 40, .inl (fun _ => 0))), (q2 3, .inl (ct 0, 40, .inl (fun _ => 0))), (q2 4, .inl (ct 0, 40, .inl (fun _ => 0))), (q2 5, .inl (ct 0, 40, .inl (fun _ => 0))), (q3, .inl (ct 1, 6, .inl (fun _ => 0)))] := hD
  refine lv_aload_n hx hb dn_Reader_29 rfl (lv_at hl 0 rfl) ?_
  refine lv_iconst (v := 0) hx hb dn_Reader_30 (by decide) ?_
  refine jn_put X hin hP hD hS (ty := .int) (v := .int 0) 0 5 3 rfl rfl (by decide) (jn_m 70 rfl) rfl (by decide +kernel) rfl rfl (Nat.le_of_ble_eq_true rfl) dn_Reader_31 (fun H locs hP hD hS => ?_)
  have hP : va_P D jx_cl [(h0, .inr (5, [.ref q1, .ref q3, .int 0, .int 0, .int 0, .null, .int 0, .null])), (q1, .inl (ct 3, 6, .inr (.inr (.inr (.inr (fun i => some (q2 i))))))), (q2 0, .inl (ct 0, 40, .inl (fun _ => 0))), (q2 1, .inl (ct 0, 40, .inl (fun _ => 0))), (q2 2, .inl (ct 0, 40, .inl (fun _ => 0))), (q2 3, .inl (ct 0, 40, .inl (fun _ => 0))), (q2 4, .inl (ct 0, 40, .inl (fun _ => 0))), (q2 5, .inl (ct 0, 40, .inl (fun _ => 0))), (q3, .inl (ct 1, 6, .inl (fun _ => 0)))] H := hP
  have hD : va_D A [(h0, .inr (5, [.ref q1, .ref q3, .int 0, .int 0, .int 0, .null, .int 0, .null])), (q1, .inl (ct 3, 6, .inr (.inr (.inr (.inr (fun i => some (q2 i))))))), (q2 0, .inl (ct 0, 40, .inl (fun _ => 0))), (q2 1, .inl (ct 0, 40, .inl (fun _ => 0))), (q2 2, .inl (ct 0, 40, .inl (fun _ => 0))), (q2 3, .inl (ct 0, 40, .inl (fun _ => 0))), (q2 4, .inl (ct 0, 40, .inl (fun _ => 0))), (q2 5, .inl (ct 0, 40, .inl (fun _ => 0))), (q3, .inl (ct 1, 6, .inl (fun _ => 0)))] := hD
  refine lv_aload_n hx hb dn_Reader_34 rfl (lv_at hl 0 rfl) ?_
  refine lv_iconst (v := 0) hx hb dn_Reader_35 (by decide) ?_
  refine jn_put X hin hP hD hS (ty := .int) (v := .int 0) 0 5 4 rfl rfl (by decide) (jn_m 71 rfl) rfl (by decide +kernel) rfl rfl (Nat.le_of_ble_eq_true rfl) dn_Reader_36 (fun H locs hP hD hS => ?_)
  have hP : va_P D jx_cl [(h0, .inr (5, [.ref q1, .ref q3, .int 0, .int 0, .int 0, .null, .int 0, .null])), (q1, .inl (ct 3, 6, .inr (.inr (.inr (.inr (fun i => some (q2 i))))))), (q2 0, .inl (ct 0, 40, .inl (fun _ => 0))), (q2 1, .inl (ct 0, 40, .inl (fun _ => 0))), (q2 2, .inl (ct 0, 40, .inl (fun _ => 0))), (q2 3, .inl (ct 0, 40, .inl (fun _ => 0))), (q2 4, .inl (ct 0, 40, .inl (fun _ => 0))), (q2 5, .inl (ct 0, 40, .inl (fun _ => 0))), (q3, .inl (ct 1, 6, .inl (fun _ => 0)))] H := hP
  have hD : va_D A [(h0, .inr (5, [.ref q1, .ref q3, .int 0, .int 0, .int 0, .null, .int 0, .null])), (q1, .inl (ct 3, 6, .inr (.inr (.inr (.inr (fun i => some (q2 i))))))), (q2 0, .inl (ct 0, 40, .inl (fun _ => 0))), (q2 1, .inl (ct 0, 40, .inl (fun _ => 0))), (q2 2, .inl (ct 0, 40, .inl (fun _ => 0))), (q2 3, .inl (ct 0, 40, .inl (fun _ => 0))), (q2 4, .inl (ct 0, 40, .inl (fun _ => 0))), (q2 5, .inl (ct 0, 40, .inl (fun _ => 0))), (q3, .inl (ct 1, 6, .inl (fun _ => 0)))] := hD
  refine lv_aload_n hx hb dn_Reader_39 rfl (lv_at hl 0 rfl) ?_
  refine lv_bipush (v := 80) hx hb dn_Reader_40 (by decide) ?_
  refine jn_newa X hP hD hS (a0 := (80, .inl (fun _ => 0))) (X.2.2.2.2.1 _ (jn_m 9 rfl)) rfl 0 rfl (fun _ => rfl) (by decide) (by decide) (by decide) (Nat.le_of_ble_eq_true rfl) (Nat.le_of_ble_eq_true rfl) dn_Reader_42 (fun q4 H hP hD hS => ?_)
  have hP : va_P D jx_cl [(h0, .inr (5, [.ref q1, .ref q3, .int 0, .int 0, .int 0, .null, .int 0, .null])), (q1, .inl (ct 3, 6, .inr (.inr (.inr (.inr (fun i => some (q2 i))))))), (q2 0, .inl (ct 0, 40, .inl (fun _ => 0))), (q2 1, .inl (ct 0, 40, .inl (fun _ => 0))), (q2 2, .inl (ct 0, 40, .inl (fun _ => 0))), (q2 3, .inl (ct 0, 40, .inl (fun _ => 0))), (q2 4, .inl (ct 0, 40, .inl (fun _ => 0))), (q2 5, .inl (ct 0, 40, .inl (fun _ => 0))), (q3, .inl (ct 1, 6, .inl (fun _ => 0))), (q4, .inl (ct 0, 80, .inl (fun _ => 0)))] H := hP
  have hD : va_D A [(h0, .inr (5, [.ref q1, .ref q3, .int 0, .int 0, .int 0, .null, .int 0, .null])), (q1, .inl (ct 3, 6, .inr (.inr (.inr (.inr (fun i => some (q2 i))))))), (q2 0, .inl (ct 0, 40, .inl (fun _ => 0))), (q2 1, .inl (ct 0, 40, .inl (fun _ => 0))), (q2 2, .inl (ct 0, 40, .inl (fun _ => 0))), (q2 3, .inl (ct 0, 40, .inl (fun _ => 0))), (q2 4, .inl (ct 0, 40, .inl (fun _ => 0))), (q2 5, .inl (ct 0, 40, .inl (fun _ => 0))), (q3, .inl (ct 1, 6, .inl (fun _ => 0))), (q4, .inl (ct 0, 80, .inl (fun _ => 0)))] := hD
  refine W.widen (k := 9) (n := 332) (Nat.le_of_ble_eq_true rfl) (Nat.le_of_ble_eq_true rfl) ?_
  refine jn_put X hin hP hD hS (ty := (.array .int)) (v := .ref q4) 0 5 5 rfl rfl (by decide) (jn_m 72 rfl) rfl (by decide +kernel) rfl rfl (Nat.le_of_ble_eq_true rfl) dn_Reader_44 (fun H locs hP hD hS => ?_)
  have hP : va_P D jx_cl [(h0, .inr (5, [.ref q1, .ref q3, .int 0, .int 0, .int 0, .ref q4, .int 0, .null])), (q1, .inl (ct 3, 6, .inr (.inr (.inr (.inr (fun i => some (q2 i))))))), (q2 0, .inl (ct 0, 40, .inl (fun _ => 0))), (q2 1, .inl (ct 0, 40, .inl (fun _ => 0))), (q2 2, .inl (ct 0, 40, .inl (fun _ => 0))), (q2 3, .inl (ct 0, 40, .inl (fun _ => 0))), (q2 4, .inl (ct 0, 40, .inl (fun _ => 0))), (q2 5, .inl (ct 0, 40, .inl (fun _ => 0))), (q3, .inl (ct 1, 6, .inl (fun _ => 0))), (q4, .inl (ct 0, 80, .inl (fun _ => 0)))] H := hP
  have hD : va_D A [(h0, .inr (5, [.ref q1, .ref q3, .int 0, .int 0, .int 0, .ref q4, .int 0, .null])), (q1, .inl (ct 3, 6, .inr (.inr (.inr (.inr (fun i => some (q2 i))))))), (q2 0, .inl (ct 0, 40, .inl (fun _ => 0))), (q2 1, .inl (ct 0, 40, .inl (fun _ => 0))), (q2 2, .inl (ct 0, 40, .inl (fun _ => 0))), (q2 3, .inl (ct 0, 40, .inl (fun _ => 0))), (q2 4, .inl (ct 0, 40, .inl (fun _ => 0))), (q2 5, .inl (ct 0, 40, .inl (fun _ => 0))), (q3, .inl (ct 1, 6, .inl (fun _ => 0))), (q4, .inl (ct 0, 80, .inl (fun _ => 0)))] := hD
  refine lv_aload_n hx hb dn_Reader_47 rfl (lv_at hl 0 rfl) ?_
  refine lv_iconst (v := 0) hx hb dn_Reader_48 (by decide) ?_
  refine jn_put X hin hP hD hS (ty := .int) (v := .int 0) 0 5 6 rfl rfl (by decide) (jn_m 73 rfl) rfl (by decide +kernel) rfl rfl (Nat.le_of_ble_eq_true rfl) dn_Reader_49 (fun H locs hP hD hS => ?_)
  have hP : va_P D jx_cl [(h0, .inr (5, [.ref q1, .ref q3, .int 0, .int 0, .int 0, .ref q4, .int 0, .null])), (q1, .inl (ct 3, 6, .inr (.inr (.inr (.inr (fun i => some (q2 i))))))), (q2 0, .inl (ct 0, 40, .inl (fun _ => 0))), (q2 1, .inl (ct 0, 40, .inl (fun _ => 0))), (q2 2, .inl (ct 0, 40, .inl (fun _ => 0))), (q2 3, .inl (ct 0, 40, .inl (fun _ => 0))), (q2 4, .inl (ct 0, 40, .inl (fun _ => 0))), (q2 5, .inl (ct 0, 40, .inl (fun _ => 0))), (q3, .inl (ct 1, 6, .inl (fun _ => 0))), (q4, .inl (ct 0, 80, .inl (fun _ => 0)))] H := hP
  have hD : va_D A [(h0, .inr (5, [.ref q1, .ref q3, .int 0, .int 0, .int 0, .ref q4, .int 0, .null])), (q1, .inl (ct 3, 6, .inr (.inr (.inr (.inr (fun i => some (q2 i))))))), (q2 0, .inl (ct 0, 40, .inl (fun _ => 0))), (q2 1, .inl (ct 0, 40, .inl (fun _ => 0))), (q2 2, .inl (ct 0, 40, .inl (fun _ => 0))), (q2 3, .inl (ct 0, 40, .inl (fun _ => 0))), (q2 4, .inl (ct 0, 40, .inl (fun _ => 0))), (q2 5, .inl (ct 0, 40, .inl (fun _ => 0))), (q3, .inl (ct 1, 6, .inl (fun _ => 0))), (q4, .inl (ct 0, 80, .inl (fun _ => 0)))] := hD
  refine lv_aload_n hx hb dn_Reader_52 rfl (lv_at hl 0 rfl) ?_
  refine jn_mk X (c_Column l) hP hD hS (ci := 3) rfl hl.1 ⟨(jn_m 31 rfl), (jn_m 21 rfl), (jn_m 14 rfl), (jn_m 35 rfl), (jn_m 40 rfl)⟩ (List.mem_of_getElem? (i := 6) rfl) ⟨by decide, by decide⟩ jn_df3 (Nat.le_of_ble_eq_true rfl) ⟨(Nat.le_of_ble_eq_true rfl), (Nat.le_of_ble_eq_true rfl)⟩ ⟨(Nat.le_of_ble_eq_true rfl), (Nat.le_of_ble_eq_true rfl)⟩ dn_Reader_53 dn_Reader_56 dn_Reader_57 (fun q5 w1 H locs hB hP hD hS => ?_)
  obtain ⟨q6, rfl⟩ := hB
  have hP : va_P D jx_cl [(h0, .inr (5, [.ref q1, .ref q3, .int 0, .int 0, .int 0, .ref q4, .int 0, .null])), (q1, .inl (ct 3, 6, .inr (.inr (.inr (.inr (fun i => some (q2 i))))))), (q2 0, .inl (ct 0, 40, .inl (fun _ => 0))), (q2 1, .inl (ct 0, 40, .inl (fun _ => 0))), (q2 2, .inl (ct 0, 40, .inl (fun _ => 0))), (q2 3, .inl (ct 0, 40, .inl (fun _ => 0))), (q2 4, .inl (ct 0, 40, .inl (fun _ => 0))), (q2 5, .inl (ct 0, 40, .inl (fun _ => 0))), (q3, .inl (ct 1, 6, .inl (fun _ => 0))), (q4, .inl (ct 0, 80, .inl (fun _ => 0))), (q5, .inr (3, [.ref q6])), (q6, .inl (ct 0, 6, .inl (fun _ => 0)))] H := hP
  have hD : va_D A [(h0, .inr (5, [.ref q1, .ref q3, .int 0, .int 0, .int 0, .ref q4, .int 0, .null])), (q1, .inl (ct 3, 6, .inr (.inr (.inr (.inr (fun i => some (q2 i))))))), (q2 0, .inl (ct 0, 40, .inl (fun _ => 0))), (q2 1, .inl (ct 0, 40, .inl (fun _ => 0))), (q2 2, .inl (ct 0, 40, .inl (fun _ => 0))), (q2 3, .inl (ct 0, 40, .inl (fun _ => 0))), (q2 4, .inl (ct 0, 40, .inl (fun _ => 0))), (q2 5, .inl (ct 0, 40, .inl (fun _ => 0))), (q3, .inl (ct 1, 6, .inl (fun _ => 0))), (q4, .inl (ct 0, 80, .inl (fun _ => 0))), (q5, .inr (3, [.ref q6])), (q6, .inl (ct 0, 6, .inl (fun _ => 0)))] := hD
  refine W.widen (k := 11) (n := 339) (Nat.le_of_ble_eq_true rfl) (Nat.le_of_ble_eq_true rfl) ?_
  refine W.eq (g2 := F0 m 60 ls [.ref q5, .ref h0]) rfl ?_
  refine jn_put X hin hP hD hS (ty := (.object "DotVault$Column")) (v := .ref q5) 0 5 7 rfl rfl (by decide) (jn_m 74 rfl) rfl (by decide +kernel) rfl rfl (Nat.le_of_ble_eq_true rfl) dn_Reader_60 (fun H locs hP hD hS => ?_)
  have hP : va_P D jx_cl [(h0, .inr (5, [.ref q1, .ref q3, .int 0, .int 0, .int 0, .ref q4, .int 0, .ref q5])), (q1, .inl (ct 3, 6, .inr (.inr (.inr (.inr (fun i => some (q2 i))))))), (q2 0, .inl (ct 0, 40, .inl (fun _ => 0))), (q2 1, .inl (ct 0, 40, .inl (fun _ => 0))), (q2 2, .inl (ct 0, 40, .inl (fun _ => 0))), (q2 3, .inl (ct 0, 40, .inl (fun _ => 0))), (q2 4, .inl (ct 0, 40, .inl (fun _ => 0))), (q2 5, .inl (ct 0, 40, .inl (fun _ => 0))), (q3, .inl (ct 1, 6, .inl (fun _ => 0))), (q4, .inl (ct 0, 80, .inl (fun _ => 0))), (q5, .inr (3, [.ref q6])), (q6, .inl (ct 0, 6, .inl (fun _ => 0)))] H := hP
  have hD : va_D A [(h0, .inr (5, [.ref q1, .ref q3, .int 0, .int 0, .int 0, .ref q4, .int 0, .ref q5])), (q1, .inl (ct 3, 6, .inr (.inr (.inr (.inr (fun i => some (q2 i))))))), (q2 0, .inl (ct 0, 40, .inl (fun _ => 0))), (q2 1, .inl (ct 0, 40, .inl (fun _ => 0))), (q2 2, .inl (ct 0, 40, .inl (fun _ => 0))), (q2 3, .inl (ct 0, 40, .inl (fun _ => 0))), (q2 4, .inl (ct 0, 40, .inl (fun _ => 0))), (q2 5, .inl (ct 0, 40, .inl (fun _ => 0))), (q3, .inl (ct 1, 6, .inl (fun _ => 0))), (q4, .inl (ct 0, 80, .inl (fun _ => 0))), (q5, .inr (3, [.ref q6])), (q6, .inl (ct 0, 6, .inl (fun _ => 0)))] := hD
  exact fin H locs _ ls _ ⟨q1, q2, q3, q4, q5, q6, rfl⟩ hP hD hS dn_Reader_63
