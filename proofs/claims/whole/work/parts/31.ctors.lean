theorem d_Ho_init_0 : decode prog_4_method_1_code 0 = .ok (.aload_n 0, 1) := by decide +kernel
theorem d_Ho_init_1 : decode prog_4_method_1_code 1 = .ok (.invokespecial 3, 3) := by decide +kernel
theorem d_Ho_init_4 : decode prog_4_method_1_code 4 = .ok (.aload_n 0, 1) := by decide +kernel
theorem d_Ho_init_5 : decode prog_4_method_1_code 5 = .ok (.iconst 4, 1) := by decide +kernel
theorem d_Ho_init_6 : decode prog_4_method_1_code 6 = .ok (.newarray .int, 2) := by decide +kernel
theorem d_Ho_init_8 : decode prog_4_method_1_code 8 = .ok (.putfield 9, 3) := by decide +kernel
theorem d_Ho_init_11 : decode prog_4_method_1_code 11 = .ok (.aload_n 0, 1) := by decide +kernel
theorem d_Ho_init_12 : decode prog_4_method_1_code 12 = .ok (.iconst 4, 1) := by decide +kernel
theorem d_Ho_init_13 : decode prog_4_method_1_code 13 = .ok (.newarray .int, 2) := by decide +kernel
theorem d_Ho_init_15 : decode prog_4_method_1_code 15 = .ok (.putfield 15, 3) := by decide +kernel
theorem d_Ho_init_18 : decode prog_4_method_1_code 18 = .ok (.aload_n 0, 1) := by decide +kernel
theorem d_Ho_init_19 : decode prog_4_method_1_code 19 = .ok (.bipush 12, 2) := by decide +kernel
theorem d_Ho_init_21 : decode prog_4_method_1_code 21 = .ok (.newarray .int, 2) := by decide +kernel
theorem d_Ho_init_23 : decode prog_4_method_1_code 23 = .ok (.putfield 18, 3) := by decide +kernel
theorem d_Ho_init_26 : decode prog_4_method_1_code 26 = .ok (.aload_n 0, 1) := by decide +kernel
theorem d_Ho_init_27 : decode prog_4_method_1_code 27 = .ok (.bipush 20, 2) := by decide +kernel
theorem d_Ho_init_29 : decode prog_4_method_1_code 29 = .ok (.newarray .int, 2) := by decide +kernel
theorem d_Ho_init_31 : decode prog_4_method_1_code 31 = .ok (.putfield 21, 3) := by decide +kernel
theorem d_Ho_init_34 : decode prog_4_method_1_code 34 = .ok (.return_, 1) := by decide +kernel
abbrev y_Ho_init : MethodName := ⟨"LoadCycles$House", "<init>", "()V"⟩
theorem mc_Ho_init : miC y_Ho_init prog_4_method_1_code 1 := ⟨wd_88, wd_66, wd_89, by decide, by decide, by decide +kernel⟩
def po_Ho_init (Y : Yx) (h0 : Nat) (u : va_W) : Prop := ∃ q1 q2 q3 q4 : Nat, u = [(h0, .inr (2, [.ref q1, .ref q2, .ref q3, .ref q4, .int 0, .int 0, .int 0])), (q1, .inl (yI Y, (4, .inl (fun _ => 0)))), (q2, .inl (yI Y, (4, .inl (fun _ => 0)))), (q3, .inl (yI Y, (12, .inl (fun _ => 0)))), (q4, .inl (yI Y, (20, .inl (fun _ => 0))))]
set_option maxHeartbeats 4000000 in
set_option maxRecDepth 20000 in
theorem k_Ho_init {Y : Yx} {ws : va_W} {h0 : Nat} : MetC Y y_Ho_init prog_4_method_1_code 1 1 20 4 40 h0 ws 2 (po_Ho_init Y h0) := by
  refine met_C [(0, .ref h0)] (by decide) (Nat.le_of_ble_eq_true rfl) rfl (fun X C hr hi => ?_)
  refine c_aload_n (pc := 0) C d_Ho_init_0 rfl 0 rfl ?_
  refine c_objInit (pc := 1) C wd_90 wd_83 wd_84 (by decide) (by decide) d_Ho_init_1 ?_
  refine c_aload_n (pc := 4) C d_Ho_init_4 rfl 0 rfl ?_
  refine c_iconst (pc := 5) (v := 4) C d_Ho_init_5 (by decide) ?_
  refine c_newI (pc := 6) (N := 4) 1 4 C wd_127 (by decide) (by decide) (by decide) rfl rfl (by decide) (by decide) d_Ho_init_6 (fun q1 => ?_)
  refine c_putF (pc := 8) (j := 0) (k := 0) [(h0, .inr (2, [.ref q1, .null, .null, .null, .int 0, .int 0, .int 0])), (q1, .inl (yI Y, (4, .inl (fun _ => 0))))] C hi rfl (by decide) (by decide) wd_91 rfl rfl rfl rfl (Nat.le_of_ble_eq_true rfl) rfl d_Ho_init_8 ?_
  refine c_aload_n (pc := 11) C d_Ho_init_11 rfl 0 rfl ?_
  refine c_iconst (pc := 12) (v := 4) C d_Ho_init_12 (by decide) ?_
  refine c_newI (pc := 13) (N := 4) 2 8 C wd_127 (by decide) (by decide) (by decide) rfl rfl (by decide) (by decide) d_Ho_init_13 (fun q2 => ?_)
  refine c_putF (pc := 15) (j := 0) (k := 1) [(h0, .inr (2, [.ref q1, .ref q2, .null, .null, .int 0, .int 0, .int 0])), (q1, .inl (yI Y, (4, .inl (fun _ => 0)))), (q2, .inl (yI Y, (4, .inl (fun _ => 0))))] C hi rfl (by decide) (by decide) wd_93 rfl rfl rfl rfl (Nat.le_of_ble_eq_true rfl) rfl d_Ho_init_15 ?_
  refine c_aload_n (pc := 18) C d_Ho_init_18 rfl 0 rfl ?_
  refine c_bipush (pc := 19) (v := 12) C d_Ho_init_19 (by decide) ?_
  refine c_newI (pc := 21) (N := 12) 3 20 C wd_127 (by decide) (by decide) (by decide) rfl rfl (by decide) (by decide) d_Ho_init_21 (fun q3 => ?_)
  refine c_putF (pc := 23) (j := 0) (k := 2) [(h0, .inr (2, [.ref q1, .ref q2, .ref q3, .null, .int 0, .int 0, .int 0])), (q1, .inl (yI Y, (4, .inl (fun _ => 0)))), (q2, .inl (yI Y, (4, .inl (fun _ => 0)))), (q3, .inl (yI Y, (12, .inl (fun _ => 0))))] C hi rfl (by decide) (by decide) wd_96 rfl rfl rfl rfl (Nat.le_of_ble_eq_true rfl) rfl d_Ho_init_23 ?_
  refine c_aload_n (pc := 26) C d_Ho_init_26 rfl 0 rfl ?_
  refine c_bipush (pc := 27) (v := 20) C d_Ho_init_27 (by decide) ?_
  refine c_newI (pc := 29) (N := 20) 4 40 C wd_127 (by decide) (by decide) (by decide) rfl rfl (by decide) (by decide) d_Ho_init_29 (fun q4 => ?_)
  refine c_putF (pc := 31) (j := 0) (k := 3) [(h0, .inr (2, [.ref q1, .ref q2, .ref q3, .ref q4, .int 0, .int 0, .int 0])), (q1, .inl (yI Y, (4, .inl (fun _ => 0)))), (q2, .inl (yI Y, (4, .inl (fun _ => 0)))), (q3, .inl (yI Y, (12, .inl (fun _ => 0)))), (q4, .inl (yI Y, (20, .inl (fun _ => 0))))] C hi rfl (by decide) (by decide) wd_97 rfl rfl rfl rfl (Nat.le_of_ble_eq_true rfl) rfl d_Ho_init_31 ?_
  exact c_vret (pc := 34) C hr d_Ho_init_34 ⟨q1, q2, q3, q4, rfl⟩
theorem d_Do_init_0 : decode prog_2_method_1_code 0 = .ok (.aload_n 0, 1) := by decide +kernel
theorem d_Do_init_1 : decode prog_2_method_1_code 1 = .ok (.invokespecial 3, 3) := by decide +kernel
theorem d_Do_init_4 : decode prog_2_method_1_code 4 = .ok (.aload_n 0, 1) := by decide +kernel
theorem d_Do_init_5 : decode prog_2_method_1_code 5 = .ok (.bipush 80, 2) := by decide +kernel
theorem d_Do_init_7 : decode prog_2_method_1_code 7 = .ok (.newarray .int, 2) := by decide +kernel
theorem d_Do_init_9 : decode prog_2_method_1_code 9 = .ok (.putfield 9, 3) := by decide +kernel
theorem d_Do_init_12 : decode prog_2_method_1_code 12 = .ok (.aload_n 0, 1) := by decide +kernel
theorem d_Do_init_13 : decode prog_2_method_1_code 13 = .ok (.iconst 4, 1) := by decide +kernel
theorem d_Do_init_14 : decode prog_2_method_1_code 14 = .ok (.newarray .int, 2) := by decide +kernel
theorem d_Do_init_16 : decode prog_2_method_1_code 16 = .ok (.putfield 15, 3) := by decide +kernel
theorem d_Do_init_19 : decode prog_2_method_1_code 19 = .ok (.return_, 1) := by decide +kernel
abbrev y_Do_init : MethodName := ⟨"LoadCycles$Doing", "<init>", "()V"⟩
theorem mc_Do_init : miC y_Do_init prog_2_method_1_code 1 := ⟨wd_131, wd_67, wd_132, by decide, by decide, by decide +kernel⟩
def po_Do_init (Y : Yx) (h0 : Nat) (u : va_W) : Prop := ∃ q1 q2 : Nat, u = [(h0, .inr (0, [.ref q1, .ref q2, .int 0, .int 0, .int 0, .int 0])), (q1, .inl (yI Y, (80, .inl (fun _ => 0)))), (q2, .inl (yI Y, (4, .inl (fun _ => 0))))]
set_option maxHeartbeats 4000000 in
set_option maxRecDepth 20000 in
theorem k_Do_init {Y : Yx} {ws : va_W} {h0 : Nat} : MetC Y y_Do_init prog_2_method_1_code 1 1 20 2 84 h0 ws 0 (po_Do_init Y h0) := by
  refine met_C [(0, .ref h0)] (by decide) (Nat.le_of_ble_eq_true rfl) rfl (fun X C hr hi => ?_)
  refine c_aload_n (pc := 0) C d_Do_init_0 rfl 0 rfl ?_
  refine c_objInit (pc := 1) C wd_133 wd_83 wd_84 (by decide) (by decide) d_Do_init_1 ?_
  refine c_aload_n (pc := 4) C d_Do_init_4 rfl 0 rfl ?_
  refine c_bipush (pc := 5) (v := 80) C d_Do_init_5 (by decide) ?_
  refine c_newI (pc := 7) (N := 80) 1 80 C wd_127 (by decide) (by decide) (by decide) rfl rfl (by decide) (by decide) d_Do_init_7 (fun q1 => ?_)
  refine c_putF (pc := 9) (j := 0) (k := 0) [(h0, .inr (0, [.ref q1, .null, .int 0, .int 0, .int 0, .int 0])), (q1, .inl (yI Y, (80, .inl (fun _ => 0))))] C hi rfl (by decide) (by decide) wd_134 rfl rfl rfl rfl (Nat.le_of_ble_eq_true rfl) rfl d_Do_init_9 ?_
  refine c_aload_n (pc := 12) C d_Do_init_12 rfl 0 rfl ?_
  refine c_iconst (pc := 13) (v := 4) C d_Do_init_13 (by decide) ?_
  refine c_newI (pc := 14) (N := 4) 2 84 C wd_127 (by decide) (by decide) (by decide) rfl rfl (by decide) (by decide) d_Do_init_14 (fun q2 => ?_)
  refine c_putF (pc := 16) (j := 0) (k := 1) [(h0, .inr (0, [.ref q1, .ref q2, .int 0, .int 0, .int 0, .int 0])), (q1, .inl (yI Y, (80, .inl (fun _ => 0)))), (q2, .inl (yI Y, (4, .inl (fun _ => 0))))] C hi rfl (by decide) (by decide) wd_135 rfl rfl rfl rfl (Nat.le_of_ble_eq_true rfl) rfl d_Do_init_16 ?_
  exact c_vret (pc := 19) C hr d_Do_init_19 ⟨q1, q2, rfl⟩
theorem d_Gu_init_0 : decode prog_3_method_1_code 0 = .ok (.aload_n 0, 1) := by decide +kernel
theorem d_Gu_init_1 : decode prog_3_method_1_code 1 = .ok (.invokespecial 3, 3) := by decide +kernel
theorem d_Gu_init_4 : decode prog_3_method_1_code 4 = .ok (.aload_n 0, 1) := by decide +kernel
theorem d_Gu_init_5 : decode prog_3_method_1_code 5 = .ok (.bipush 48, 2) := by decide +kernel
theorem d_Gu_init_7 : decode prog_3_method_1_code 7 = .ok (.newarray .boolean, 2) := by decide +kernel
theorem d_Gu_init_9 : decode prog_3_method_1_code 9 = .ok (.putfield 11, 3) := by decide +kernel
theorem d_Gu_init_12 : decode prog_3_method_1_code 12 = .ok (.aload_n 0, 1) := by decide +kernel
theorem d_Gu_init_13 : decode prog_3_method_1_code 13 = .ok (.sipush 192, 3) := by decide +kernel
theorem d_Gu_init_16 : decode prog_3_method_1_code 16 = .ok (.newarray .int, 2) := by decide +kernel
theorem d_Gu_init_18 : decode prog_3_method_1_code 18 = .ok (.putfield 15, 3) := by decide +kernel
theorem d_Gu_init_21 : decode prog_3_method_1_code 21 = .ok (.return_, 1) := by decide +kernel
abbrev y_Gu_init : MethodName := ⟨"LoadCycles$Guesses", "<init>", "()V"⟩
theorem mc_Gu_init : miC y_Gu_init prog_3_method_1_code 1 := ⟨wd_199, wd_70, wd_200, by decide, by decide, by decide +kernel⟩
def po_Gu_init (Y : Yx) (h0 : Nat) (u : va_W) : Prop := ∃ q1 q2 : Nat, u = [(h0, .inr (1, [.ref q1, .ref q2])), (q1, .inl (yZ Y, (48, .inl (fun _ => 0)))), (q2, .inl (yI Y, (192, .inl (fun _ => 0))))]
set_option maxHeartbeats 4000000 in
set_option maxRecDepth 20000 in
theorem k_Gu_init {Y : Yx} {ws : va_W} {h0 : Nat} : MetC Y y_Gu_init prog_3_method_1_code 1 1 20 2 240 h0 ws 1 (po_Gu_init Y h0) := by
  refine met_C [(0, .ref h0)] (by decide) (Nat.le_of_ble_eq_true rfl) rfl (fun X C hr hi => ?_)
  refine c_aload_n (pc := 0) C d_Gu_init_0 rfl 0 rfl ?_
  refine c_objInit (pc := 1) C wd_201 wd_83 wd_84 (by decide) (by decide) d_Gu_init_1 ?_
  refine c_aload_n (pc := 4) C d_Gu_init_4 rfl 0 rfl ?_
  refine c_bipush (pc := 5) (v := 48) C d_Gu_init_5 (by decide) ?_
  refine c_newZ (pc := 7) (N := 48) 1 48 C wd_209 (by decide) (by decide) (by decide) rfl rfl (by decide) (by decide) d_Gu_init_7 (fun q1 => ?_)
  refine c_putF (pc := 9) (j := 0) (k := 0) [(h0, .inr (1, [.ref q1, .null])), (q1, .inl (yZ Y, (48, .inl (fun _ => 0))))] C hi rfl (by decide) (by decide) wd_202 rfl rfl rfl rfl (Nat.le_of_ble_eq_true rfl) rfl d_Gu_init_9 ?_
  refine c_aload_n (pc := 12) C d_Gu_init_12 rfl 0 rfl ?_
  refine c_sipush (pc := 13) (v := 192) C d_Gu_init_13 (by decide) ?_
  refine c_newI (pc := 16) (N := 192) 2 240 C wd_127 (by decide) (by decide) (by decide) rfl rfl (by decide) (by decide) d_Gu_init_16 (fun q2 => ?_)
  refine c_putF (pc := 18) (j := 0) (k := 1) [(h0, .inr (1, [.ref q1, .ref q2])), (q1, .inl (yZ Y, (48, .inl (fun _ => 0)))), (q2, .inl (yI Y, (192, .inl (fun _ => 0))))] C hi rfl (by decide) (by decide) wd_203 rfl rfl rfl rfl (Nat.le_of_ble_eq_true rfl) rfl d_Gu_init_18 ?_
  exact c_vret (pc := 21) C hr d_Gu_init_21 ⟨q1, q2, rfl⟩
theorem d_Sh_init_0 : decode prog_5_method_1_code 0 = .ok (.aload_n 0, 1) := by decide +kernel
theorem d_Sh_init_1 : decode prog_5_method_1_code 1 = .ok (.invokespecial 3, 3) := by decide +kernel
theorem d_Sh_init_4 : decode prog_5_method_1_code 4 = .ok (.aload_n 0, 1) := by decide +kernel
theorem d_Sh_init_5 : decode prog_5_method_1_code 5 = .ok (.bipush 60, 2) := by decide +kernel
theorem d_Sh_init_7 : decode prog_5_method_1_code 7 = .ok (.newarray .int, 2) := by decide +kernel
theorem d_Sh_init_9 : decode prog_5_method_1_code 9 = .ok (.putfield 9, 3) := by decide +kernel
theorem d_Sh_init_12 : decode prog_5_method_1_code 12 = .ok (.aload_n 0, 1) := by decide +kernel
theorem d_Sh_init_13 : decode prog_5_method_1_code 13 = .ok (.iconst (-1), 1) := by decide +kernel
theorem d_Sh_init_14 : decode prog_5_method_1_code 14 = .ok (.putfield 15, 3) := by decide +kernel
theorem d_Sh_init_17 : decode prog_5_method_1_code 17 = .ok (.return_, 1) := by decide +kernel
abbrev y_Sh_init : MethodName := ⟨"LoadCycles$Sheet", "<init>", "()V"⟩
theorem mc_Sh_init : miC y_Sh_init prog_5_method_1_code 1 := ⟨wd_214, wd_71, wd_215, by decide, by decide, by decide +kernel⟩
def po_Sh_init (Y : Yx) (h0 : Nat) (u : va_W) : Prop := ∃ q1 : Nat, u = [(h0, .inr (3, [.ref q1, .int 0, .int (-1)])), (q1, .inl (yI Y, (60, .inl (fun _ => 0))))]
set_option maxHeartbeats 4000000 in
set_option maxRecDepth 20000 in
theorem k_Sh_init {Y : Yx} {ws : va_W} {h0 : Nat} : MetC Y y_Sh_init prog_5_method_1_code 1 1 20 1 60 h0 ws 3 (po_Sh_init Y h0) := by
  refine met_C [(0, .ref h0)] (by decide) (Nat.le_of_ble_eq_true rfl) rfl (fun X C hr hi => ?_)
  refine c_aload_n (pc := 0) C d_Sh_init_0 rfl 0 rfl ?_
  refine c_objInit (pc := 1) C wd_216 wd_83 wd_84 (by decide) (by decide) d_Sh_init_1 ?_
  refine c_aload_n (pc := 4) C d_Sh_init_4 rfl 0 rfl ?_
  refine c_bipush (pc := 5) (v := 60) C d_Sh_init_5 (by decide) ?_
  refine c_newI (pc := 7) (N := 60) 1 60 C wd_127 (by decide) (by decide) (by decide) rfl rfl (by decide) (by decide) d_Sh_init_7 (fun q1 => ?_)
  refine c_putF (pc := 9) (j := 0) (k := 0) [(h0, .inr (3, [.ref q1, .int 0, .int 0])), (q1, .inl (yI Y, (60, .inl (fun _ => 0))))] C hi rfl (by decide) (by decide) wd_217 rfl rfl rfl rfl (Nat.le_of_ble_eq_true rfl) rfl d_Sh_init_9 ?_
  refine c_aload_n (pc := 12) C d_Sh_init_12 rfl 0 rfl ?_
  refine c_iconst (pc := 13) (v := -1) C d_Sh_init_13 (by decide) ?_
  refine c_put (pc := 14) (j := 0) (k := 2) [(h0, .inr (3, [.ref q1, .int 0, .int (-1)])), (q1, .inl (yI Y, (60, .inl (fun _ => 0))))] C rfl (by decide) (by decide) wd_222 rfl rfl rfl (Nat.le_of_ble_eq_true rfl) rfl d_Sh_init_14 ?_
  exact c_vret (pc := 17) C hr d_Sh_init_17 ⟨q1, rfl⟩
theorem d_Un_init_0 : decode prog_7_method_1_code 0 = .ok (.aload_n 0, 1) := by decide +kernel
theorem d_Un_init_1 : decode prog_7_method_1_code 1 = .ok (.invokespecial 3, 3) := by decide +kernel
theorem d_Un_init_4 : decode prog_7_method_1_code 4 = .ok (.aload_n 0, 1) := by decide +kernel
theorem d_Un_init_5 : decode prog_7_method_1_code 5 = .ok (.sipush 256, 3) := by decide +kernel
theorem d_Un_init_8 : decode prog_7_method_1_code 8 = .ok (.newarray .int, 2) := by decide +kernel
theorem d_Un_init_10 : decode prog_7_method_1_code 10 = .ok (.putfield 9, 3) := by decide +kernel
theorem d_Un_init_13 : decode prog_7_method_1_code 13 = .ok (.aload_n 0, 1) := by decide +kernel
theorem d_Un_init_14 : decode prog_7_method_1_code 14 = .ok (.sipush 1024, 3) := by decide +kernel
theorem d_Un_init_17 : decode prog_7_method_1_code 17 = .ok (.newarray .int, 2) := by decide +kernel
theorem d_Un_init_19 : decode prog_7_method_1_code 19 = .ok (.putfield 15, 3) := by decide +kernel
theorem d_Un_init_22 : decode prog_7_method_1_code 22 = .ok (.aload_n 0, 1) := by decide +kernel
theorem d_Un_init_23 : decode prog_7_method_1_code 23 = .ok (.sipush 5120, 3) := by decide +kernel
theorem d_Un_init_26 : decode prog_7_method_1_code 26 = .ok (.newarray .int, 2) := by decide +kernel
theorem d_Un_init_28 : decode prog_7_method_1_code 28 = .ok (.putfield 18, 3) := by decide +kernel
theorem d_Un_init_31 : decode prog_7_method_1_code 31 = .ok (.aload_n 0, 1) := by decide +kernel
theorem d_Un_init_32 : decode prog_7_method_1_code 32 = .ok (.sipush 256, 3) := by decide +kernel
theorem d_Un_init_35 : decode prog_7_method_1_code 35 = .ok (.newarray .int, 2) := by decide +kernel
theorem d_Un_init_37 : decode prog_7_method_1_code 37 = .ok (.putfield 21, 3) := by decide +kernel
theorem d_Un_init_40 : decode prog_7_method_1_code 40 = .ok (.aload_n 0, 1) := by decide +kernel
theorem d_Un_init_41 : decode prog_7_method_1_code 41 = .ok (.sipush 256, 3) := by decide +kernel
theorem d_Un_init_44 : decode prog_7_method_1_code 44 = .ok (.newarray .int, 2) := by decide +kernel
theorem d_Un_init_46 : decode prog_7_method_1_code 46 = .ok (.putfield 24, 3) := by decide +kernel
theorem d_Un_init_49 : decode prog_7_method_1_code 49 = .ok (.return_, 1) := by decide +kernel
abbrev y_Un_init : MethodName := ⟨"LoadCycles$Unmixer", "<init>", "()V"⟩
theorem mc_Un_init : miC y_Un_init prog_7_method_1_code 1 := ⟨wd_158, wd_68, wd_159, by decide, by decide, by decide +kernel⟩
def po_Un_init (Y : Yx) (h0 : Nat) (u : va_W) : Prop := ∃ q1 q2 q3 q4 q5 : Nat, u = [(h0, .inr (5, [.ref q1, .ref q2, .ref q3, .ref q4, .ref q5, .int 0])), (q1, .inl (yI Y, (256, .inl (fun _ => 0)))), (q2, .inl (yI Y, (1024, .inl (fun _ => 0)))), (q3, .inl (yI Y, (5120, .inl (fun _ => 0)))), (q4, .inl (yI Y, (256, .inl (fun _ => 0)))), (q5, .inl (yI Y, (256, .inl (fun _ => 0))))]
set_option maxHeartbeats 4000000 in
set_option maxRecDepth 20000 in
theorem k_Un_init {Y : Yx} {ws : va_W} {h0 : Nat} : MetC Y y_Un_init prog_7_method_1_code 1 1 20 5 6912 h0 ws 5 (po_Un_init Y h0) := by
  refine met_C [(0, .ref h0)] (by decide) (Nat.le_of_ble_eq_true rfl) rfl (fun X C hr hi => ?_)
  refine c_aload_n (pc := 0) C d_Un_init_0 rfl 0 rfl ?_
  refine c_objInit (pc := 1) C wd_160 wd_83 wd_84 (by decide) (by decide) d_Un_init_1 ?_
  refine c_aload_n (pc := 4) C d_Un_init_4 rfl 0 rfl ?_
  refine c_sipush (pc := 5) (v := 256) C d_Un_init_5 (by decide) ?_
  refine c_newI (pc := 8) (N := 256) 1 256 C wd_127 (by decide) (by decide) (by decide) rfl rfl (by decide) (by decide) d_Un_init_8 (fun q1 => ?_)
  refine c_putF (pc := 10) (j := 0) (k := 0) [(h0, .inr (5, [.ref q1, .null, .null, .null, .null, .int 0])), (q1, .inl (yI Y, (256, .inl (fun _ => 0))))] C hi rfl (by decide) (by decide) wd_161 rfl rfl rfl rfl (Nat.le_of_ble_eq_true rfl) rfl d_Un_init_10 ?_
  refine c_aload_n (pc := 13) C d_Un_init_13 rfl 0 rfl ?_
  refine c_sipush (pc := 14) (v := 1024) C d_Un_init_14 (by decide) ?_
  refine c_newI (pc := 17) (N := 1024) 2 1280 C wd_127 (by decide) (by decide) (by decide) rfl rfl (by decide) (by decide) d_Un_init_17 (fun q2 => ?_)
  refine c_putF (pc := 19) (j := 0) (k := 1) [(h0, .inr (5, [.ref q1, .ref q2, .null, .null, .null, .int 0])), (q1, .inl (yI Y, (256, .inl (fun _ => 0)))), (q2, .inl (yI Y, (1024, .inl (fun _ => 0))))] C hi rfl (by decide) (by decide) wd_162 rfl rfl rfl rfl (Nat.le_of_ble_eq_true rfl) rfl d_Un_init_19 ?_
  refine c_aload_n (pc := 22) C d_Un_init_22 rfl 0 rfl ?_
  refine c_sipush (pc := 23) (v := 5120) C d_Un_init_23 (by decide) ?_
  refine c_newI (pc := 26) (N := 5120) 3 6400 C wd_127 (by decide) (by decide) (by decide) rfl rfl (by decide) (by decide) d_Un_init_26 (fun q3 => ?_)
  refine c_putF (pc := 28) (j := 0) (k := 2) [(h0, .inr (5, [.ref q1, .ref q2, .ref q3, .null, .null, .int 0])), (q1, .inl (yI Y, (256, .inl (fun _ => 0)))), (q2, .inl (yI Y, (1024, .inl (fun _ => 0)))), (q3, .inl (yI Y, (5120, .inl (fun _ => 0))))] C hi rfl (by decide) (by decide) wd_163 rfl rfl rfl rfl (Nat.le_of_ble_eq_true rfl) rfl d_Un_init_28 ?_
  refine c_aload_n (pc := 31) C d_Un_init_31 rfl 0 rfl ?_
  refine c_sipush (pc := 32) (v := 256) C d_Un_init_32 (by decide) ?_
  refine c_newI (pc := 35) (N := 256) 4 6656 C wd_127 (by decide) (by decide) (by decide) rfl rfl (by decide) (by decide) d_Un_init_35 (fun q4 => ?_)
  refine c_put (pc := 37) (j := 0) (k := 3) [(h0, .inr (5, [.ref q1, .ref q2, .ref q3, .ref q4, .null, .int 0])), (q1, .inl (yI Y, (256, .inl (fun _ => 0)))), (q2, .inl (yI Y, (1024, .inl (fun _ => 0)))), (q3, .inl (yI Y, (5120, .inl (fun _ => 0)))), (q4, .inl (yI Y, (256, .inl (fun _ => 0))))] C rfl (by decide) (by decide) wd_164 rfl rfl rfl (Nat.le_of_ble_eq_true rfl) rfl d_Un_init_37 ?_
  refine c_aload_n (pc := 40) C d_Un_init_40 rfl 0 rfl ?_
  refine c_sipush (pc := 41) (v := 256) C d_Un_init_41 (by decide) ?_
  refine c_newI (pc := 44) (N := 256) 5 6912 C wd_127 (by decide) (by decide) (by decide) rfl rfl (by decide) (by decide) d_Un_init_44 (fun q5 => ?_)
  refine c_put (pc := 46) (j := 0) (k := 4) [(h0, .inr (5, [.ref q1, .ref q2, .ref q3, .ref q4, .ref q5, .int 0])), (q1, .inl (yI Y, (256, .inl (fun _ => 0)))), (q2, .inl (yI Y, (1024, .inl (fun _ => 0)))), (q3, .inl (yI Y, (5120, .inl (fun _ => 0)))), (q4, .inl (yI Y, (256, .inl (fun _ => 0)))), (q5, .inl (yI Y, (256, .inl (fun _ => 0))))] C rfl (by decide) (by decide) wd_165 rfl rfl rfl (Nat.le_of_ble_eq_true rfl) rfl d_Un_init_46 ?_
  exact c_vret (pc := 49) C hr d_Un_init_49 ⟨q1, q2, q3, q4, q5, rfl⟩
theorem d_Tr_init_0 : decode prog_6_method_1_code 0 = .ok (.aload_n 0, 1) := by decide +kernel
theorem d_Tr_init_1 : decode prog_6_method_1_code 1 = .ok (.invokespecial 3, 3) := by decide +kernel
theorem d_Tr_init_4 : decode prog_6_method_1_code 4 = .ok (.aload_n 0, 1) := by decide +kernel
theorem d_Tr_init_5 : decode prog_6_method_1_code 5 = .ok (.new 9, 3) := by decide +kernel
theorem d_Tr_init_8 : decode prog_6_method_1_code 8 = .ok (.dup, 1) := by decide +kernel
theorem d_Tr_init_9 : decode prog_6_method_1_code 9 = .ok (.invokespecial 11, 3) := by decide +kernel
theorem d_Tr_init_12 : decode prog_6_method_1_code 12 = .ok (.putfield 12, 3) := by decide +kernel
theorem d_Tr_init_15 : decode prog_6_method_1_code 15 = .ok (.return_, 1) := by decide +kernel
abbrev y_Tr_init : MethodName := ⟨"LoadCycles$TextReader", "<init>", "()V"⟩
theorem mc_Tr_init : miC y_Tr_init prog_6_method_1_code 1 := ⟨wd_183, wd_69, wd_184, by decide, by decide, by decide +kernel⟩
def po_Tr_init (Y : Yx) (h0 : Nat) (u : va_W) : Prop := ∃ q1 q2 q3 q4 q5 : Nat, u = [(h0, .inr (4, [.ref q1, .int 0])), (q1, .inr (2, [.ref q2, .ref q3, .ref q4, .ref q5, .int 0, .int 0, .int 0])), (q2, .inl (yI Y, (4, .inl (fun _ => 0)))), (q3, .inl (yI Y, (4, .inl (fun _ => 0)))), (q4, .inl (yI Y, (12, .inl (fun _ => 0)))), (q5, .inl (yI Y, (20, .inl (fun _ => 0))))]
set_option maxHeartbeats 4000000 in
set_option maxRecDepth 20000 in
theorem k_Tr_init {Y : Yx} {ws : va_W} {h0 : Nat} : MetC Y y_Tr_init prog_6_method_1_code 1 2 40 5 47 h0 ws 4 (po_Tr_init Y h0) := by
  refine met_C [(0, .ref h0)] (by decide) (Nat.le_of_ble_eq_true rfl) rfl (fun X C hr hi => ?_)
  refine c_aload_n (pc := 0) C d_Tr_init_0 rfl 0 rfl ?_
  refine c_objInit (pc := 1) C wd_185 wd_83 wd_84 (by decide) (by decide) d_Tr_init_1 ?_
  refine c_aload_n (pc := 4) C d_Tr_init_4 rfl 0 rfl ?_
  refine c_new (pc := 5) 2 1 7 C (by decide) wd_186 wd_86 wd_66 rfl rfl (by decide) (by decide) d_Tr_init_5 (fun q1 => ?_)
  refine c_dup (pc := 8) C d_Tr_init_8 rfl ?_
  refine c_callN (pc := 9) 5 47 C (k_Ho_init) mc_Ho_init rfl (List.mem_of_getElem? (i := 4) rfl) (Nat.le_of_ble_eq_true rfl) (by decide) (by decide) rfl rfl (by decide) (by decide) d_Tr_init_9 (fun u1 hu1 => ?_)
  obtain ⟨q2, q3, q4, q5, rfl⟩ := hu1
  refine c_putF (pc := 12) (j := 0) (k := 0) [(h0, .inr (4, [.ref q1, .int 0])), (q1, .inr (2, [.ref q2, .ref q3, .ref q4, .ref q5, .int 0, .int 0, .int 0])), (q2, .inl (yI Y, (4, .inl (fun _ => 0)))), (q3, .inl (yI Y, (4, .inl (fun _ => 0)))), (q4, .inl (yI Y, (12, .inl (fun _ => 0)))), (q5, .inl (yI Y, (20, .inl (fun _ => 0))))] C hi rfl (by decide) (by decide) wd_188 rfl rfl rfl rfl (Nat.le_of_ble_eq_true rfl) rfl d_Tr_init_12 ?_
  exact c_vret (pc := 15) C hr d_Tr_init_15 ⟨q1, q2, q3, q4, q5, rfl⟩
theorem d_Lc_init_0 : decode prog_1_method_1_code 0 = .ok (.aload_n 0, 1) := by decide +kernel
theorem d_Lc_init_1 : decode prog_1_method_1_code 1 = .ok (.invokespecial 3, 3) := by decide +kernel
theorem d_Lc_init_4 : decode prog_1_method_1_code 4 = .ok (.aload_n 0, 1) := by decide +kernel
theorem d_Lc_init_5 : decode prog_1_method_1_code 5 = .ok (.new 9, 3) := by decide +kernel
theorem d_Lc_init_8 : decode prog_1_method_1_code 8 = .ok (.dup, 1) := by decide +kernel
theorem d_Lc_init_9 : decode prog_1_method_1_code 9 = .ok (.invokespecial 11, 3) := by decide +kernel
theorem d_Lc_init_12 : decode prog_1_method_1_code 12 = .ok (.putfield 12, 3) := by decide +kernel
theorem d_Lc_init_15 : decode prog_1_method_1_code 15 = .ok (.aload_n 0, 1) := by decide +kernel
theorem d_Lc_init_16 : decode prog_1_method_1_code 16 = .ok (.new 9, 3) := by decide +kernel
theorem d_Lc_init_19 : decode prog_1_method_1_code 19 = .ok (.dup, 1) := by decide +kernel
theorem d_Lc_init_20 : decode prog_1_method_1_code 20 = .ok (.invokespecial 11, 3) := by decide +kernel
theorem d_Lc_init_23 : decode prog_1_method_1_code 23 = .ok (.putfield 18, 3) := by decide +kernel
theorem d_Lc_init_26 : decode prog_1_method_1_code 26 = .ok (.aload_n 0, 1) := by decide +kernel
theorem d_Lc_init_27 : decode prog_1_method_1_code 27 = .ok (.new 21, 3) := by decide +kernel
theorem d_Lc_init_30 : decode prog_1_method_1_code 30 = .ok (.dup, 1) := by decide +kernel
theorem d_Lc_init_31 : decode prog_1_method_1_code 31 = .ok (.invokespecial 23, 3) := by decide +kernel
theorem d_Lc_init_34 : decode prog_1_method_1_code 34 = .ok (.putfield 24, 3) := by decide +kernel
theorem d_Lc_init_37 : decode prog_1_method_1_code 37 = .ok (.aload_n 0, 1) := by decide +kernel
theorem d_Lc_init_38 : decode prog_1_method_1_code 38 = .ok (.new 21, 3) := by decide +kernel
theorem d_Lc_init_41 : decode prog_1_method_1_code 41 = .ok (.dup, 1) := by decide +kernel
theorem d_Lc_init_42 : decode prog_1_method_1_code 42 = .ok (.invokespecial 23, 3) := by decide +kernel
theorem d_Lc_init_45 : decode prog_1_method_1_code 45 = .ok (.putfield 28, 3) := by decide +kernel
theorem d_Lc_init_48 : decode prog_1_method_1_code 48 = .ok (.aload_n 0, 1) := by decide +kernel
theorem d_Lc_init_49 : decode prog_1_method_1_code 49 = .ok (.new 31, 3) := by decide +kernel
theorem d_Lc_init_52 : decode prog_1_method_1_code 52 = .ok (.dup, 1) := by decide +kernel
theorem d_Lc_init_53 : decode prog_1_method_1_code 53 = .ok (.invokespecial 33, 3) := by decide +kernel
theorem d_Lc_init_56 : decode prog_1_method_1_code 56 = .ok (.putfield 34, 3) := by decide +kernel
theorem d_Lc_init_59 : decode prog_1_method_1_code 59 = .ok (.aload_n 0, 1) := by decide +kernel
theorem d_Lc_init_60 : decode prog_1_method_1_code 60 = .ok (.new 38, 3) := by decide +kernel
theorem d_Lc_init_63 : decode prog_1_method_1_code 63 = .ok (.dup, 1) := by decide +kernel
theorem d_Lc_init_64 : decode prog_1_method_1_code 64 = .ok (.invokespecial 40, 3) := by decide +kernel
theorem d_Lc_init_67 : decode prog_1_method_1_code 67 = .ok (.putfield 41, 3) := by decide +kernel
theorem d_Lc_init_70 : decode prog_1_method_1_code 70 = .ok (.aload_n 0, 1) := by decide +kernel
theorem d_Lc_init_71 : decode prog_1_method_1_code 71 = .ok (.new 45, 3) := by decide +kernel
theorem d_Lc_init_74 : decode prog_1_method_1_code 74 = .ok (.dup, 1) := by decide +kernel
theorem d_Lc_init_75 : decode prog_1_method_1_code 75 = .ok (.invokespecial 47, 3) := by decide +kernel
theorem d_Lc_init_78 : decode prog_1_method_1_code 78 = .ok (.putfield 48, 3) := by decide +kernel
theorem d_Lc_init_81 : decode prog_1_method_1_code 81 = .ok (.aload_n 0, 1) := by decide +kernel
theorem d_Lc_init_82 : decode prog_1_method_1_code 82 = .ok (.iconst 4, 1) := by decide +kernel
theorem d_Lc_init_83 : decode prog_1_method_1_code 83 = .ok (.anewarray 52, 3) := by decide +kernel
theorem d_Lc_init_86 : decode prog_1_method_1_code 86 = .ok (.putfield 54, 3) := by decide +kernel
theorem d_Lc_init_89 : decode prog_1_method_1_code 89 = .ok (.aload_n 0, 1) := by decide +kernel
theorem d_Lc_init_90 : decode prog_1_method_1_code 90 = .ok (.bipush 8, 2) := by decide +kernel
theorem d_Lc_init_92 : decode prog_1_method_1_code 92 = .ok (.newarray .int, 2) := by decide +kernel
theorem d_Lc_init_94 : decode prog_1_method_1_code 94 = .ok (.putfield 58, 3) := by decide +kernel
theorem d_Lc_init_97 : decode prog_1_method_1_code 97 = .ok (.aload_n 0, 1) := by decide +kernel
theorem d_Lc_init_98 : decode prog_1_method_1_code 98 = .ok (.bipush 8, 2) := by decide +kernel
theorem d_Lc_init_100 : decode prog_1_method_1_code 100 = .ok (.newarray .int, 2) := by decide +kernel
theorem d_Lc_init_102 : decode prog_1_method_1_code 102 = .ok (.putfield 62, 3) := by decide +kernel
theorem d_Lc_init_105 : decode prog_1_method_1_code 105 = .ok (.iconst 0, 1) := by decide +kernel
theorem d_Lc_init_106 : decode prog_1_method_1_code 106 = .ok (.istore_n 1, 1) := by decide +kernel
theorem d_Lc_init_107 : decode prog_1_method_1_code 107 = .ok (.iload_n 1, 1) := by decide +kernel
theorem d_Lc_init_108 : decode prog_1_method_1_code 108 = .ok (.iconst 4, 1) := by decide +kernel
theorem d_Lc_init_109 : decode prog_1_method_1_code 109 = .ok (.if_icmp .ge 22, 3) := by decide +kernel
theorem d_Lc_init_112 : decode prog_1_method_1_code 112 = .ok (.aload_n 0, 1) := by decide +kernel
theorem d_Lc_init_113 : decode prog_1_method_1_code 113 = .ok (.getfield 54, 3) := by decide +kernel
theorem d_Lc_init_116 : decode prog_1_method_1_code 116 = .ok (.iload_n 1, 1) := by decide +kernel
theorem d_Lc_init_117 : decode prog_1_method_1_code 117 = .ok (.new 52, 3) := by decide +kernel
theorem d_Lc_init_120 : decode prog_1_method_1_code 120 = .ok (.dup, 1) := by decide +kernel
theorem d_Lc_init_121 : decode prog_1_method_1_code 121 = .ok (.invokespecial 65, 3) := by decide +kernel
theorem d_Lc_init_124 : decode prog_1_method_1_code 124 = .ok (.aastore, 1) := by decide +kernel
theorem d_Lc_init_125 : decode prog_1_method_1_code 125 = .ok (.iinc 1 1, 3) := by decide +kernel
theorem d_Lc_init_128 : decode prog_1_method_1_code 128 = .ok (.goto (-21), 3) := by decide +kernel
theorem d_Lc_init_131 : decode prog_1_method_1_code 131 = .ok (.return_, 1) := by decide +kernel
abbrev y_Lc_init : MethodName := ⟨"LoadCycles", "<init>", "()V"⟩
theorem mc_Lc_init : miC y_Lc_init prog_1_method_1_code 2 := ⟨wd_80, wd_65, wd_81, by decide, by decide, by decide +kernel⟩
def po_Lc_init (Y : Yx) (h0 : Nat) (u : va_W) : Prop := ∃ q1 q2 q3 q4 q5 q6 q7 q8 q9 q10 q11 q12 q13 q14 q15 q16 q17 q18 q19 q20 q21 q22 q23 q24 q25 q26 q27 q28 q29 q30 q31 q32 q33 q34 q35 q36 q37 q38 q39 q40 q41 q42 : Nat, u = [(h0, .inr (6, [.ref q1, .ref q6, .ref q11, .ref q14, .ref q17, .ref q23, .ref q29, .ref q32, .ref q33, .ref q34, .int 0, .int 0, .int 0, .int 0])), (q1, .inr (2, [.ref q2, .ref q3, .ref q4, .ref q5, .int 0, .int 0, .int 0])), (q2, .inl (yI Y, (4, .inl (fun _ => 0)))), (q3, .inl (yI Y, (4, .inl (fun _ => 0)))), (q4, .inl (yI Y, (12, .inl (fun _ => 0)))), (q5, .inl (yI Y, (20, .inl (fun _ => 0)))), (q6, .inr (2, [.ref q7, .ref q8, .ref q9, .ref q10, .int 0, .int 0, .int 0])), (q7, .inl (yI Y, (4, .inl (fun _ => 0)))), (q8, .inl (yI Y, (4, .inl (fun _ => 0)))), (q9, .inl (yI Y, (12, .inl (fun _ => 0)))), (q10, .inl (yI Y, (20, .inl (fun _ => 0)))), (q11, .inr (0, [.ref q12, .ref q13, .int 0, .int 0, .int 0, .int 0])), (q12, .inl (yI Y, (80, .inl (fun _ => 0)))), (q13, .inl (yI Y, (4, .inl (fun _ => 0)))), (q14, .inr (0, [.ref q15, .ref q16, .int 0, .int 0, .int 0, .int 0])), (q15, .inl (yI Y, (80, .inl (fun _ => 0)))), (q16, .inl (yI Y, (4, .inl (fun _ => 0)))), (q17, .inr (5, [.ref q18, .ref q19, .ref q20, .ref q21, .ref q22, .int 0])), (q18, .inl (yI Y, (256, .inl (fun _ => 0)))), (q19, .inl (yI Y, (1024, .inl (fun _ => 0)))), (q20, .inl (yI Y, (5120, .inl (fun _ => 0)))), (q21, .inl (yI Y, (256, .inl (fun _ => 0)))), (q22, .inl (yI Y, (256, .inl (fun _ => 0)))), (q23, .inr (4, [.ref q24, .int 0])), (q24, .inr (2, [.ref q25, .ref q26, .ref q27, .ref q28, .int 0, .int 0, .int 0])), (q25, .inl (yI Y, (4, .inl (fun _ => 0)))), (q26, .inl (yI Y, (4, .inl (fun _ => 0)))), (q27, .inl (yI Y, (12, .inl (fun _ => 0)))), (q28, .inl (yI Y, (20, .inl (fun _ => 0)))), (q29, .inr (1, [.ref q30, .ref q31])), (q30, .inl (yZ Y, (48, .inl (fun _ => 0)))), (q31, .inl (yI Y, (192, .inl (fun _ => 0)))), (q32, .inl (yS Y, (4, .inr (.inr (.inr (.inr (va_up (va_up (va_up (va_up (fun _ => none) (0 : Int32).toNatClampNeg (some q35)) (1 : Int32).toNatClampNeg (some q37)) (2 : Int32).toNatClampNeg (some q39)) (3 : Int32).toNatClampNeg (some q41)))))))), (q33, .inl (yI Y, (8, .inl (fun _ => 0)))), (q34, .inl (yI Y, (8, .inl (fun _ => 0)))), (q35, .inr (3, [.ref q36, .int 0, .int (-1)])), (q36, .inl (yI Y, (60, .inl (fun _ => 0)))), (q37, .inr (3, [.ref q38, .int 0, .int (-1)])), (q38, .inl (yI Y, (60, .inl (fun _ => 0)))), (q39, .inr (3, [.ref q40, .int 0, .int (-1)])), (q40, .inl (yI Y, (60, .inl (fun _ => 0)))), (q41, .inr (3, [.ref q42, .int 0, .int (-1)])), (q42, .inl (yI Y, (60, .inl (fun _ => 0))))]
set_option maxHeartbeats 4000000 in
set_option maxRecDepth 20000 in
theorem k_Lc_init {Y : Yx} {ws : va_W} {h0 : Nat} : MetC Y y_Lc_init prog_1_method_1_code 2 3 60 42 7755 h0 ws 6 (po_Lc_init Y h0) := by
  refine met_C [(0, .ref h0)] (by decide) (Nat.le_of_ble_eq_true rfl) rfl (fun X C hr hi => ?_)
  refine c_aload_n (pc := 0) C d_Lc_init_0 rfl 0 rfl ?_
  refine c_objInit (pc := 1) C wd_82 wd_83 wd_84 (by decide) (by decide) d_Lc_init_1 ?_
  refine c_aload_n (pc := 4) C d_Lc_init_4 rfl 0 rfl ?_
  refine c_new (pc := 5) 2 1 7 C (by decide) wd_85 wd_86 wd_66 rfl rfl (by decide) (by decide) d_Lc_init_5 (fun q1 => ?_)
  refine c_dup (pc := 8) C d_Lc_init_8 rfl ?_
  refine c_callN (pc := 9) 5 47 C (k_Ho_init) mc_Ho_init rfl (List.mem_of_getElem? (i := 0) rfl) (Nat.le_of_ble_eq_true rfl) (by decide) (by decide) rfl rfl (by decide) (by decide) d_Lc_init_9 (fun u1 hu1 => ?_)
  obtain ⟨q2, q3, q4, q5, rfl⟩ := hu1
  refine c_putF (pc := 12) (j := 0) (k := 0) [(h0, .inr (6, [.ref q1, .null, .null, .null, .null, .null, .null, .null, .null, .null, .int 0, .int 0, .int 0, .int 0])), (q1, .inr (2, [.ref q2, .ref q3, .ref q4, .ref q5, .int 0, .int 0, .int 0])), (q2, .inl (yI Y, (4, .inl (fun _ => 0)))), (q3, .inl (yI Y, (4, .inl (fun _ => 0)))), (q4, .inl (yI Y, (12, .inl (fun _ => 0)))), (q5, .inl (yI Y, (20, .inl (fun _ => 0))))] C hi rfl (by decide) (by decide) wd_230 rfl rfl rfl rfl (Nat.le_of_ble_eq_true rfl) rfl d_Lc_init_12 ?_
  refine c_aload_n (pc := 15) C d_Lc_init_15 rfl 0 rfl ?_
  refine c_new (pc := 16) 2 6 54 C (by decide) wd_85 wd_86 wd_66 rfl rfl (by decide) (by decide) d_Lc_init_16 (fun q6 => ?_)
  refine c_dup (pc := 19) C d_Lc_init_19 rfl ?_
  refine c_callN (pc := 20) 10 94 C (k_Ho_init) mc_Ho_init rfl (List.mem_of_getElem? (i := 0) rfl) (Nat.le_of_ble_eq_true rfl) (by decide) (by decide) rfl rfl (by decide) (by decide) d_Lc_init_20 (fun u1 hu1 => ?_)
  obtain ⟨q7, q8, q9, q10, rfl⟩ := hu1
  refine c_putF (pc := 23) (j := 0) (k := 1) [(h0, .inr (6, [.ref q1, .ref q6, .null, .null, .null, .null, .null, .null, .null, .null, .int 0, .int 0, .int 0, .int 0])), (q1, .inr (2, [.ref q2, .ref q3, .ref q4, .ref q5, .int 0, .int 0, .int 0])), (q2, .inl (yI Y, (4, .inl (fun _ => 0)))), (q3, .inl (yI Y, (4, .inl (fun _ => 0)))), (q4, .inl (yI Y, (12, .inl (fun _ => 0)))), (q5, .inl (yI Y, (20, .inl (fun _ => 0)))), (q6, .inr (2, [.ref q7, .ref q8, .ref q9, .ref q10, .int 0, .int 0, .int 0])), (q7, .inl (yI Y, (4, .inl (fun _ => 0)))), (q8, .inl (yI Y, (4, .inl (fun _ => 0)))), (q9, .inl (yI Y, (12, .inl (fun _ => 0)))), (q10, .inl (yI Y, (20, .inl (fun _ => 0))))] C hi rfl (by decide) (by decide) wd_231 rfl rfl rfl rfl (Nat.le_of_ble_eq_true rfl) rfl d_Lc_init_23 ?_
  refine c_aload_n (pc := 26) C d_Lc_init_26 rfl 0 rfl ?_
  refine c_new (pc := 27) 0 11 100 C (by decide) wd_128 wd_129 wd_67 rfl rfl (by decide) (by decide) d_Lc_init_27 (fun q11 => ?_)
  refine c_dup (pc := 30) C d_Lc_init_30 rfl ?_
  refine c_callN (pc := 31) 13 184 C (k_Do_init) mc_Do_init rfl (List.mem_of_getElem? (i := 1) rfl) (Nat.le_of_ble_eq_true rfl) (by decide) (by decide) rfl rfl (by decide) (by decide) d_Lc_init_31 (fun u1 hu1 => ?_)
  obtain ⟨q12, q13, rfl⟩ := hu1
  refine c_putF (pc := 34) (j := 0) (k := 2) [(h0, .inr (6, [.ref q1, .ref q6, .ref q11, .null, .null, .null, .null, .null, .null, .null, .int 0, .int 0, .int 0, .int 0])), (q1, .inr (2, [.ref q2, .ref q3, .ref q4, .ref q5, .int 0, .int 0, .int 0])), (q2, .inl (yI Y, (4, .inl (fun _ => 0)))), (q3, .inl (yI Y, (4, .inl (fun _ => 0)))), (q4, .inl (yI Y, (12, .inl (fun _ => 0)))), (q5, .inl (yI Y, (20, .inl (fun _ => 0)))), (q6, .inr (2, [.ref q7, .ref q8, .ref q9, .ref q10, .int 0, .int 0, .int 0])), (q7, .inl (yI Y, (4, .inl (fun _ => 0)))), (q8, .inl (yI Y, (4, .inl (fun _ => 0)))), (q9, .inl (yI Y, (12, .inl (fun _ => 0)))), (q10, .inl (yI Y, (20, .inl (fun _ => 0)))), (q11, .inr (0, [.ref q12, .ref q13, .int 0, .int 0, .int 0, .int 0])), (q12, .inl (yI Y, (80, .inl (fun _ => 0)))), (q13, .inl (yI Y, (4, .inl (fun _ => 0))))] C hi rfl (by decide) (by decide) wd_232 rfl rfl rfl rfl (Nat.le_of_ble_eq_true rfl) rfl d_Lc_init_34 ?_
  refine c_aload_n (pc := 37) C d_Lc_init_37 rfl 0 rfl ?_
  refine c_new (pc := 38) 0 14 190 C (by decide) wd_128 wd_129 wd_67 rfl rfl (by decide) (by decide) d_Lc_init_38 (fun q14 => ?_)
  refine c_dup (pc := 41) C d_Lc_init_41 rfl ?_
  refine c_callN (pc := 42) 16 274 C (k_Do_init) mc_Do_init rfl (List.mem_of_getElem? (i := 1) rfl) (Nat.le_of_ble_eq_true rfl) (by decide) (by decide) rfl rfl (by decide) (by decide) d_Lc_init_42 (fun u1 hu1 => ?_)
  obtain ⟨q15, q16, rfl⟩ := hu1
  refine c_putF (pc := 45) (j := 0) (k := 3) [(h0, .inr (6, [.ref q1, .ref q6, .ref q11, .ref q14, .null, .null, .null, .null, .null, .null, .int 0, .int 0, .int 0, .int 0])), (q1, .inr (2, [.ref q2, .ref q3, .ref q4, .ref q5, .int 0, .int 0, .int 0])), (q2, .inl (yI Y, (4, .inl (fun _ => 0)))), (q3, .inl (yI Y, (4, .inl (fun _ => 0)))), (q4, .inl (yI Y, (12, .inl (fun _ => 0)))), (q5, .inl (yI Y, (20, .inl (fun _ => 0)))), (q6, .inr (2, [.ref q7, .ref q8, .ref q9, .ref q10, .int 0, .int 0, .int 0])), (q7, .inl (yI Y, (4, .inl (fun _ => 0)))), (q8, .inl (yI Y, (4, .inl (fun _ => 0)))), (q9, .inl (yI Y, (12, .inl (fun _ => 0)))), (q10, .inl (yI Y, (20, .inl (fun _ => 0)))), (q11, .inr (0, [.ref q12, .ref q13, .int 0, .int 0, .int 0, .int 0])), (q12, .inl (yI Y, (80, .inl (fun _ => 0)))), (q13, .inl (yI Y, (4, .inl (fun _ => 0)))), (q14, .inr (0, [.ref q15, .ref q16, .int 0, .int 0, .int 0, .int 0])), (q15, .inl (yI Y, (80, .inl (fun _ => 0)))), (q16, .inl (yI Y, (4, .inl (fun _ => 0))))] C hi rfl (by decide) (by decide) wd_233 rfl rfl rfl rfl (Nat.le_of_ble_eq_true rfl) rfl d_Lc_init_45 ?_
  refine c_aload_n (pc := 48) C d_Lc_init_48 rfl 0 rfl ?_
  refine c_new (pc := 49) 5 17 280 C (by decide) wd_155 wd_156 wd_68 rfl rfl (by decide) (by decide) d_Lc_init_49 (fun q17 => ?_)
  refine c_dup (pc := 52) C d_Lc_init_52 rfl ?_
  refine c_callN (pc := 53) 22 7192 C (k_Un_init) mc_Un_init rfl (List.mem_of_getElem? (i := 2) rfl) (Nat.le_of_ble_eq_true rfl) (by decide) (by decide) rfl rfl (by decide) (by decide) d_Lc_init_53 (fun u1 hu1 => ?_)
  obtain ⟨q18, q19, q20, q21, q22, rfl⟩ := hu1
  refine c_putF (pc := 56) (j := 0) (k := 4) [(h0, .inr (6, [.ref q1, .ref q6, .ref q11, .ref q14, .ref q17, .null, .null, .null, .null, .null, .int 0, .int 0, .int 0, .int 0])), (q1, .inr (2, [.ref q2, .ref q3, .ref q4, .ref q5, .int 0, .int 0, .int 0])), (q2, .inl (yI Y, (4, .inl (fun _ => 0)))), (q3, .inl (yI Y, (4, .inl (fun _ => 0)))), (q4, .inl (yI Y, (12, .inl (fun _ => 0)))), (q5, .inl (yI Y, (20, .inl (fun _ => 0)))), (q6, .inr (2, [.ref q7, .ref q8, .ref q9, .ref q10, .int 0, .int 0, .int 0])), (q7, .inl (yI Y, (4, .inl (fun _ => 0)))), (q8, .inl (yI Y, (4, .inl (fun _ => 0)))), (q9, .inl (yI Y, (12, .inl (fun _ => 0)))), (q10, .inl (yI Y, (20, .inl (fun _ => 0)))), (q11, .inr (0, [.ref q12, .ref q13, .int 0, .int 0, .int 0, .int 0])), (q12, .inl (yI Y, (80, .inl (fun _ => 0)))), (q13, .inl (yI Y, (4, .inl (fun _ => 0)))), (q14, .inr (0, [.ref q15, .ref q16, .int 0, .int 0, .int 0, .int 0])), (q15, .inl (yI Y, (80, .inl (fun _ => 0)))), (q16, .inl (yI Y, (4, .inl (fun _ => 0)))), (q17, .inr (5, [.ref q18, .ref q19, .ref q20, .ref q21, .ref q22, .int 0])), (q18, .inl (yI Y, (256, .inl (fun _ => 0)))), (q19, .inl (yI Y, (1024, .inl (fun _ => 0)))), (q20, .inl (yI Y, (5120, .inl (fun _ => 0)))), (q21, .inl (yI Y, (256, .inl (fun _ => 0)))), (q22, .inl (yI Y, (256, .inl (fun _ => 0))))] C hi rfl (by decide) (by decide) wd_234 rfl rfl rfl rfl (Nat.le_of_ble_eq_true rfl) rfl d_Lc_init_56 ?_
  refine c_aload_n (pc := 59) C d_Lc_init_59 rfl 0 rfl ?_
  refine c_new (pc := 60) 4 23 7194 C (by decide) wd_180 wd_181 wd_69 rfl rfl (by decide) (by decide) d_Lc_init_60 (fun q23 => ?_)
  refine c_dup (pc := 63) C d_Lc_init_63 rfl ?_
  refine c_callN (pc := 64) 28 7241 C (k_Tr_init) mc_Tr_init rfl (List.mem_of_getElem? (i := 3) rfl) (Nat.le_of_ble_eq_true rfl) (by decide) (by decide) rfl rfl (by decide) (by decide) d_Lc_init_64 (fun u1 hu1 => ?_)
  obtain ⟨q24, q25, q26, q27, q28, rfl⟩ := hu1
  refine c_putF (pc := 67) (j := 0) (k := 5) [(h0, .inr (6, [.ref q1, .ref q6, .ref q11, .ref q14, .ref q17, .ref q23, .null, .null, .null, .null, .int 0, .int 0, .int 0, .int 0])), (q1, .inr (2, [.ref q2, .ref q3, .ref q4, .ref q5, .int 0, .int 0, .int 0])), (q2, .inl (yI Y, (4, .inl (fun _ => 0)))), (q3, .inl (yI Y, (4, .inl (fun _ => 0)))), (q4, .inl (yI Y, (12, .inl (fun _ => 0)))), (q5, .inl (yI Y, (20, .inl (fun _ => 0)))), (q6, .inr (2, [.ref q7, .ref q8, .ref q9, .ref q10, .int 0, .int 0, .int 0])), (q7, .inl (yI Y, (4, .inl (fun _ => 0)))), (q8, .inl (yI Y, (4, .inl (fun _ => 0)))), (q9, .inl (yI Y, (12, .inl (fun _ => 0)))), (q10, .inl (yI Y, (20, .inl (fun _ => 0)))), (q11, .inr (0, [.ref q12, .ref q13, .int 0, .int 0, .int 0, .int 0])), (q12, .inl (yI Y, (80, .inl (fun _ => 0)))), (q13, .inl (yI Y, (4, .inl (fun _ => 0)))), (q14, .inr (0, [.ref q15, .ref q16, .int 0, .int 0, .int 0, .int 0])), (q15, .inl (yI Y, (80, .inl (fun _ => 0)))), (q16, .inl (yI Y, (4, .inl (fun _ => 0)))), (q17, .inr (5, [.ref q18, .ref q19, .ref q20, .ref q21, .ref q22, .int 0])), (q18, .inl (yI Y, (256, .inl (fun _ => 0)))), (q19, .inl (yI Y, (1024, .inl (fun _ => 0)))), (q20, .inl (yI Y, (5120, .inl (fun _ => 0)))), (q21, .inl (yI Y, (256, .inl (fun _ => 0)))), (q22, .inl (yI Y, (256, .inl (fun _ => 0)))), (q23, .inr (4, [.ref q24, .int 0])), (q24, .inr (2, [.ref q25, .ref q26, .ref q27, .ref q28, .int 0, .int 0, .int 0])), (q25, .inl (yI Y, (4, .inl (fun _ => 0)))), (q26, .inl (yI Y, (4, .inl (fun _ => 0)))), (q27, .inl (yI Y, (12, .inl (fun _ => 0)))), (q28, .inl (yI Y, (20, .inl (fun _ => 0))))] C hi rfl (by decide) (by decide) wd_235 rfl rfl rfl rfl (Nat.le_of_ble_eq_true rfl) rfl d_Lc_init_67 ?_
  refine c_aload_n (pc := 70) C d_Lc_init_70 rfl 0 rfl ?_
  refine c_new (pc := 71) 1 29 7243 C (by decide) wd_196 wd_197 wd_70 rfl rfl (by decide) (by decide) d_Lc_init_71 (fun q29 => ?_)
  refine c_dup (pc := 74) C d_Lc_init_74 rfl ?_
  refine c_callN (pc := 75) 31 7483 C (k_Gu_init) mc_Gu_init rfl (List.mem_of_getElem? (i := 5) rfl) (Nat.le_of_ble_eq_true rfl) (by decide) (by decide) rfl rfl (by decide) (by decide) d_Lc_init_75 (fun u1 hu1 => ?_)
  obtain ⟨q30, q31, rfl⟩ := hu1
  refine c_putF (pc := 78) (j := 0) (k := 6) [(h0, .inr (6, [.ref q1, .ref q6, .ref q11, .ref q14, .ref q17, .ref q23, .ref q29, .null, .null, .null, .int 0, .int 0, .int 0, .int 0])), (q1, .inr (2, [.ref q2, .ref q3, .ref q4, .ref q5, .int 0, .int 0, .int 0])), (q2, .inl (yI Y, (4, .inl (fun _ => 0)))), (q3, .inl (yI Y, (4, .inl (fun _ => 0)))), (q4, .inl (yI Y, (12, .inl (fun _ => 0)))), (q5, .inl (yI Y, (20, .inl (fun _ => 0)))), (q6, .inr (2, [.ref q7, .ref q8, .ref q9, .ref q10, .int 0, .int 0, .int 0])), (q7, .inl (yI Y, (4, .inl (fun _ => 0)))), (q8, .inl (yI Y, (4, .inl (fun _ => 0)))), (q9, .inl (yI Y, (12, .inl (fun _ => 0)))), (q10, .inl (yI Y, (20, .inl (fun _ => 0)))), (q11, .inr (0, [.ref q12, .ref q13, .int 0, .int 0, .int 0, .int 0])), (q12, .inl (yI Y, (80, .inl (fun _ => 0)))), (q13, .inl (yI Y, (4, .inl (fun _ => 0)))), (q14, .inr (0, [.ref q15, .ref q16, .int 0, .int 0, .int 0, .int 0])), (q15, .inl (yI Y, (80, .inl (fun _ => 0)))), (q16, .inl (yI Y, (4, .inl (fun _ => 0)))), (q17, .inr (5, [.ref q18, .ref q19, .ref q20, .ref q21, .ref q22, .int 0])), (q18, .inl (yI Y, (256, .inl (fun _ => 0)))), (q19, .inl (yI Y, (1024, .inl (fun _ => 0)))), (q20, .inl (yI Y, (5120, .inl (fun _ => 0)))), (q21, .inl (yI Y, (256, .inl (fun _ => 0)))), (q22, .inl (yI Y, (256, .inl (fun _ => 0)))), (q23, .inr (4, [.ref q24, .int 0])), (q24, .inr (2, [.ref q25, .ref q26, .ref q27, .ref q28, .int 0, .int 0, .int 0])), (q25, .inl (yI Y, (4, .inl (fun _ => 0)))), (q26, .inl (yI Y, (4, .inl (fun _ => 0)))), (q27, .inl (yI Y, (12, .inl (fun _ => 0)))), (q28, .inl (yI Y, (20, .inl (fun _ => 0)))), (q29, .inr (1, [.ref q30, .ref q31])), (q30, .inl (yZ Y, (48, .inl (fun _ => 0)))), (q31, .inl (yI Y, (192, .inl (fun _ => 0))))] C hi rfl (by decide) (by decide) wd_236 rfl rfl rfl rfl (Nat.le_of_ble_eq_true rfl) rfl d_Lc_init_78 ?_
  refine c_aload_n (pc := 81) C d_Lc_init_81 rfl 0 rfl ?_
  refine c_iconst (pc := 82) (v := 4) C d_Lc_init_82 (by decide) ?_
  refine c_newS (pc := 83) (N := 4) 32 7487 C wd_210 (by decide) (by decide) (by decide) rfl rfl (by decide) (by decide) d_Lc_init_83 (fun q32 => ?_)
  refine c_putF (pc := 86) (j := 0) (k := 7) [(h0, .inr (6, [.ref q1, .ref q6, .ref q11, .ref q14, .ref q17, .ref q23, .ref q29, .ref q32, .null, .null, .int 0, .int 0, .int 0, .int 0])), (q1, .inr (2, [.ref q2, .ref q3, .ref q4, .ref q5, .int 0, .int 0, .int 0])), (q2, .inl (yI Y, (4, .inl (fun _ => 0)))), (q3, .inl (yI Y, (4, .inl (fun _ => 0)))), (q4, .inl (yI Y, (12, .inl (fun _ => 0)))), (q5, .inl (yI Y, (20, .inl (fun _ => 0)))), (q6, .inr (2, [.ref q7, .ref q8, .ref q9, .ref q10, .int 0, .int 0, .int 0])), (q7, .inl (yI Y, (4, .inl (fun _ => 0)))), (q8, .inl (yI Y, (4, .inl (fun _ => 0)))), (q9, .inl (yI Y, (12, .inl (fun _ => 0)))), (q10, .inl (yI Y, (20, .inl (fun _ => 0)))), (q11, .inr (0, [.ref q12, .ref q13, .int 0, .int 0, .int 0, .int 0])), (q12, .inl (yI Y, (80, .inl (fun _ => 0)))), (q13, .inl (yI Y, (4, .inl (fun _ => 0)))), (q14, .inr (0, [.ref q15, .ref q16, .int 0, .int 0, .int 0, .int 0])), (q15, .inl (yI Y, (80, .inl (fun _ => 0)))), (q16, .inl (yI Y, (4, .inl (fun _ => 0)))), (q17, .inr (5, [.ref q18, .ref q19, .ref q20, .ref q21, .ref q22, .int 0])), (q18, .inl (yI Y, (256, .inl (fun _ => 0)))), (q19, .inl (yI Y, (1024, .inl (fun _ => 0)))), (q20, .inl (yI Y, (5120, .inl (fun _ => 0)))), (q21, .inl (yI Y, (256, .inl (fun _ => 0)))), (q22, .inl (yI Y, (256, .inl (fun _ => 0)))), (q23, .inr (4, [.ref q24, .int 0])), (q24, .inr (2, [.ref q25, .ref q26, .ref q27, .ref q28, .int 0, .int 0, .int 0])), (q25, .inl (yI Y, (4, .inl (fun _ => 0)))), (q26, .inl (yI Y, (4, .inl (fun _ => 0)))), (q27, .inl (yI Y, (12, .inl (fun _ => 0)))), (q28, .inl (yI Y, (20, .inl (fun _ => 0)))), (q29, .inr (1, [.ref q30, .ref q31])), (q30, .inl (yZ Y, (48, .inl (fun _ => 0)))), (q31, .inl (yI Y, (192, .inl (fun _ => 0)))), (q32, .inl (yS Y, (4, .inr (.inr (.inr (.inr (fun _ => none)))))))] C hi rfl (by decide) (by decide) wd_237 rfl rfl rfl rfl (Nat.le_of_ble_eq_true rfl) rfl d_Lc_init_86 ?_
  refine c_aload_n (pc := 89) C d_Lc_init_89 rfl 0 rfl ?_
  refine c_bipush (pc := 90) (v := 8) C d_Lc_init_90 (by decide) ?_
  refine c_newI (pc := 92) (N := 8) 33 7495 C wd_127 (by decide) (by decide) (by decide) rfl rfl (by decide) (by decide) d_Lc_init_92 (fun q33 => ?_)
  refine c_putF (pc := 94) (j := 0) (k := 8) [(h0, .inr (6, [.ref q1, .ref q6, .ref q11, .ref q14, .ref q17, .ref q23, .ref q29, .ref q32, .ref q33, .null, .int 0, .int 0, .int 0, .int 0])), (q1, .inr (2, [.ref q2, .ref q3, .ref q4, .ref q5, .int 0, .int 0, .int 0])), (q2, .inl (yI Y, (4, .inl (fun _ => 0)))), (q3, .inl (yI Y, (4, .inl (fun _ => 0)))), (q4, .inl (yI Y, (12, .inl (fun _ => 0)))), (q5, .inl (yI Y, (20, .inl (fun _ => 0)))), (q6, .inr (2, [.ref q7, .ref q8, .ref q9, .ref q10, .int 0, .int 0, .int 0])), (q7, .inl (yI Y, (4, .inl (fun _ => 0)))), (q8, .inl (yI Y, (4, .inl (fun _ => 0)))), (q9, .inl (yI Y, (12, .inl (fun _ => 0)))), (q10, .inl (yI Y, (20, .inl (fun _ => 0)))), (q11, .inr (0, [.ref q12, .ref q13, .int 0, .int 0, .int 0, .int 0])), (q12, .inl (yI Y, (80, .inl (fun _ => 0)))), (q13, .inl (yI Y, (4, .inl (fun _ => 0)))), (q14, .inr (0, [.ref q15, .ref q16, .int 0, .int 0, .int 0, .int 0])), (q15, .inl (yI Y, (80, .inl (fun _ => 0)))), (q16, .inl (yI Y, (4, .inl (fun _ => 0)))), (q17, .inr (5, [.ref q18, .ref q19, .ref q20, .ref q21, .ref q22, .int 0])), (q18, .inl (yI Y, (256, .inl (fun _ => 0)))), (q19, .inl (yI Y, (1024, .inl (fun _ => 0)))), (q20, .inl (yI Y, (5120, .inl (fun _ => 0)))), (q21, .inl (yI Y, (256, .inl (fun _ => 0)))), (q22, .inl (yI Y, (256, .inl (fun _ => 0)))), (q23, .inr (4, [.ref q24, .int 0])), (q24, .inr (2, [.ref q25, .ref q26, .ref q27, .ref q28, .int 0, .int 0, .int 0])), (q25, .inl (yI Y, (4, .inl (fun _ => 0)))), (q26, .inl (yI Y, (4, .inl (fun _ => 0)))), (q27, .inl (yI Y, (12, .inl (fun _ => 0)))), (q28, .inl (yI Y, (20, .inl (fun _ => 0)))), (q29, .inr (1, [.ref q30, .ref q31])), (q30, .inl (yZ Y, (48, .inl (fun _ => 0)))), (q31, .inl (yI Y, (192, .inl (fun _ => 0)))), (q32, .inl (yS Y, (4, .inr (.inr (.inr (.inr (fun _ => none))))))), (q33, .inl (yI Y, (8, .inl (fun _ => 0))))] C hi rfl (by decide) (by decide) wd_238 rfl rfl rfl rfl (Nat.le_of_ble_eq_true rfl) rfl d_Lc_init_94 ?_
  refine c_aload_n (pc := 97) C d_Lc_init_97 rfl 0 rfl ?_
  refine c_bipush (pc := 98) (v := 8) C d_Lc_init_98 (by decide) ?_
  refine c_newI (pc := 100) (N := 8) 34 7503 C wd_127 (by decide) (by decide) (by decide) rfl rfl (by decide) (by decide) d_Lc_init_100 (fun q34 => ?_)
  refine c_putF (pc := 102) (j := 0) (k := 9) [(h0, .inr (6, [.ref q1, .ref q6, .ref q11, .ref q14, .ref q17, .ref q23, .ref q29, .ref q32, .ref q33, .ref q34, .int 0, .int 0, .int 0, .int 0])), (q1, .inr (2, [.ref q2, .ref q3, .ref q4, .ref q5, .int 0, .int 0, .int 0])), (q2, .inl (yI Y, (4, .inl (fun _ => 0)))), (q3, .inl (yI Y, (4, .inl (fun _ => 0)))), (q4, .inl (yI Y, (12, .inl (fun _ => 0)))), (q5, .inl (yI Y, (20, .inl (fun _ => 0)))), (q6, .inr (2, [.ref q7, .ref q8, .ref q9, .ref q10, .int 0, .int 0, .int 0])), (q7, .inl (yI Y, (4, .inl (fun _ => 0)))), (q8, .inl (yI Y, (4, .inl (fun _ => 0)))), (q9, .inl (yI Y, (12, .inl (fun _ => 0)))), (q10, .inl (yI Y, (20, .inl (fun _ => 0)))), (q11, .inr (0, [.ref q12, .ref q13, .int 0, .int 0, .int 0, .int 0])), (q12, .inl (yI Y, (80, .inl (fun _ => 0)))), (q13, .inl (yI Y, (4, .inl (fun _ => 0)))), (q14, .inr (0, [.ref q15, .ref q16, .int 0, .int 0, .int 0, .int 0])), (q15, .inl (yI Y, (80, .inl (fun _ => 0)))), (q16, .inl (yI Y, (4, .inl (fun _ => 0)))), (q17, .inr (5, [.ref q18, .ref q19, .ref q20, .ref q21, .ref q22, .int 0])), (q18, .inl (yI Y, (256, .inl (fun _ => 0)))), (q19, .inl (yI Y, (1024, .inl (fun _ => 0)))), (q20, .inl (yI Y, (5120, .inl (fun _ => 0)))), (q21, .inl (yI Y, (256, .inl (fun _ => 0)))), (q22, .inl (yI Y, (256, .inl (fun _ => 0)))), (q23, .inr (4, [.ref q24, .int 0])), (q24, .inr (2, [.ref q25, .ref q26, .ref q27, .ref q28, .int 0, .int 0, .int 0])), (q25, .inl (yI Y, (4, .inl (fun _ => 0)))), (q26, .inl (yI Y, (4, .inl (fun _ => 0)))), (q27, .inl (yI Y, (12, .inl (fun _ => 0)))), (q28, .inl (yI Y, (20, .inl (fun _ => 0)))), (q29, .inr (1, [.ref q30, .ref q31])), (q30, .inl (yZ Y, (48, .inl (fun _ => 0)))), (q31, .inl (yI Y, (192, .inl (fun _ => 0)))), (q32, .inl (yS Y, (4, .inr (.inr (.inr (.inr (fun _ => none))))))), (q33, .inl (yI Y, (8, .inl (fun _ => 0)))), (q34, .inl (yI Y, (8, .inl (fun _ => 0))))] C hi rfl (by decide) (by decide) wd_239 rfl rfl rfl rfl (Nat.le_of_ble_eq_true rfl) rfl d_Lc_init_102 ?_
  refine c_iconst (pc := 105) (v := 0) C d_Lc_init_105 (by decide) ?_
  refine c_istore_n (pc := 106) [(1, .int 0), (0, .ref h0)] C d_Lc_init_106 rfl (by decide) rfl ?_
  refine c_iload_n (pc := 107) C d_Lc_init_107 rfl 0 rfl ?_
  refine c_iconst (pc := 108) (v := 4) C d_Lc_init_108 (by decide) ?_
  refine c_icmp_ge (pc := 109) 131 C d_Lc_init_109 (by decide) (fun hc => absurd hc (by decide)) (fun _ => ?_)
  refine c_aload_n (pc := 112) C d_Lc_init_112 rfl 1 rfl ?_
  refine c_get (pc := 113) (j := 0) (k := 7) C rfl (by decide) (by decide) wd_237 rfl d_Lc_init_113 ?_
  refine c_iload_n (pc := 116) C d_Lc_init_116 rfl 0 rfl ?_
  refine c_new (pc := 117) 3 35 7506 C (by decide) wd_210 wd_212 wd_71 rfl rfl (by decide) (by decide) d_Lc_init_117 (fun q35 => ?_)
  refine c_dup (pc := 120) C d_Lc_init_120 rfl ?_
  refine c_callN (pc := 121) 36 7566 C (k_Sh_init) mc_Sh_init rfl (List.mem_of_getElem? (i := 6) rfl) (Nat.le_of_ble_eq_true rfl) (by decide) (by decide) rfl rfl (by decide) (by decide) d_Lc_init_121 (fun u1 hu1 => ?_)
  obtain ⟨q36, rfl⟩ := hu1
  refine c_aast (pc := 124) (j := 32) (jv := 35) [(h0, .inr (6, [.ref q1, .ref q6, .ref q11, .ref q14, .ref q17, .ref q23, .ref q29, .ref q32, .ref q33, .ref q34, .int 0, .int 0, .int 0, .int 0])), (q1, .inr (2, [.ref q2, .ref q3, .ref q4, .ref q5, .int 0, .int 0, .int 0])), (q2, .inl (yI Y, (4, .inl (fun _ => 0)))), (q3, .inl (yI Y, (4, .inl (fun _ => 0)))), (q4, .inl (yI Y, (12, .inl (fun _ => 0)))), (q5, .inl (yI Y, (20, .inl (fun _ => 0)))), (q6, .inr (2, [.ref q7, .ref q8, .ref q9, .ref q10, .int 0, .int 0, .int 0])), (q7, .inl (yI Y, (4, .inl (fun _ => 0)))), (q8, .inl (yI Y, (4, .inl (fun _ => 0)))), (q9, .inl (yI Y, (12, .inl (fun _ => 0)))), (q10, .inl (yI Y, (20, .inl (fun _ => 0)))), (q11, .inr (0, [.ref q12, .ref q13, .int 0, .int 0, .int 0, .int 0])), (q12, .inl (yI Y, (80, .inl (fun _ => 0)))), (q13, .inl (yI Y, (4, .inl (fun _ => 0)))), (q14, .inr (0, [.ref q15, .ref q16, .int 0, .int 0, .int 0, .int 0])), (q15, .inl (yI Y, (80, .inl (fun _ => 0)))), (q16, .inl (yI Y, (4, .inl (fun _ => 0)))), (q17, .inr (5, [.ref q18, .ref q19, .ref q20, .ref q21, .ref q22, .int 0])), (q18, .inl (yI Y, (256, .inl (fun _ => 0)))), (q19, .inl (yI Y, (1024, .inl (fun _ => 0)))), (q20, .inl (yI Y, (5120, .inl (fun _ => 0)))), (q21, .inl (yI Y, (256, .inl (fun _ => 0)))), (q22, .inl (yI Y, (256, .inl (fun _ => 0)))), (q23, .inr (4, [.ref q24, .int 0])), (q24, .inr (2, [.ref q25, .ref q26, .ref q27, .ref q28, .int 0, .int 0, .int 0])), (q25, .inl (yI Y, (4, .inl (fun _ => 0)))), (q26, .inl (yI Y, (4, .inl (fun _ => 0)))), (q27, .inl (yI Y, (12, .inl (fun _ => 0)))), (q28, .inl (yI Y, (20, .inl (fun _ => 0)))), (q29, .inr (1, [.ref q30, .ref q31])), (q30, .inl (yZ Y, (48, .inl (fun _ => 0)))), (q31, .inl (yI Y, (192, .inl (fun _ => 0)))), (q32, .inl (yS Y, (4, .inr (.inr (.inr (.inr (va_up (fun _ => none) (0 : Int32).toNatClampNeg (some q35)))))))), (q33, .inl (yI Y, (8, .inl (fun _ => 0)))), (q34, .inl (yI Y, (8, .inl (fun _ => 0)))), (q35, .inr (3, [.ref q36, .int 0, .int (-1)])), (q36, .inl (yI Y, (60, .inl (fun _ => 0))))] C rfl rfl (by unfold vp_in; decide) rfl d_Lc_init_124 ?_
  refine c_iinc (pc := 125) 1 [(1, .int 1), (0, .ref h0)] C d_Lc_init_125 0 rfl (by decide) (by decide) rfl ?_
  refine c_goto (pc := 128) 107 C d_Lc_init_128 (by decide) ?_
  refine c_iload_n (pc := 107) C d_Lc_init_107 rfl 0 rfl ?_
  refine c_iconst (pc := 108) (v := 4) C d_Lc_init_108 (by decide) ?_
  refine c_icmp_ge (pc := 109) 131 C d_Lc_init_109 (by decide) (fun hc => absurd hc (by decide)) (fun _ => ?_)
  refine c_aload_n (pc := 112) C d_Lc_init_112 rfl 1 rfl ?_
  refine c_get (pc := 113) (j := 0) (k := 7) C rfl (by decide) (by decide) wd_237 rfl d_Lc_init_113 ?_
  refine c_iload_n (pc := 116) C d_Lc_init_116 rfl 0 rfl ?_
  refine c_new (pc := 117) 3 37 7569 C (by decide) wd_210 wd_212 wd_71 rfl rfl (by decide) (by decide) d_Lc_init_117 (fun q37 => ?_)
  refine c_dup (pc := 120) C d_Lc_init_120 rfl ?_
  refine c_callN (pc := 121) 38 7629 C (k_Sh_init) mc_Sh_init rfl (List.mem_of_getElem? (i := 6) rfl) (Nat.le_of_ble_eq_true rfl) (by decide) (by decide) rfl rfl (by decide) (by decide) d_Lc_init_121 (fun u1 hu1 => ?_)
  obtain ⟨q38, rfl⟩ := hu1
  refine c_aast (pc := 124) (j := 32) (jv := 37) [(h0, .inr (6, [.ref q1, .ref q6, .ref q11, .ref q14, .ref q17, .ref q23, .ref q29, .ref q32, .ref q33, .ref q34, .int 0, .int 0, .int 0, .int 0])), (q1, .inr (2, [.ref q2, .ref q3, .ref q4, .ref q5, .int 0, .int 0, .int 0])), (q2, .inl (yI Y, (4, .inl (fun _ => 0)))), (q3, .inl (yI Y, (4, .inl (fun _ => 0)))), (q4, .inl (yI Y, (12, .inl (fun _ => 0)))), (q5, .inl (yI Y, (20, .inl (fun _ => 0)))), (q6, .inr (2, [.ref q7, .ref q8, .ref q9, .ref q10, .int 0, .int 0, .int 0])), (q7, .inl (yI Y, (4, .inl (fun _ => 0)))), (q8, .inl (yI Y, (4, .inl (fun _ => 0)))), (q9, .inl (yI Y, (12, .inl (fun _ => 0)))), (q10, .inl (yI Y, (20, .inl (fun _ => 0)))), (q11, .inr (0, [.ref q12, .ref q13, .int 0, .int 0, .int 0, .int 0])), (q12, .inl (yI Y, (80, .inl (fun _ => 0)))), (q13, .inl (yI Y, (4, .inl (fun _ => 0)))), (q14, .inr (0, [.ref q15, .ref q16, .int 0, .int 0, .int 0, .int 0])), (q15, .inl (yI Y, (80, .inl (fun _ => 0)))), (q16, .inl (yI Y, (4, .inl (fun _ => 0)))), (q17, .inr (5, [.ref q18, .ref q19, .ref q20, .ref q21, .ref q22, .int 0])), (q18, .inl (yI Y, (256, .inl (fun _ => 0)))), (q19, .inl (yI Y, (1024, .inl (fun _ => 0)))), (q20, .inl (yI Y, (5120, .inl (fun _ => 0)))), (q21, .inl (yI Y, (256, .inl (fun _ => 0)))), (q22, .inl (yI Y, (256, .inl (fun _ => 0)))), (q23, .inr (4, [.ref q24, .int 0])), (q24, .inr (2, [.ref q25, .ref q26, .ref q27, .ref q28, .int 0, .int 0, .int 0])), (q25, .inl (yI Y, (4, .inl (fun _ => 0)))), (q26, .inl (yI Y, (4, .inl (fun _ => 0)))), (q27, .inl (yI Y, (12, .inl (fun _ => 0)))), (q28, .inl (yI Y, (20, .inl (fun _ => 0)))), (q29, .inr (1, [.ref q30, .ref q31])), (q30, .inl (yZ Y, (48, .inl (fun _ => 0)))), (q31, .inl (yI Y, (192, .inl (fun _ => 0)))), (q32, .inl (yS Y, (4, .inr (.inr (.inr (.inr (va_up (va_up (fun _ => none) (0 : Int32).toNatClampNeg (some q35)) (1 : Int32).toNatClampNeg (some q37)))))))), (q33, .inl (yI Y, (8, .inl (fun _ => 0)))), (q34, .inl (yI Y, (8, .inl (fun _ => 0)))), (q35, .inr (3, [.ref q36, .int 0, .int (-1)])), (q36, .inl (yI Y, (60, .inl (fun _ => 0)))), (q37, .inr (3, [.ref q38, .int 0, .int (-1)])), (q38, .inl (yI Y, (60, .inl (fun _ => 0))))] C rfl rfl (by unfold vp_in; decide) rfl d_Lc_init_124 ?_
  refine c_iinc (pc := 125) 2 [(1, .int 2), (0, .ref h0)] C d_Lc_init_125 0 rfl (by decide) (by decide) rfl ?_
  refine c_goto (pc := 128) 107 C d_Lc_init_128 (by decide) ?_
  refine c_iload_n (pc := 107) C d_Lc_init_107 rfl 0 rfl ?_
  refine c_iconst (pc := 108) (v := 4) C d_Lc_init_108 (by decide) ?_
  refine c_icmp_ge (pc := 109) 131 C d_Lc_init_109 (by decide) (fun hc => absurd hc (by decide)) (fun _ => ?_)
  refine c_aload_n (pc := 112) C d_Lc_init_112 rfl 1 rfl ?_
  refine c_get (pc := 113) (j := 0) (k := 7) C rfl (by decide) (by decide) wd_237 rfl d_Lc_init_113 ?_
  refine c_iload_n (pc := 116) C d_Lc_init_116 rfl 0 rfl ?_
  refine c_new (pc := 117) 3 39 7632 C (by decide) wd_210 wd_212 wd_71 rfl rfl (by decide) (by decide) d_Lc_init_117 (fun q39 => ?_)
  refine c_dup (pc := 120) C d_Lc_init_120 rfl ?_
  refine c_callN (pc := 121) 40 7692 C (k_Sh_init) mc_Sh_init rfl (List.mem_of_getElem? (i := 6) rfl) (Nat.le_of_ble_eq_true rfl) (by decide) (by decide) rfl rfl (by decide) (by decide) d_Lc_init_121 (fun u1 hu1 => ?_)
  obtain ⟨q40, rfl⟩ := hu1
  refine c_aast (pc := 124) (j := 32) (jv := 39) [(h0, .inr (6, [.ref q1, .ref q6, .ref q11, .ref q14, .ref q17, .ref q23, .ref q29, .ref q32, .ref q33, .ref q34, .int 0, .int 0, .int 0, .int 0])), (q1, .inr (2, [.ref q2, .ref q3, .ref q4, .ref q5, .int 0, .int 0, .int 0])), (q2, .inl (yI Y, (4, .inl (fun _ => 0)))), (q3, .inl (yI Y, (4, .inl (fun _ => 0)))), (q4, .inl (yI Y, (12, .inl (fun _ => 0)))), (q5, .inl (yI Y, (20, .inl (fun _ => 0)))), (q6, .inr (2, [.ref q7, .ref q8, .ref q9, .ref q10, .int 0, .int 0, .int 0])), (q7, .inl (yI Y, (4, .inl (fun _ => 0)))), (q8, .inl (yI Y, (4, .inl (fun _ => 0)))), (q9, .inl (yI Y, (12, .inl (fun _ => 0)))), (q10, .inl (yI Y, (20, .inl (fun _ => 0)))), (q11, .inr (0, [.ref q12, .ref q13, .int 0, .int 0, .int 0, .int 0])), (q12, .inl (yI Y, (80, .inl (fun _ => 0)))), (q13, .inl (yI Y, (4, .inl (fun _ => 0)))), (q14, .inr (0, [.ref q15, .ref q16, .int 0, .int 0, .int 0, .int 0])), (q15, .inl (yI Y, (80, .inl (fun _ => 0)))), (q16, .inl (yI Y, (4, .inl (fun _ => 0)))), (q17, .inr (5, [.ref q18, .ref q19, .ref q20, .ref q21, .ref q22, .int 0])), (q18, .inl (yI Y, (256, .inl (fun _ => 0)))), (q19, .inl (yI Y, (1024, .inl (fun _ => 0)))), (q20, .inl (yI Y, (5120, .inl (fun _ => 0)))), (q21, .inl (yI Y, (256, .inl (fun _ => 0)))), (q22, .inl (yI Y, (256, .inl (fun _ => 0)))), (q23, .inr (4, [.ref q24, .int 0])), (q24, .inr (2, [.ref q25, .ref q26, .ref q27, .ref q28, .int 0, .int 0, .int 0])), (q25, .inl (yI Y, (4, .inl (fun _ => 0)))), (q26, .inl (yI Y, (4, .inl (fun _ => 0)))), (q27, .inl (yI Y, (12, .inl (fun _ => 0)))), (q28, .inl (yI Y, (20, .inl (fun _ => 0)))), (q29, .inr (1, [.ref q30, .ref q31])), (q30, .inl (yZ Y, (48, .inl (fun _ => 0)))), (q31, .inl (yI Y, (192, .inl (fun _ => 0)))), (q32, .inl (yS Y, (4, .inr (.inr (.inr (.inr (va_up (va_up (va_up (fun _ => none) (0 : Int32).toNatClampNeg (some q35)) (1 : Int32).toNatClampNeg (some q37)) (2 : Int32).toNatClampNeg (some q39)))))))), (q33, .inl (yI Y, (8, .inl (fun _ => 0)))), (q34, .inl (yI Y, (8, .inl (fun _ => 0)))), (q35, .inr (3, [.ref q36, .int 0, .int (-1)])), (q36, .inl (yI Y, (60, .inl (fun _ => 0)))), (q37, .inr (3, [.ref q38, .int 0, .int (-1)])), (q38, .inl (yI Y, (60, .inl (fun _ => 0)))), (q39, .inr (3, [.ref q40, .int 0, .int (-1)])), (q40, .inl (yI Y, (60, .inl (fun _ => 0))))] C rfl rfl (by unfold vp_in; decide) rfl d_Lc_init_124 ?_
  refine c_iinc (pc := 125) 3 [(1, .int 3), (0, .ref h0)] C d_Lc_init_125 0 rfl (by decide) (by decide) rfl ?_
  refine c_goto (pc := 128) 107 C d_Lc_init_128 (by decide) ?_
  refine c_iload_n (pc := 107) C d_Lc_init_107 rfl 0 rfl ?_
  refine c_iconst (pc := 108) (v := 4) C d_Lc_init_108 (by decide) ?_
  refine c_icmp_ge (pc := 109) 131 C d_Lc_init_109 (by decide) (fun hc => absurd hc (by decide)) (fun _ => ?_)
  refine c_aload_n (pc := 112) C d_Lc_init_112 rfl 1 rfl ?_
  refine c_get (pc := 113) (j := 0) (k := 7) C rfl (by decide) (by decide) wd_237 rfl d_Lc_init_113 ?_
  refine c_iload_n (pc := 116) C d_Lc_init_116 rfl 0 rfl ?_
  refine c_new (pc := 117) 3 41 7695 C (by decide) wd_210 wd_212 wd_71 rfl rfl (by decide) (by decide) d_Lc_init_117 (fun q41 => ?_)
  refine c_dup (pc := 120) C d_Lc_init_120 rfl ?_
  refine c_callN (pc := 121) 42 7755 C (k_Sh_init) mc_Sh_init rfl (List.mem_of_getElem? (i := 6) rfl) (Nat.le_of_ble_eq_true rfl) (by decide) (by decide) rfl rfl (by decide) (by decide) d_Lc_init_121 (fun u1 hu1 => ?_)
  obtain ⟨q42, rfl⟩ := hu1
  refine c_aast (pc := 124) (j := 32) (jv := 41) [(h0, .inr (6, [.ref q1, .ref q6, .ref q11, .ref q14, .ref q17, .ref q23, .ref q29, .ref q32, .ref q33, .ref q34, .int 0, .int 0, .int 0, .int 0])), (q1, .inr (2, [.ref q2, .ref q3, .ref q4, .ref q5, .int 0, .int 0, .int 0])), (q2, .inl (yI Y, (4, .inl (fun _ => 0)))), (q3, .inl (yI Y, (4, .inl (fun _ => 0)))), (q4, .inl (yI Y, (12, .inl (fun _ => 0)))), (q5, .inl (yI Y, (20, .inl (fun _ => 0)))), (q6, .inr (2, [.ref q7, .ref q8, .ref q9, .ref q10, .int 0, .int 0, .int 0])), (q7, .inl (yI Y, (4, .inl (fun _ => 0)))), (q8, .inl (yI Y, (4, .inl (fun _ => 0)))), (q9, .inl (yI Y, (12, .inl (fun _ => 0)))), (q10, .inl (yI Y, (20, .inl (fun _ => 0)))), (q11, .inr (0, [.ref q12, .ref q13, .int 0, .int 0, .int 0, .int 0])), (q12, .inl (yI Y, (80, .inl (fun _ => 0)))), (q13, .inl (yI Y, (4, .inl (fun _ => 0)))), (q14, .inr (0, [.ref q15, .ref q16, .int 0, .int 0, .int 0, .int 0])), (q15, .inl (yI Y, (80, .inl (fun _ => 0)))), (q16, .inl (yI Y, (4, .inl (fun _ => 0)))), (q17, .inr (5, [.ref q18, .ref q19, .ref q20, .ref q21, .ref q22, .int 0])), (q18, .inl (yI Y, (256, .inl (fun _ => 0)))), (q19, .inl (yI Y, (1024, .inl (fun _ => 0)))), (q20, .inl (yI Y, (5120, .inl (fun _ => 0)))), (q21, .inl (yI Y, (256, .inl (fun _ => 0)))), (q22, .inl (yI Y, (256, .inl (fun _ => 0)))), (q23, .inr (4, [.ref q24, .int 0])), (q24, .inr (2, [.ref q25, .ref q26, .ref q27, .ref q28, .int 0, .int 0, .int 0])), (q25, .inl (yI Y, (4, .inl (fun _ => 0)))), (q26, .inl (yI Y, (4, .inl (fun _ => 0)))), (q27, .inl (yI Y, (12, .inl (fun _ => 0)))), (q28, .inl (yI Y, (20, .inl (fun _ => 0)))), (q29, .inr (1, [.ref q30, .ref q31])), (q30, .inl (yZ Y, (48, .inl (fun _ => 0)))), (q31, .inl (yI Y, (192, .inl (fun _ => 0)))), (q32, .inl (yS Y, (4, .inr (.inr (.inr (.inr (va_up (va_up (va_up (va_up (fun _ => none) (0 : Int32).toNatClampNeg (some q35)) (1 : Int32).toNatClampNeg (some q37)) (2 : Int32).toNatClampNeg (some q39)) (3 : Int32).toNatClampNeg (some q41)))))))), (q33, .inl (yI Y, (8, .inl (fun _ => 0)))), (q34, .inl (yI Y, (8, .inl (fun _ => 0)))), (q35, .inr (3, [.ref q36, .int 0, .int (-1)])), (q36, .inl (yI Y, (60, .inl (fun _ => 0)))), (q37, .inr (3, [.ref q38, .int 0, .int (-1)])), (q38, .inl (yI Y, (60, .inl (fun _ => 0)))), (q39, .inr (3, [.ref q40, .int 0, .int (-1)])), (q40, .inl (yI Y, (60, .inl (fun _ => 0)))), (q41, .inr (3, [.ref q42, .int 0, .int (-1)])), (q42, .inl (yI Y, (60, .inl (fun _ => 0))))] C rfl rfl (by unfold vp_in; decide) rfl d_Lc_init_124 ?_
  refine c_iinc (pc := 125) 4 [(1, .int 4), (0, .ref h0)] C d_Lc_init_125 0 rfl (by decide) (by decide) rfl ?_
  refine c_goto (pc := 128) 107 C d_Lc_init_128 (by decide) ?_
  refine c_iload_n (pc := 107) C d_Lc_init_107 rfl 0 rfl ?_
  refine c_iconst (pc := 108) (v := 4) C d_Lc_init_108 (by decide) ?_
  refine c_icmp_ge (pc := 109) 131 C d_Lc_init_109 (by decide) (fun _ => ?_) (fun hc => absurd (by decide) hc)
  exact c_vret (pc := 131) C hr d_Lc_init_131 ⟨q1, q2, q3, q4, q5, q6, q7, q8, q9, q10, q11, q12, q13, q14, q15, q16, q17, q18, q19, q20, q21, q22, q23, q24, q25, q26, q27, q28, q29, q30, q31, q32, q33, q34, q35, q36, q37, q38, q39, q40, q41, q42, rfl⟩
theorem d_Md_init_0 : decode prog_9_method_1_code 0 = .ok (.aload_n 0, 1) := by decide +kernel
theorem d_Md_init_1 : decode prog_9_method_1_code 1 = .ok (.invokespecial 1, 3) := by decide +kernel
theorem d_Md_init_4 : decode prog_9_method_1_code 4 = .ok (.aload_n 0, 1) := by decide +kernel
theorem d_Md_init_5 : decode prog_9_method_1_code 5 = .ok (.iconst 4, 1) := by decide +kernel
theorem d_Md_init_6 : decode prog_9_method_1_code 6 = .ok (.newarray .int, 2) := by decide +kernel
theorem d_Md_init_8 : decode prog_9_method_1_code 8 = .ok (.dup, 1) := by decide +kernel
theorem d_Md_init_9 : decode prog_9_method_1_code 9 = .ok (.iconst 0, 1) := by decide +kernel
theorem d_Md_init_10 : decode prog_9_method_1_code 10 = .ok (.bipush (-9), 2) := by decide +kernel
theorem d_Md_init_12 : decode prog_9_method_1_code 12 = .ok (.iastore, 1) := by decide +kernel
theorem d_Md_init_13 : decode prog_9_method_1_code 13 = .ok (.dup, 1) := by decide +kernel
theorem d_Md_init_14 : decode prog_9_method_1_code 14 = .ok (.iconst 1, 1) := by decide +kernel
theorem d_Md_init_15 : decode prog_9_method_1_code 15 = .ok (.bipush (-9), 2) := by decide +kernel
theorem d_Md_init_17 : decode prog_9_method_1_code 17 = .ok (.iastore, 1) := by decide +kernel
theorem d_Md_init_18 : decode prog_9_method_1_code 18 = .ok (.dup, 1) := by decide +kernel
theorem d_Md_init_19 : decode prog_9_method_1_code 19 = .ok (.iconst 2, 1) := by decide +kernel
theorem d_Md_init_20 : decode prog_9_method_1_code 20 = .ok (.bipush (-9), 2) := by decide +kernel
theorem d_Md_init_22 : decode prog_9_method_1_code 22 = .ok (.iastore, 1) := by decide +kernel
theorem d_Md_init_23 : decode prog_9_method_1_code 23 = .ok (.dup, 1) := by decide +kernel
theorem d_Md_init_24 : decode prog_9_method_1_code 24 = .ok (.iconst 3, 1) := by decide +kernel
theorem d_Md_init_25 : decode prog_9_method_1_code 25 = .ok (.bipush (-9), 2) := by decide +kernel
theorem d_Md_init_27 : decode prog_9_method_1_code 27 = .ok (.iastore, 1) := by decide +kernel
theorem d_Md_init_28 : decode prog_9_method_1_code 28 = .ok (.putfield 9, 3) := by decide +kernel
theorem d_Md_init_31 : decode prog_9_method_1_code 31 = .ok (.aload_n 0, 1) := by decide +kernel
theorem d_Md_init_32 : decode prog_9_method_1_code 32 = .ok (.iconst 4, 1) := by decide +kernel
theorem d_Md_init_33 : decode prog_9_method_1_code 33 = .ok (.newarray .int, 2) := by decide +kernel
theorem d_Md_init_35 : decode prog_9_method_1_code 35 = .ok (.putfield 13, 3) := by decide +kernel
theorem d_Md_init_38 : decode prog_9_method_1_code 38 = .ok (.aload_n 0, 1) := by decide +kernel
theorem d_Md_init_39 : decode prog_9_method_1_code 39 = .ok (.sipush 240, 3) := by decide +kernel
theorem d_Md_init_42 : decode prog_9_method_1_code 42 = .ok (.newarray .int, 2) := by decide +kernel
theorem d_Md_init_44 : decode prog_9_method_1_code 44 = .ok (.putfield 16, 3) := by decide +kernel
theorem d_Md_init_47 : decode prog_9_method_1_code 47 = .ok (.aload_n 0, 1) := by decide +kernel
theorem d_Md_init_48 : decode prog_9_method_1_code 48 = .ok (.iconst 4, 1) := by decide +kernel
theorem d_Md_init_49 : decode prog_9_method_1_code 49 = .ok (.newarray .int, 2) := by decide +kernel
theorem d_Md_init_51 : decode prog_9_method_1_code 51 = .ok (.putfield 19, 3) := by decide +kernel
theorem d_Md_init_54 : decode prog_9_method_1_code 54 = .ok (.aload_n 0, 1) := by decide +kernel
theorem d_Md_init_55 : decode prog_9_method_1_code 55 = .ok (.iconst 4, 1) := by decide +kernel
theorem d_Md_init_56 : decode prog_9_method_1_code 56 = .ok (.newarray .int, 2) := by decide +kernel
theorem d_Md_init_58 : decode prog_9_method_1_code 58 = .ok (.putfield 22, 3) := by decide +kernel
theorem d_Md_init_61 : decode prog_9_method_1_code 61 = .ok (.aload_n 0, 1) := by decide +kernel
theorem d_Md_init_62 : decode prog_9_method_1_code 62 = .ok (.bipush 12, 2) := by decide +kernel
theorem d_Md_init_64 : decode prog_9_method_1_code 64 = .ok (.newarray .int, 2) := by decide +kernel
theorem d_Md_init_66 : decode prog_9_method_1_code 66 = .ok (.putfield 25, 3) := by decide +kernel
theorem d_Md_init_69 : decode prog_9_method_1_code 69 = .ok (.aload_n 0, 1) := by decide +kernel
theorem d_Md_init_70 : decode prog_9_method_1_code 70 = .ok (.bipush 20, 2) := by decide +kernel
theorem d_Md_init_72 : decode prog_9_method_1_code 72 = .ok (.newarray .int, 2) := by decide +kernel
theorem d_Md_init_74 : decode prog_9_method_1_code 74 = .ok (.putfield 28, 3) := by decide +kernel
theorem d_Md_init_77 : decode prog_9_method_1_code 77 = .ok (.aload_n 0, 1) := by decide +kernel
theorem d_Md_init_78 : decode prog_9_method_1_code 78 = .ok (.iconst 4, 1) := by decide +kernel
theorem d_Md_init_79 : decode prog_9_method_1_code 79 = .ok (.newarray .int, 2) := by decide +kernel
theorem d_Md_init_81 : decode prog_9_method_1_code 81 = .ok (.putfield 31, 3) := by decide +kernel
theorem d_Md_init_84 : decode prog_9_method_1_code 84 = .ok (.aload_n 0, 1) := by decide +kernel
theorem d_Md_init_85 : decode prog_9_method_1_code 85 = .ok (.iconst 4, 1) := by decide +kernel
theorem d_Md_init_86 : decode prog_9_method_1_code 86 = .ok (.newarray .int, 2) := by decide +kernel
theorem d_Md_init_88 : decode prog_9_method_1_code 88 = .ok (.putfield 34, 3) := by decide +kernel
theorem d_Md_init_91 : decode prog_9_method_1_code 91 = .ok (.aload_n 0, 1) := by decide +kernel
theorem d_Md_init_92 : decode prog_9_method_1_code 92 = .ok (.bipush 12, 2) := by decide +kernel
theorem d_Md_init_94 : decode prog_9_method_1_code 94 = .ok (.newarray .int, 2) := by decide +kernel
theorem d_Md_init_96 : decode prog_9_method_1_code 96 = .ok (.putfield 37, 3) := by decide +kernel
theorem d_Md_init_99 : decode prog_9_method_1_code 99 = .ok (.aload_n 0, 1) := by decide +kernel
theorem d_Md_init_100 : decode prog_9_method_1_code 100 = .ok (.sipush 256, 3) := by decide +kernel
theorem d_Md_init_103 : decode prog_9_method_1_code 103 = .ok (.newarray .int, 2) := by decide +kernel
theorem d_Md_init_105 : decode prog_9_method_1_code 105 = .ok (.putfield 40, 3) := by decide +kernel
theorem d_Md_init_108 : decode prog_9_method_1_code 108 = .ok (.aload_n 0, 1) := by decide +kernel
theorem d_Md_init_109 : decode prog_9_method_1_code 109 = .ok (.sipush 4096, 3) := by decide +kernel
theorem d_Md_init_112 : decode prog_9_method_1_code 112 = .ok (.newarray .int, 2) := by decide +kernel
theorem d_Md_init_114 : decode prog_9_method_1_code 114 = .ok (.putfield 43, 3) := by decide +kernel
theorem d_Md_init_117 : decode prog_9_method_1_code 117 = .ok (.aload_n 0, 1) := by decide +kernel
theorem d_Md_init_118 : decode prog_9_method_1_code 118 = .ok (.sipush 256, 3) := by decide +kernel
theorem d_Md_init_121 : decode prog_9_method_1_code 121 = .ok (.newarray .int, 2) := by decide +kernel
theorem d_Md_init_123 : decode prog_9_method_1_code 123 = .ok (.putfield 46, 3) := by decide +kernel
theorem d_Md_init_126 : decode prog_9_method_1_code 126 = .ok (.aload_n 0, 1) := by decide +kernel
theorem d_Md_init_127 : decode prog_9_method_1_code 127 = .ok (.sipush 256, 3) := by decide +kernel
theorem d_Md_init_130 : decode prog_9_method_1_code 130 = .ok (.newarray .int, 2) := by decide +kernel
theorem d_Md_init_132 : decode prog_9_method_1_code 132 = .ok (.putfield 49, 3) := by decide +kernel
theorem d_Md_init_135 : decode prog_9_method_1_code 135 = .ok (.aload_n 0, 1) := by decide +kernel
theorem d_Md_init_136 : decode prog_9_method_1_code 136 = .ok (.sipush 256, 3) := by decide +kernel
theorem d_Md_init_139 : decode prog_9_method_1_code 139 = .ok (.newarray .int, 2) := by decide +kernel
theorem d_Md_init_141 : decode prog_9_method_1_code 141 = .ok (.putfield 52, 3) := by decide +kernel
theorem d_Md_init_144 : decode prog_9_method_1_code 144 = .ok (.aload_n 0, 1) := by decide +kernel
theorem d_Md_init_145 : decode prog_9_method_1_code 145 = .ok (.sipush 256, 3) := by decide +kernel
theorem d_Md_init_148 : decode prog_9_method_1_code 148 = .ok (.newarray .int, 2) := by decide +kernel
theorem d_Md_init_150 : decode prog_9_method_1_code 150 = .ok (.putfield 55, 3) := by decide +kernel
theorem d_Md_init_153 : decode prog_9_method_1_code 153 = .ok (.aload_n 0, 1) := by decide +kernel
theorem d_Md_init_154 : decode prog_9_method_1_code 154 = .ok (.sipush 257, 3) := by decide +kernel
theorem d_Md_init_157 : decode prog_9_method_1_code 157 = .ok (.newarray .int, 2) := by decide +kernel
theorem d_Md_init_159 : decode prog_9_method_1_code 159 = .ok (.putfield 58, 3) := by decide +kernel
theorem d_Md_init_162 : decode prog_9_method_1_code 162 = .ok (.aload_n 0, 1) := by decide +kernel
theorem d_Md_init_163 : decode prog_9_method_1_code 163 = .ok (.sipush 5120, 3) := by decide +kernel
theorem d_Md_init_166 : decode prog_9_method_1_code 166 = .ok (.newarray .int, 2) := by decide +kernel
theorem d_Md_init_168 : decode prog_9_method_1_code 168 = .ok (.putfield 61, 3) := by decide +kernel
theorem d_Md_init_171 : decode prog_9_method_1_code 171 = .ok (.aload_n 0, 1) := by decide +kernel
theorem d_Md_init_172 : decode prog_9_method_1_code 172 = .ok (.bipush 20, 2) := by decide +kernel
theorem d_Md_init_174 : decode prog_9_method_1_code 174 = .ok (.newarray .int, 2) := by decide +kernel
theorem d_Md_init_176 : decode prog_9_method_1_code 176 = .ok (.putfield 64, 3) := by decide +kernel
theorem d_Md_init_179 : decode prog_9_method_1_code 179 = .ok (.aload_n 0, 1) := by decide +kernel
theorem d_Md_init_180 : decode prog_9_method_1_code 180 = .ok (.bipush 12, 2) := by decide +kernel
theorem d_Md_init_182 : decode prog_9_method_1_code 182 = .ok (.newarray .int, 2) := by decide +kernel
theorem d_Md_init_184 : decode prog_9_method_1_code 184 = .ok (.putfield 67, 3) := by decide +kernel
theorem d_Md_init_187 : decode prog_9_method_1_code 187 = .ok (.aload_n 0, 1) := by decide +kernel
theorem d_Md_init_188 : decode prog_9_method_1_code 188 = .ok (.bipush 20, 2) := by decide +kernel
theorem d_Md_init_190 : decode prog_9_method_1_code 190 = .ok (.newarray .int, 2) := by decide +kernel
theorem d_Md_init_192 : decode prog_9_method_1_code 192 = .ok (.putfield 70, 3) := by decide +kernel
theorem d_Md_init_195 : decode prog_9_method_1_code 195 = .ok (.aload_n 0, 1) := by decide +kernel
theorem d_Md_init_196 : decode prog_9_method_1_code 196 = .ok (.bipush 8, 2) := by decide +kernel
theorem d_Md_init_198 : decode prog_9_method_1_code 198 = .ok (.newarray .int, 2) := by decide +kernel
theorem d_Md_init_200 : decode prog_9_method_1_code 200 = .ok (.putfield 73, 3) := by decide +kernel
theorem d_Md_init_203 : decode prog_9_method_1_code 203 = .ok (.aload_n 0, 1) := by decide +kernel
theorem d_Md_init_204 : decode prog_9_method_1_code 204 = .ok (.bipush 8, 2) := by decide +kernel
theorem d_Md_init_206 : decode prog_9_method_1_code 206 = .ok (.newarray .int, 2) := by decide +kernel
theorem d_Md_init_208 : decode prog_9_method_1_code 208 = .ok (.putfield 76, 3) := by decide +kernel
theorem d_Md_init_211 : decode prog_9_method_1_code 211 = .ok (.return_, 1) := by decide +kernel
abbrev y_Md_init : MethodName := ⟨"LoadCyclesModel", "<init>", "()V"⟩
theorem mc_Md_init : miC y_Md_init prog_9_method_1_code 1 := ⟨wd_730, wd_72, wd_731, by decide, by decide, by decide +kernel⟩
def po_Md_init (Y : Yx) (h0 : Nat) (u : va_W) : Prop := ∃ q1 q2 q3 q4 q5 q6 q7 q8 q9 q10 q11 q12 q13 q14 q15 q16 q17 q18 q19 q20 q21 q22 q23 : Nat, u = [(h0, .inr (7, [.int 0, .int 0, .ref q1, .ref q2, .ref q3, .int 0, .ref q4, .ref q5, .ref q6, .int 0, .ref q7, .int 0, .int 0, .int 0, .ref q8, .ref q9, .ref q10, .int 0, .ref q11, .ref q12, .ref q13, .ref q14, .ref q15, .ref q16, .ref q17, .ref q18, .ref q19, .ref q20, .ref q21, .int 0, .int 0, .ref q22, .ref q23])), (q1, .inl (yI Y, (4, .inl (upd (upd (upd (upd (fun _ => 0) (0 : Int32).toNatClampNeg (-9)) (1 : Int32).toNatClampNeg (-9)) (2 : Int32).toNatClampNeg (-9)) (3 : Int32).toNatClampNeg (-9))))), (q2, .inl (yI Y, (4, .inl (fun _ => 0)))), (q3, .inl (yI Y, (240, .inl (fun _ => 0)))), (q4, .inl (yI Y, (4, .inl (fun _ => 0)))), (q5, .inl (yI Y, (4, .inl (fun _ => 0)))), (q6, .inl (yI Y, (12, .inl (fun _ => 0)))), (q7, .inl (yI Y, (20, .inl (fun _ => 0)))), (q8, .inl (yI Y, (4, .inl (fun _ => 0)))), (q9, .inl (yI Y, (4, .inl (fun _ => 0)))), (q10, .inl (yI Y, (12, .inl (fun _ => 0)))), (q11, .inl (yI Y, (256, .inl (fun _ => 0)))), (q12, .inl (yI Y, (4096, .inl (fun _ => 0)))), (q13, .inl (yI Y, (256, .inl (fun _ => 0)))), (q14, .inl (yI Y, (256, .inl (fun _ => 0)))), (q15, .inl (yI Y, (256, .inl (fun _ => 0)))), (q16, .inl (yI Y, (256, .inl (fun _ => 0)))), (q17, .inl (yI Y, (257, .inl (fun _ => 0)))), (q18, .inl (yI Y, (5120, .inl (fun _ => 0)))), (q19, .inl (yI Y, (20, .inl (fun _ => 0)))), (q20, .inl (yI Y, (12, .inl (fun _ => 0)))), (q21, .inl (yI Y, (20, .inl (fun _ => 0)))), (q22, .inl (yI Y, (8, .inl (fun _ => 0)))), (q23, .inl (yI Y, (8, .inl (fun _ => 0))))]
set_option maxHeartbeats 4000000 in
set_option maxRecDepth 20000 in
theorem k_Md_init {Y : Yx} {ws : va_W} {h0 : Nat} : MetC Y y_Md_init prog_9_method_1_code 1 1 20 23 11129 h0 ws 7 (po_Md_init Y h0) := by
  refine met_C [(0, .ref h0)] (by decide) (Nat.le_of_ble_eq_true rfl) rfl (fun X C hr hi => ?_)
  refine c_aload_n (pc := 0) C d_Md_init_0 rfl 0 rfl ?_
  refine c_objInit (pc := 1) C wd_732 wd_83 wd_84 (by decide) (by decide) d_Md_init_1 ?_
  refine c_aload_n (pc := 4) C d_Md_init_4 rfl 0 rfl ?_
  refine c_iconst (pc := 5) (v := 4) C d_Md_init_5 (by decide) ?_
  refine c_newI (pc := 6) (N := 4) 1 4 C wd_127 (by decide) (by decide) (by decide) rfl rfl (by decide) (by decide) d_Md_init_6 (fun q1 => ?_)
  refine c_dup (pc := 8) C d_Md_init_8 rfl ?_
  refine c_iconst (pc := 9) (v := 0) C d_Md_init_9 (by decide) ?_
  refine c_bipush (pc := 10) (v := -9) C d_Md_init_10 (by decide) ?_
  refine c_iast (pc := 12) (j := 1) [(h0, .inr (7, blk 7)), (q1, .inl (yI Y, (4, .inl (upd (fun _ => 0) (0 : Int32).toNatClampNeg (-9)))))] C rfl (by unfold vp_in; decide) rfl d_Md_init_12 ?_
  refine c_dup (pc := 13) C d_Md_init_13 rfl ?_
  refine c_iconst (pc := 14) (v := 1) C d_Md_init_14 (by decide) ?_
  refine c_bipush (pc := 15) (v := -9) C d_Md_init_15 (by decide) ?_
  refine c_iast (pc := 17) (j := 1) [(h0, .inr (7, blk 7)), (q1, .inl (yI Y, (4, .inl (upd (upd (fun _ => 0) (0 : Int32).toNatClampNeg (-9)) (1 : Int32).toNatClampNeg (-9)))))] C rfl (by unfold vp_in; decide) rfl d_Md_init_17 ?_
  refine c_dup (pc := 18) C d_Md_init_18 rfl ?_
  refine c_iconst (pc := 19) (v := 2) C d_Md_init_19 (by decide) ?_
  refine c_bipush (pc := 20) (v := -9) C d_Md_init_20 (by decide) ?_
  refine c_iast (pc := 22) (j := 1) [(h0, .inr (7, blk 7)), (q1, .inl (yI Y, (4, .inl (upd (upd (upd (fun _ => 0) (0 : Int32).toNatClampNeg (-9)) (1 : Int32).toNatClampNeg (-9)) (2 : Int32).toNatClampNeg (-9)))))] C rfl (by unfold vp_in; decide) rfl d_Md_init_22 ?_
  refine c_dup (pc := 23) C d_Md_init_23 rfl ?_
  refine c_iconst (pc := 24) (v := 3) C d_Md_init_24 (by decide) ?_
  refine c_bipush (pc := 25) (v := -9) C d_Md_init_25 (by decide) ?_
  refine c_iast (pc := 27) (j := 1) [(h0, .inr (7, blk 7)), (q1, .inl (yI Y, (4, .inl (upd (upd (upd (upd (fun _ => 0) (0 : Int32).toNatClampNeg (-9)) (1 : Int32).toNatClampNeg (-9)) (2 : Int32).toNatClampNeg (-9)) (3 : Int32).toNatClampNeg (-9)))))] C rfl (by unfold vp_in; decide) rfl d_Md_init_27 ?_
  refine c_putF (pc := 28) (j := 0) (k := 2) [(h0, .inr (7, [.int 0, .int 0, .ref q1, .null, .null, .int 0, .null, .null, .null, .int 0, .null, .int 0, .int 0, .int 0, .null, .null, .null, .int 0, .null, .null, .null, .null, .null, .null, .null, .null, .null, .null, .null, .int 0, .int 0, .null, .null])), (q1, .inl (yI Y, (4, .inl (upd (upd (upd (upd (fun _ => 0) (0 : Int32).toNatClampNeg (-9)) (1 : Int32).toNatClampNeg (-9)) (2 : Int32).toNatClampNeg (-9)) (3 : Int32).toNatClampNeg (-9)))))] C hi rfl (by decide) (by decide) wd_735 rfl rfl rfl rfl (Nat.le_of_ble_eq_true rfl) rfl d_Md_init_28 ?_
  refine c_aload_n (pc := 31) C d_Md_init_31 rfl 0 rfl ?_
  refine c_iconst (pc := 32) (v := 4) C d_Md_init_32 (by decide) ?_
  refine c_newI (pc := 33) (N := 4) 2 8 C wd_127 (by decide) (by decide) (by decide) rfl rfl (by decide) (by decide) d_Md_init_33 (fun q2 => ?_)
  refine c_putF (pc := 35) (j := 0) (k := 3) [(h0, .inr (7, [.int 0, .int 0, .ref q1, .ref q2, .null, .int 0, .null, .null, .null, .int 0, .null, .int 0, .int 0, .int 0, .null, .null, .null, .int 0, .null, .null, .null, .null, .null, .null, .null, .null, .null, .null, .null, .int 0, .int 0, .null, .null])), (q1, .inl (yI Y, (4, .inl (upd (upd (upd (upd (fun _ => 0) (0 : Int32).toNatClampNeg (-9)) (1 : Int32).toNatClampNeg (-9)) (2 : Int32).toNatClampNeg (-9)) (3 : Int32).toNatClampNeg (-9))))), (q2, .inl (yI Y, (4, .inl (fun _ => 0))))] C hi rfl (by decide) (by decide) wd_736 rfl rfl rfl rfl (Nat.le_of_ble_eq_true rfl) rfl d_Md_init_35 ?_
  refine c_aload_n (pc := 38) C d_Md_init_38 rfl 0 rfl ?_
  refine c_sipush (pc := 39) (v := 240) C d_Md_init_39 (by decide) ?_
  refine c_newI (pc := 42) (N := 240) 3 248 C wd_127 (by decide) (by decide) (by decide) rfl rfl (by decide) (by decide) d_Md_init_42 (fun q3 => ?_)
  refine c_putF (pc := 44) (j := 0) (k := 4) [(h0, .inr (7, [.int 0, .int 0, .ref q1, .ref q2, .ref q3, .int 0, .null, .null, .null, .int 0, .null, .int 0, .int 0, .int 0, .null, .null, .null, .int 0, .null, .null, .null, .null, .null, .null, .null, .null, .null, .null, .null, .int 0, .int 0, .null, .null])), (q1, .inl (yI Y, (4, .inl (upd (upd (upd (upd (fun _ => 0) (0 : Int32).toNatClampNeg (-9)) (1 : Int32).toNatClampNeg (-9)) (2 : Int32).toNatClampNeg (-9)) (3 : Int32).toNatClampNeg (-9))))), (q2, .inl (yI Y, (4, .inl (fun _ => 0)))), (q3, .inl (yI Y, (240, .inl (fun _ => 0))))] C hi rfl (by decide) (by decide) wd_737 rfl rfl rfl rfl (Nat.le_of_ble_eq_true rfl) rfl d_Md_init_44 ?_
  refine c_aload_n (pc := 47) C d_Md_init_47 rfl 0 rfl ?_
  refine c_iconst (pc := 48) (v := 4) C d_Md_init_48 (by decide) ?_
  refine c_newI (pc := 49) (N := 4) 4 252 C wd_127 (by decide) (by decide) (by decide) rfl rfl (by decide) (by decide) d_Md_init_49 (fun q4 => ?_)
  refine c_putF (pc := 51) (j := 0) (k := 6) [(h0, .inr (7, [.int 0, .int 0, .ref q1, .ref q2, .ref q3, .int 0, .ref q4, .null, .null, .int 0, .null, .int 0, .int 0, .int 0, .null, .null, .null, .int 0, .null, .null, .null, .null, .null, .null, .null, .null, .null, .null, .null, .int 0, .int 0, .null, .null])), (q1, .inl (yI Y, (4, .inl (upd (upd (upd (upd (fun _ => 0) (0 : Int32).toNatClampNeg (-9)) (1 : Int32).toNatClampNeg (-9)) (2 : Int32).toNatClampNeg (-9)) (3 : Int32).toNatClampNeg (-9))))), (q2, .inl (yI Y, (4, .inl (fun _ => 0)))), (q3, .inl (yI Y, (240, .inl (fun _ => 0)))), (q4, .inl (yI Y, (4, .inl (fun _ => 0))))] C hi rfl (by decide) (by decide) wd_739 rfl rfl rfl rfl (Nat.le_of_ble_eq_true rfl) rfl d_Md_init_51 ?_
  refine c_aload_n (pc := 54) C d_Md_init_54 rfl 0 rfl ?_
  refine c_iconst (pc := 55) (v := 4) C d_Md_init_55 (by decide) ?_
  refine c_newI (pc := 56) (N := 4) 5 256 C wd_127 (by decide) (by decide) (by decide) rfl rfl (by decide) (by decide) d_Md_init_56 (fun q5 => ?_)
  refine c_putF (pc := 58) (j := 0) (k := 7) [(h0, .inr (7, [.int 0, .int 0, .ref q1, .ref q2, .ref q3, .int 0, .ref q4, .ref q5, .null, .int 0, .null, .int 0, .int 0, .int 0, .null, .null, .null, .int 0, .null, .null, .null, .null, .null, .null, .null, .null, .null, .null, .null, .int 0, .int 0, .null, .null])), (q1, .inl (yI Y, (4, .inl (upd (upd (upd (upd (fun _ => 0) (0 : Int32).toNatClampNeg (-9)) (1 : Int32).toNatClampNeg (-9)) (2 : Int32).toNatClampNeg (-9)) (3 : Int32).toNatClampNeg (-9))))), (q2, .inl (yI Y, (4, .inl (fun _ => 0)))), (q3, .inl (yI Y, (240, .inl (fun _ => 0)))), (q4, .inl (yI Y, (4, .inl (fun _ => 0)))), (q5, .inl (yI Y, (4, .inl (fun _ => 0))))] C hi rfl (by decide) (by decide) wd_740 rfl rfl rfl rfl (Nat.le_of_ble_eq_true rfl) rfl d_Md_init_58 ?_
  refine c_aload_n (pc := 61) C d_Md_init_61 rfl 0 rfl ?_
  refine c_bipush (pc := 62) (v := 12) C d_Md_init_62 (by decide) ?_
  refine c_newI (pc := 64) (N := 12) 6 268 C wd_127 (by decide) (by decide) (by decide) rfl rfl (by decide) (by decide) d_Md_init_64 (fun q6 => ?_)
  refine c_putF (pc := 66) (j := 0) (k := 8) [(h0, .inr (7, [.int 0, .int 0, .ref q1, .ref q2, .ref q3, .int 0, .ref q4, .ref q5, .ref q6, .int 0, .null, .int 0, .int 0, .int 0, .null, .null, .null, .int 0, .null, .null, .null, .null, .null, .null, .null, .null, .null, .null, .null, .int 0, .int 0, .null, .null])), (q1, .inl (yI Y, (4, .inl (upd (upd (upd (upd (fun _ => 0) (0 : Int32).toNatClampNeg (-9)) (1 : Int32).toNatClampNeg (-9)) (2 : Int32).toNatClampNeg (-9)) (3 : Int32).toNatClampNeg (-9))))), (q2, .inl (yI Y, (4, .inl (fun _ => 0)))), (q3, .inl (yI Y, (240, .inl (fun _ => 0)))), (q4, .inl (yI Y, (4, .inl (fun _ => 0)))), (q5, .inl (yI Y, (4, .inl (fun _ => 0)))), (q6, .inl (yI Y, (12, .inl (fun _ => 0))))] C hi rfl (by decide) (by decide) wd_741 rfl rfl rfl rfl (Nat.le_of_ble_eq_true rfl) rfl d_Md_init_66 ?_
  refine c_aload_n (pc := 69) C d_Md_init_69 rfl 0 rfl ?_
  refine c_bipush (pc := 70) (v := 20) C d_Md_init_70 (by decide) ?_
  refine c_newI (pc := 72) (N := 20) 7 288 C wd_127 (by decide) (by decide) (by decide) rfl rfl (by decide) (by decide) d_Md_init_72 (fun q7 => ?_)
  refine c_putF (pc := 74) (j := 0) (k := 10) [(h0, .inr (7, [.int 0, .int 0, .ref q1, .ref q2, .ref q3, .int 0, .ref q4, .ref q5, .ref q6, .int 0, .ref q7, .int 0, .int 0, .int 0, .null, .null, .null, .int 0, .null, .null, .null, .null, .null, .null, .null, .null, .null, .null, .null, .int 0, .int 0, .null, .null])), (q1, .inl (yI Y, (4, .inl (upd (upd (upd (upd (fun _ => 0) (0 : Int32).toNatClampNeg (-9)) (1 : Int32).toNatClampNeg (-9)) (2 : Int32).toNatClampNeg (-9)) (3 : Int32).toNatClampNeg (-9))))), (q2, .inl (yI Y, (4, .inl (fun _ => 0)))), (q3, .inl (yI Y, (240, .inl (fun _ => 0)))), (q4, .inl (yI Y, (4, .inl (fun _ => 0)))), (q5, .inl (yI Y, (4, .inl (fun _ => 0)))), (q6, .inl (yI Y, (12, .inl (fun _ => 0)))), (q7, .inl (yI Y, (20, .inl (fun _ => 0))))] C hi rfl (by decide) (by decide) wd_743 rfl rfl rfl rfl (Nat.le_of_ble_eq_true rfl) rfl d_Md_init_74 ?_
  refine c_aload_n (pc := 77) C d_Md_init_77 rfl 0 rfl ?_
  refine c_iconst (pc := 78) (v := 4) C d_Md_init_78 (by decide) ?_
  refine c_newI (pc := 79) (N := 4) 8 292 C wd_127 (by decide) (by decide) (by decide) rfl rfl (by decide) (by decide) d_Md_init_79 (fun q8 => ?_)
  refine c_putF (pc := 81) (j := 0) (k := 14) [(h0, .inr (7, [.int 0, .int 0, .ref q1, .ref q2, .ref q3, .int 0, .ref q4, .ref q5, .ref q6, .int 0, .ref q7, .int 0, .int 0, .int 0, .ref q8, .null, .null, .int 0, .null, .null, .null, .null, .null, .null, .null, .null, .null, .null, .null, .int 0, .int 0, .null, .null])), (q1, .inl (yI Y, (4, .inl (upd (upd (upd (upd (fun _ => 0) (0 : Int32).toNatClampNeg (-9)) (1 : Int32).toNatClampNeg (-9)) (2 : Int32).toNatClampNeg (-9)) (3 : Int32).toNatClampNeg (-9))))), (q2, .inl (yI Y, (4, .inl (fun _ => 0)))), (q3, .inl (yI Y, (240, .inl (fun _ => 0)))), (q4, .inl (yI Y, (4, .inl (fun _ => 0)))), (q5, .inl (yI Y, (4, .inl (fun _ => 0)))), (q6, .inl (yI Y, (12, .inl (fun _ => 0)))), (q7, .inl (yI Y, (20, .inl (fun _ => 0)))), (q8, .inl (yI Y, (4, .inl (fun _ => 0))))] C hi rfl (by decide) (by decide) wd_747 rfl rfl rfl rfl (Nat.le_of_ble_eq_true rfl) rfl d_Md_init_81 ?_
  refine c_aload_n (pc := 84) C d_Md_init_84 rfl 0 rfl ?_
  refine c_iconst (pc := 85) (v := 4) C d_Md_init_85 (by decide) ?_
  refine c_newI (pc := 86) (N := 4) 9 296 C wd_127 (by decide) (by decide) (by decide) rfl rfl (by decide) (by decide) d_Md_init_86 (fun q9 => ?_)
  refine c_putF (pc := 88) (j := 0) (k := 15) [(h0, .inr (7, [.int 0, .int 0, .ref q1, .ref q2, .ref q3, .int 0, .ref q4, .ref q5, .ref q6, .int 0, .ref q7, .int 0, .int 0, .int 0, .ref q8, .ref q9, .null, .int 0, .null, .null, .null, .null, .null, .null, .null, .null, .null, .null, .null, .int 0, .int 0, .null, .null])), (q1, .inl (yI Y, (4, .inl (upd (upd (upd (upd (fun _ => 0) (0 : Int32).toNatClampNeg (-9)) (1 : Int32).toNatClampNeg (-9)) (2 : Int32).toNatClampNeg (-9)) (3 : Int32).toNatClampNeg (-9))))), (q2, .inl (yI Y, (4, .inl (fun _ => 0)))), (q3, .inl (yI Y, (240, .inl (fun _ => 0)))), (q4, .inl (yI Y, (4, .inl (fun _ => 0)))), (q5, .inl (yI Y, (4, .inl (fun _ => 0)))), (q6, .inl (yI Y, (12, .inl (fun _ => 0)))), (q7, .inl (yI Y, (20, .inl (fun _ => 0)))), (q8, .inl (yI Y, (4, .inl (fun _ => 0)))), (q9, .inl (yI Y, (4, .inl (fun _ => 0))))] C hi rfl (by decide) (by decide) wd_748 rfl rfl rfl rfl (Nat.le_of_ble_eq_true rfl) rfl d_Md_init_88 ?_
  refine c_aload_n (pc := 91) C d_Md_init_91 rfl 0 rfl ?_
  refine c_bipush (pc := 92) (v := 12) C d_Md_init_92 (by decide) ?_
  refine c_newI (pc := 94) (N := 12) 10 308 C wd_127 (by decide) (by decide) (by decide) rfl rfl (by decide) (by decide) d_Md_init_94 (fun q10 => ?_)
  refine c_putF (pc := 96) (j := 0) (k := 16) [(h0, .inr (7, [.int 0, .int 0, .ref q1, .ref q2, .ref q3, .int 0, .ref q4, .ref q5, .ref q6, .int 0, .ref q7, .int 0, .int 0, .int 0, .ref q8, .ref q9, .ref q10, .int 0, .null, .null, .null, .null, .null, .null, .null, .null, .null, .null, .null, .int 0, .int 0, .null, .null])), (q1, .inl (yI Y, (4, .inl (upd (upd (upd (upd (fun _ => 0) (0 : Int32).toNatClampNeg (-9)) (1 : Int32).toNatClampNeg (-9)) (2 : Int32).toNatClampNeg (-9)) (3 : Int32).toNatClampNeg (-9))))), (q2, .inl (yI Y, (4, .inl (fun _ => 0)))), (q3, .inl (yI Y, (240, .inl (fun _ => 0)))), (q4, .inl (yI Y, (4, .inl (fun _ => 0)))), (q5, .inl (yI Y, (4, .inl (fun _ => 0)))), (q6, .inl (yI Y, (12, .inl (fun _ => 0)))), (q7, .inl (yI Y, (20, .inl (fun _ => 0)))), (q8, .inl (yI Y, (4, .inl (fun _ => 0)))), (q9, .inl (yI Y, (4, .inl (fun _ => 0)))), (q10, .inl (yI Y, (12, .inl (fun _ => 0))))] C hi rfl (by decide) (by decide) wd_749 rfl rfl rfl rfl (Nat.le_of_ble_eq_true rfl) rfl d_Md_init_96 ?_
  refine c_aload_n (pc := 99) C d_Md_init_99 rfl 0 rfl ?_
  refine c_sipush (pc := 100) (v := 256) C d_Md_init_100 (by decide) ?_
  refine c_newI (pc := 103) (N := 256) 11 564 C wd_127 (by decide) (by decide) (by decide) rfl rfl (by decide) (by decide) d_Md_init_103 (fun q11 => ?_)
  refine c_putF (pc := 105) (j := 0) (k := 18) [(h0, .inr (7, [.int 0, .int 0, .ref q1, .ref q2, .ref q3, .int 0, .ref q4, .ref q5, .ref q6, .int 0, .ref q7, .int 0, .int 0, .int 0, .ref q8, .ref q9, .ref q10, .int 0, .ref q11, .null, .null, .null, .null, .null, .null, .null, .null, .null, .null, .int 0, .int 0, .null, .null])), (q1, .inl (yI Y, (4, .inl (upd (upd (upd (upd (fun _ => 0) (0 : Int32).toNatClampNeg (-9)) (1 : Int32).toNatClampNeg (-9)) (2 : Int32).toNatClampNeg (-9)) (3 : Int32).toNatClampNeg (-9))))), (q2, .inl (yI Y, (4, .inl (fun _ => 0)))), (q3, .inl (yI Y, (240, .inl (fun _ => 0)))), (q4, .inl (yI Y, (4, .inl (fun _ => 0)))), (q5, .inl (yI Y, (4, .inl (fun _ => 0)))), (q6, .inl (yI Y, (12, .inl (fun _ => 0)))), (q7, .inl (yI Y, (20, .inl (fun _ => 0)))), (q8, .inl (yI Y, (4, .inl (fun _ => 0)))), (q9, .inl (yI Y, (4, .inl (fun _ => 0)))), (q10, .inl (yI Y, (12, .inl (fun _ => 0)))), (q11, .inl (yI Y, (256, .inl (fun _ => 0))))] C hi rfl (by decide) (by decide) wd_751 rfl rfl rfl rfl (Nat.le_of_ble_eq_true rfl) rfl d_Md_init_105 ?_
  refine c_aload_n (pc := 108) C d_Md_init_108 rfl 0 rfl ?_
  refine c_sipush (pc := 109) (v := 4096) C d_Md_init_109 (by decide) ?_
  refine c_newI (pc := 112) (N := 4096) 12 4660 C wd_127 (by decide) (by decide) (by decide) rfl rfl (by decide) (by decide) d_Md_init_112 (fun q12 => ?_)
  refine c_putF (pc := 114) (j := 0) (k := 19) [(h0, .inr (7, [.int 0, .int 0, .ref q1, .ref q2, .ref q3, .int 0, .ref q4, .ref q5, .ref q6, .int 0, .ref q7, .int 0, .int 0, .int 0, .ref q8, .ref q9, .ref q10, .int 0, .ref q11, .ref q12, .null, .null, .null, .null, .null, .null, .null, .null, .null, .int 0, .int 0, .null, .null])), (q1, .inl (yI Y, (4, .inl (upd (upd (upd (upd (fun _ => 0) (0 : Int32).toNatClampNeg (-9)) (1 : Int32).toNatClampNeg (-9)) (2 : Int32).toNatClampNeg (-9)) (3 : Int32).toNatClampNeg (-9))))), (q2, .inl (yI Y, (4, .inl (fun _ => 0)))), (q3, .inl (yI Y, (240, .inl (fun _ => 0)))), (q4, .inl (yI Y, (4, .inl (fun _ => 0)))), (q5, .inl (yI Y, (4, .inl (fun _ => 0)))), (q6, .inl (yI Y, (12, .inl (fun _ => 0)))), (q7, .inl (yI Y, (20, .inl (fun _ => 0)))), (q8, .inl (yI Y, (4, .inl (fun _ => 0)))), (q9, .inl (yI Y, (4, .inl (fun _ => 0)))), (q10, .inl (yI Y, (12, .inl (fun _ => 0)))), (q11, .inl (yI Y, (256, .inl (fun _ => 0)))), (q12, .inl (yI Y, (4096, .inl (fun _ => 0))))] C hi rfl (by decide) (by decide) wd_752 rfl rfl rfl rfl (Nat.le_of_ble_eq_true rfl) rfl d_Md_init_114 ?_
  refine c_aload_n (pc := 117) C d_Md_init_117 rfl 0 rfl ?_
  refine c_sipush (pc := 118) (v := 256) C d_Md_init_118 (by decide) ?_
  refine c_newI (pc := 121) (N := 256) 13 4916 C wd_127 (by decide) (by decide) (by decide) rfl rfl (by decide) (by decide) d_Md_init_121 (fun q13 => ?_)
  refine c_putF (pc := 123) (j := 0) (k := 20) [(h0, .inr (7, [.int 0, .int 0, .ref q1, .ref q2, .ref q3, .int 0, .ref q4, .ref q5, .ref q6, .int 0, .ref q7, .int 0, .int 0, .int 0, .ref q8, .ref q9, .ref q10, .int 0, .ref q11, .ref q12, .ref q13, .null, .null, .null, .null, .null, .null, .null, .null, .int 0, .int 0, .null, .null])), (q1, .inl (yI Y, (4, .inl (upd (upd (upd (upd (fun _ => 0) (0 : Int32).toNatClampNeg (-9)) (1 : Int32).toNatClampNeg (-9)) (2 : Int32).toNatClampNeg (-9)) (3 : Int32).toNatClampNeg (-9))))), (q2, .inl (yI Y, (4, .inl (fun _ => 0)))), (q3, .inl (yI Y, (240, .inl (fun _ => 0)))), (q4, .inl (yI Y, (4, .inl (fun _ => 0)))), (q5, .inl (yI Y, (4, .inl (fun _ => 0)))), (q6, .inl (yI Y, (12, .inl (fun _ => 0)))), (q7, .inl (yI Y, (20, .inl (fun _ => 0)))), (q8, .inl (yI Y, (4, .inl (fun _ => 0)))), (q9, .inl (yI Y, (4, .inl (fun _ => 0)))), (q10, .inl (yI Y, (12, .inl (fun _ => 0)))), (q11, .inl (yI Y, (256, .inl (fun _ => 0)))), (q12, .inl (yI Y, (4096, .inl (fun _ => 0)))), (q13, .inl (yI Y, (256, .inl (fun _ => 0))))] C hi rfl (by decide) (by decide) wd_753 rfl rfl rfl rfl (Nat.le_of_ble_eq_true rfl) rfl d_Md_init_123 ?_
  refine c_aload_n (pc := 126) C d_Md_init_126 rfl 0 rfl ?_
  refine c_sipush (pc := 127) (v := 256) C d_Md_init_127 (by decide) ?_
  refine c_newI (pc := 130) (N := 256) 14 5172 C wd_127 (by decide) (by decide) (by decide) rfl rfl (by decide) (by decide) d_Md_init_130 (fun q14 => ?_)
  refine c_putF (pc := 132) (j := 0) (k := 21) [(h0, .inr (7, [.int 0, .int 0, .ref q1, .ref q2, .ref q3, .int 0, .ref q4, .ref q5, .ref q6, .int 0, .ref q7, .int 0, .int 0, .int 0, .ref q8, .ref q9, .ref q10, .int 0, .ref q11, .ref q12, .ref q13, .ref q14, .null, .null, .null, .null, .null, .null, .null, .int 0, .int 0, .null, .null])), (q1, .inl (yI Y, (4, .inl (upd (upd (upd (upd (fun _ => 0) (0 : Int32).toNatClampNeg (-9)) (1 : Int32).toNatClampNeg (-9)) (2 : Int32).toNatClampNeg (-9)) (3 : Int32).toNatClampNeg (-9))))), (q2, .inl (yI Y, (4, .inl (fun _ => 0)))), (q3, .inl (yI Y, (240, .inl (fun _ => 0)))), (q4, .inl (yI Y, (4, .inl (fun _ => 0)))), (q5, .inl (yI Y, (4, .inl (fun _ => 0)))), (q6, .inl (yI Y, (12, .inl (fun _ => 0)))), (q7, .inl (yI Y, (20, .inl (fun _ => 0)))), (q8, .inl (yI Y, (4, .inl (fun _ => 0)))), (q9, .inl (yI Y, (4, .inl (fun _ => 0)))), (q10, .inl (yI Y, (12, .inl (fun _ => 0)))), (q11, .inl (yI Y, (256, .inl (fun _ => 0)))), (q12, .inl (yI Y, (4096, .inl (fun _ => 0)))), (q13, .inl (yI Y, (256, .inl (fun _ => 0)))), (q14, .inl (yI Y, (256, .inl (fun _ => 0))))] C hi rfl (by decide) (by decide) wd_754 rfl rfl rfl rfl (Nat.le_of_ble_eq_true rfl) rfl d_Md_init_132 ?_
  refine c_aload_n (pc := 135) C d_Md_init_135 rfl 0 rfl ?_
  refine c_sipush (pc := 136) (v := 256) C d_Md_init_136 (by decide) ?_
  refine c_newI (pc := 139) (N := 256) 15 5428 C wd_127 (by decide) (by decide) (by decide) rfl rfl (by decide) (by decide) d_Md_init_139 (fun q15 => ?_)
  refine c_putF (pc := 141) (j := 0) (k := 22) [(h0, .inr (7, [.int 0, .int 0, .ref q1, .ref q2, .ref q3, .int 0, .ref q4, .ref q5, .ref q6, .int 0, .ref q7, .int 0, .int 0, .int 0, .ref q8, .ref q9, .ref q10, .int 0, .ref q11, .ref q12, .ref q13, .ref q14, .ref q15, .null, .null, .null, .null, .null, .null, .int 0, .int 0, .null, .null])), (q1, .inl (yI Y, (4, .inl (upd (upd (upd (upd (fun _ => 0) (0 : Int32).toNatClampNeg (-9)) (1 : Int32).toNatClampNeg (-9)) (2 : Int32).toNatClampNeg (-9)) (3 : Int32).toNatClampNeg (-9))))), (q2, .inl (yI Y, (4, .inl (fun _ => 0)))), (q3, .inl (yI Y, (240, .inl (fun _ => 0)))), (q4, .inl (yI Y, (4, .inl (fun _ => 0)))), (q5, .inl (yI Y, (4, .inl (fun _ => 0)))), (q6, .inl (yI Y, (12, .inl (fun _ => 0)))), (q7, .inl (yI Y, (20, .inl (fun _ => 0)))), (q8, .inl (yI Y, (4, .inl (fun _ => 0)))), (q9, .inl (yI Y, (4, .inl (fun _ => 0)))), (q10, .inl (yI Y, (12, .inl (fun _ => 0)))), (q11, .inl (yI Y, (256, .inl (fun _ => 0)))), (q12, .inl (yI Y, (4096, .inl (fun _ => 0)))), (q13, .inl (yI Y, (256, .inl (fun _ => 0)))), (q14, .inl (yI Y, (256, .inl (fun _ => 0)))), (q15, .inl (yI Y, (256, .inl (fun _ => 0))))] C hi rfl (by decide) (by decide) wd_755 rfl rfl rfl rfl (Nat.le_of_ble_eq_true rfl) rfl d_Md_init_141 ?_
  refine c_aload_n (pc := 144) C d_Md_init_144 rfl 0 rfl ?_
  refine c_sipush (pc := 145) (v := 256) C d_Md_init_145 (by decide) ?_
  refine c_newI (pc := 148) (N := 256) 16 5684 C wd_127 (by decide) (by decide) (by decide) rfl rfl (by decide) (by decide) d_Md_init_148 (fun q16 => ?_)
  refine c_putF (pc := 150) (j := 0) (k := 23) [(h0, .inr (7, [.int 0, .int 0, .ref q1, .ref q2, .ref q3, .int 0, .ref q4, .ref q5, .ref q6, .int 0, .ref q7, .int 0, .int 0, .int 0, .ref q8, .ref q9, .ref q10, .int 0, .ref q11, .ref q12, .ref q13, .ref q14, .ref q15, .ref q16, .null, .null, .null, .null, .null, .int 0, .int 0, .null, .null])), (q1, .inl (yI Y, (4, .inl (upd (upd (upd (upd (fun _ => 0) (0 : Int32).toNatClampNeg (-9)) (1 : Int32).toNatClampNeg (-9)) (2 : Int32).toNatClampNeg (-9)) (3 : Int32).toNatClampNeg (-9))))), (q2, .inl (yI Y, (4, .inl (fun _ => 0)))), (q3, .inl (yI Y, (240, .inl (fun _ => 0)))), (q4, .inl (yI Y, (4, .inl (fun _ => 0)))), (q5, .inl (yI Y, (4, .inl (fun _ => 0)))), (q6, .inl (yI Y, (12, .inl (fun _ => 0)))), (q7, .inl (yI Y, (20, .inl (fun _ => 0)))), (q8, .inl (yI Y, (4, .inl (fun _ => 0)))), (q9, .inl (yI Y, (4, .inl (fun _ => 0)))), (q10, .inl (yI Y, (12, .inl (fun _ => 0)))), (q11, .inl (yI Y, (256, .inl (fun _ => 0)))), (q12, .inl (yI Y, (4096, .inl (fun _ => 0)))), (q13, .inl (yI Y, (256, .inl (fun _ => 0)))), (q14, .inl (yI Y, (256, .inl (fun _ => 0)))), (q15, .inl (yI Y, (256, .inl (fun _ => 0)))), (q16, .inl (yI Y, (256, .inl (fun _ => 0))))] C hi rfl (by decide) (by decide) wd_756 rfl rfl rfl rfl (Nat.le_of_ble_eq_true rfl) rfl d_Md_init_150 ?_
  refine c_aload_n (pc := 153) C d_Md_init_153 rfl 0 rfl ?_
  refine c_sipush (pc := 154) (v := 257) C d_Md_init_154 (by decide) ?_
  refine c_newI (pc := 157) (N := 257) 17 5941 C wd_127 (by decide) (by decide) (by decide) rfl rfl (by decide) (by decide) d_Md_init_157 (fun q17 => ?_)
  refine c_putF (pc := 159) (j := 0) (k := 24) [(h0, .inr (7, [.int 0, .int 0, .ref q1, .ref q2, .ref q3, .int 0, .ref q4, .ref q5, .ref q6, .int 0, .ref q7, .int 0, .int 0, .int 0, .ref q8, .ref q9, .ref q10, .int 0, .ref q11, .ref q12, .ref q13, .ref q14, .ref q15, .ref q16, .ref q17, .null, .null, .null, .null, .int 0, .int 0, .null, .null])), (q1, .inl (yI Y, (4, .inl (upd (upd (upd (upd (fun _ => 0) (0 : Int32).toNatClampNeg (-9)) (1 : Int32).toNatClampNeg (-9)) (2 : Int32).toNatClampNeg (-9)) (3 : Int32).toNatClampNeg (-9))))), (q2, .inl (yI Y, (4, .inl (fun _ => 0)))), (q3, .inl (yI Y, (240, .inl (fun _ => 0)))), (q4, .inl (yI Y, (4, .inl (fun _ => 0)))), (q5, .inl (yI Y, (4, .inl (fun _ => 0)))), (q6, .inl (yI Y, (12, .inl (fun _ => 0)))), (q7, .inl (yI Y, (20, .inl (fun _ => 0)))), (q8, .inl (yI Y, (4, .inl (fun _ => 0)))), (q9, .inl (yI Y, (4, .inl (fun _ => 0)))), (q10, .inl (yI Y, (12, .inl (fun _ => 0)))), (q11, .inl (yI Y, (256, .inl (fun _ => 0)))), (q12, .inl (yI Y, (4096, .inl (fun _ => 0)))), (q13, .inl (yI Y, (256, .inl (fun _ => 0)))), (q14, .inl (yI Y, (256, .inl (fun _ => 0)))), (q15, .inl (yI Y, (256, .inl (fun _ => 0)))), (q16, .inl (yI Y, (256, .inl (fun _ => 0)))), (q17, .inl (yI Y, (257, .inl (fun _ => 0))))] C hi rfl (by decide) (by decide) wd_757 rfl rfl rfl rfl (Nat.le_of_ble_eq_true rfl) rfl d_Md_init_159 ?_
  refine c_aload_n (pc := 162) C d_Md_init_162 rfl 0 rfl ?_
  refine c_sipush (pc := 163) (v := 5120) C d_Md_init_163 (by decide) ?_
  refine c_newI (pc := 166) (N := 5120) 18 11061 C wd_127 (by decide) (by decide) (by decide) rfl rfl (by decide) (by decide) d_Md_init_166 (fun q18 => ?_)
  refine c_putF (pc := 168) (j := 0) (k := 25) [(h0, .inr (7, [.int 0, .int 0, .ref q1, .ref q2, .ref q3, .int 0, .ref q4, .ref q5, .ref q6, .int 0, .ref q7, .int 0, .int 0, .int 0, .ref q8, .ref q9, .ref q10, .int 0, .ref q11, .ref q12, .ref q13, .ref q14, .ref q15, .ref q16, .ref q17, .ref q18, .null, .null, .null, .int 0, .int 0, .null, .null])), (q1, .inl (yI Y, (4, .inl (upd (upd (upd (upd (fun _ => 0) (0 : Int32).toNatClampNeg (-9)) (1 : Int32).toNatClampNeg (-9)) (2 : Int32).toNatClampNeg (-9)) (3 : Int32).toNatClampNeg (-9))))), (q2, .inl (yI Y, (4, .inl (fun _ => 0)))), (q3, .inl (yI Y, (240, .inl (fun _ => 0)))), (q4, .inl (yI Y, (4, .inl (fun _ => 0)))), (q5, .inl (yI Y, (4, .inl (fun _ => 0)))), (q6, .inl (yI Y, (12, .inl (fun _ => 0)))), (q7, .inl (yI Y, (20, .inl (fun _ => 0)))), (q8, .inl (yI Y, (4, .inl (fun _ => 0)))), (q9, .inl (yI Y, (4, .inl (fun _ => 0)))), (q10, .inl (yI Y, (12, .inl (fun _ => 0)))), (q11, .inl (yI Y, (256, .inl (fun _ => 0)))), (q12, .inl (yI Y, (4096, .inl (fun _ => 0)))), (q13, .inl (yI Y, (256, .inl (fun _ => 0)))), (q14, .inl (yI Y, (256, .inl (fun _ => 0)))), (q15, .inl (yI Y, (256, .inl (fun _ => 0)))), (q16, .inl (yI Y, (256, .inl (fun _ => 0)))), (q17, .inl (yI Y, (257, .inl (fun _ => 0)))), (q18, .inl (yI Y, (5120, .inl (fun _ => 0))))] C hi rfl (by decide) (by decide) wd_758 rfl rfl rfl rfl (Nat.le_of_ble_eq_true rfl) rfl d_Md_init_168 ?_
  refine c_aload_n (pc := 171) C d_Md_init_171 rfl 0 rfl ?_
  refine c_bipush (pc := 172) (v := 20) C d_Md_init_172 (by decide) ?_
  refine c_newI (pc := 174) (N := 20) 19 11081 C wd_127 (by decide) (by decide) (by decide) rfl rfl (by decide) (by decide) d_Md_init_174 (fun q19 => ?_)
  refine c_putF (pc := 176) (j := 0) (k := 26) [(h0, .inr (7, [.int 0, .int 0, .ref q1, .ref q2, .ref q3, .int 0, .ref q4, .ref q5, .ref q6, .int 0, .ref q7, .int 0, .int 0, .int 0, .ref q8, .ref q9, .ref q10, .int 0, .ref q11, .ref q12, .ref q13, .ref q14, .ref q15, .ref q16, .ref q17, .ref q18, .ref q19, .null, .null, .int 0, .int 0, .null, .null])), (q1, .inl (yI Y, (4, .inl (upd (upd (upd (upd (fun _ => 0) (0 : Int32).toNatClampNeg (-9)) (1 : Int32).toNatClampNeg (-9)) (2 : Int32).toNatClampNeg (-9)) (3 : Int32).toNatClampNeg (-9))))), (q2, .inl (yI Y, (4, .inl (fun _ => 0)))), (q3, .inl (yI Y, (240, .inl (fun _ => 0)))), (q4, .inl (yI Y, (4, .inl (fun _ => 0)))), (q5, .inl (yI Y, (4, .inl (fun _ => 0)))), (q6, .inl (yI Y, (12, .inl (fun _ => 0)))), (q7, .inl (yI Y, (20, .inl (fun _ => 0)))), (q8, .inl (yI Y, (4, .inl (fun _ => 0)))), (q9, .inl (yI Y, (4, .inl (fun _ => 0)))), (q10, .inl (yI Y, (12, .inl (fun _ => 0)))), (q11, .inl (yI Y, (256, .inl (fun _ => 0)))), (q12, .inl (yI Y, (4096, .inl (fun _ => 0)))), (q13, .inl (yI Y, (256, .inl (fun _ => 0)))), (q14, .inl (yI Y, (256, .inl (fun _ => 0)))), (q15, .inl (yI Y, (256, .inl (fun _ => 0)))), (q16, .inl (yI Y, (256, .inl (fun _ => 0)))), (q17, .inl (yI Y, (257, .inl (fun _ => 0)))), (q18, .inl (yI Y, (5120, .inl (fun _ => 0)))), (q19, .inl (yI Y, (20, .inl (fun _ => 0))))] C hi rfl (by decide) (by decide) wd_759 rfl rfl rfl rfl (Nat.le_of_ble_eq_true rfl) rfl d_Md_init_176 ?_
  refine c_aload_n (pc := 179) C d_Md_init_179 rfl 0 rfl ?_
  refine c_bipush (pc := 180) (v := 12) C d_Md_init_180 (by decide) ?_
  refine c_newI (pc := 182) (N := 12) 20 11093 C wd_127 (by decide) (by decide) (by decide) rfl rfl (by decide) (by decide) d_Md_init_182 (fun q20 => ?_)
  refine c_putF (pc := 184) (j := 0) (k := 27) [(h0, .inr (7, [.int 0, .int 0, .ref q1, .ref q2, .ref q3, .int 0, .ref q4, .ref q5, .ref q6, .int 0, .ref q7, .int 0, .int 0, .int 0, .ref q8, .ref q9, .ref q10, .int 0, .ref q11, .ref q12, .ref q13, .ref q14, .ref q15, .ref q16, .ref q17, .ref q18, .ref q19, .ref q20, .null, .int 0, .int 0, .null, .null])), (q1, .inl (yI Y, (4, .inl (upd (upd (upd (upd (fun _ => 0) (0 : Int32).toNatClampNeg (-9)) (1 : Int32).toNatClampNeg (-9)) (2 : Int32).toNatClampNeg (-9)) (3 : Int32).toNatClampNeg (-9))))), (q2, .inl (yI Y, (4, .inl (fun _ => 0)))), (q3, .inl (yI Y, (240, .inl (fun _ => 0)))), (q4, .inl (yI Y, (4, .inl (fun _ => 0)))), (q5, .inl (yI Y, (4, .inl (fun _ => 0)))), (q6, .inl (yI Y, (12, .inl (fun _ => 0)))), (q7, .inl (yI Y, (20, .inl (fun _ => 0)))), (q8, .inl (yI Y, (4, .inl (fun _ => 0)))), (q9, .inl (yI Y, (4, .inl (fun _ => 0)))), (q10, .inl (yI Y, (12, .inl (fun _ => 0)))), (q11, .inl (yI Y, (256, .inl (fun _ => 0)))), (q12, .inl (yI Y, (4096, .inl (fun _ => 0)))), (q13, .inl (yI Y, (256, .inl (fun _ => 0)))), (q14, .inl (yI Y, (256, .inl (fun _ => 0)))), (q15, .inl (yI Y, (256, .inl (fun _ => 0)))), (q16, .inl (yI Y, (256, .inl (fun _ => 0)))), (q17, .inl (yI Y, (257, .inl (fun _ => 0)))), (q18, .inl (yI Y, (5120, .inl (fun _ => 0)))), (q19, .inl (yI Y, (20, .inl (fun _ => 0)))), (q20, .inl (yI Y, (12, .inl (fun _ => 0))))] C hi rfl (by decide) (by decide) wd_760 rfl rfl rfl rfl (Nat.le_of_ble_eq_true rfl) rfl d_Md_init_184 ?_
  refine c_aload_n (pc := 187) C d_Md_init_187 rfl 0 rfl ?_
  refine c_bipush (pc := 188) (v := 20) C d_Md_init_188 (by decide) ?_
  refine c_newI (pc := 190) (N := 20) 21 11113 C wd_127 (by decide) (by decide) (by decide) rfl rfl (by decide) (by decide) d_Md_init_190 (fun q21 => ?_)
  refine c_putF (pc := 192) (j := 0) (k := 28) [(h0, .inr (7, [.int 0, .int 0, .ref q1, .ref q2, .ref q3, .int 0, .ref q4, .ref q5, .ref q6, .int 0, .ref q7, .int 0, .int 0, .int 0, .ref q8, .ref q9, .ref q10, .int 0, .ref q11, .ref q12, .ref q13, .ref q14, .ref q15, .ref q16, .ref q17, .ref q18, .ref q19, .ref q20, .ref q21, .int 0, .int 0, .null, .null])), (q1, .inl (yI Y, (4, .inl (upd (upd (upd (upd (fun _ => 0) (0 : Int32).toNatClampNeg (-9)) (1 : Int32).toNatClampNeg (-9)) (2 : Int32).toNatClampNeg (-9)) (3 : Int32).toNatClampNeg (-9))))), (q2, .inl (yI Y, (4, .inl (fun _ => 0)))), (q3, .inl (yI Y, (240, .inl (fun _ => 0)))), (q4, .inl (yI Y, (4, .inl (fun _ => 0)))), (q5, .inl (yI Y, (4, .inl (fun _ => 0)))), (q6, .inl (yI Y, (12, .inl (fun _ => 0)))), (q7, .inl (yI Y, (20, .inl (fun _ => 0)))), (q8, .inl (yI Y, (4, .inl (fun _ => 0)))), (q9, .inl (yI Y, (4, .inl (fun _ => 0)))), (q10, .inl (yI Y, (12, .inl (fun _ => 0)))), (q11, .inl (yI Y, (256, .inl (fun _ => 0)))), (q12, .inl (yI Y, (4096, .inl (fun _ => 0)))), (q13, .inl (yI Y, (256, .inl (fun _ => 0)))), (q14, .inl (yI Y, (256, .inl (fun _ => 0)))), (q15, .inl (yI Y, (256, .inl (fun _ => 0)))), (q16, .inl (yI Y, (256, .inl (fun _ => 0)))), (q17, .inl (yI Y, (257, .inl (fun _ => 0)))), (q18, .inl (yI Y, (5120, .inl (fun _ => 0)))), (q19, .inl (yI Y, (20, .inl (fun _ => 0)))), (q20, .inl (yI Y, (12, .inl (fun _ => 0)))), (q21, .inl (yI Y, (20, .inl (fun _ => 0))))] C hi rfl (by decide) (by decide) wd_761 rfl rfl rfl rfl (Nat.le_of_ble_eq_true rfl) rfl d_Md_init_192 ?_
  refine c_aload_n (pc := 195) C d_Md_init_195 rfl 0 rfl ?_
  refine c_bipush (pc := 196) (v := 8) C d_Md_init_196 (by decide) ?_
  refine c_newI (pc := 198) (N := 8) 22 11121 C wd_127 (by decide) (by decide) (by decide) rfl rfl (by decide) (by decide) d_Md_init_198 (fun q22 => ?_)
  refine c_putF (pc := 200) (j := 0) (k := 31) [(h0, .inr (7, [.int 0, .int 0, .ref q1, .ref q2, .ref q3, .int 0, .ref q4, .ref q5, .ref q6, .int 0, .ref q7, .int 0, .int 0, .int 0, .ref q8, .ref q9, .ref q10, .int 0, .ref q11, .ref q12, .ref q13, .ref q14, .ref q15, .ref q16, .ref q17, .ref q18, .ref q19, .ref q20, .ref q21, .int 0, .int 0, .ref q22, .null])), (q1, .inl (yI Y, (4, .inl (upd (upd (upd (upd (fun _ => 0) (0 : Int32).toNatClampNeg (-9)) (1 : Int32).toNatClampNeg (-9)) (2 : Int32).toNatClampNeg (-9)) (3 : Int32).toNatClampNeg (-9))))), (q2, .inl (yI Y, (4, .inl (fun _ => 0)))), (q3, .inl (yI Y, (240, .inl (fun _ => 0)))), (q4, .inl (yI Y, (4, .inl (fun _ => 0)))), (q5, .inl (yI Y, (4, .inl (fun _ => 0)))), (q6, .inl (yI Y, (12, .inl (fun _ => 0)))), (q7, .inl (yI Y, (20, .inl (fun _ => 0)))), (q8, .inl (yI Y, (4, .inl (fun _ => 0)))), (q9, .inl (yI Y, (4, .inl (fun _ => 0)))), (q10, .inl (yI Y, (12, .inl (fun _ => 0)))), (q11, .inl (yI Y, (256, .inl (fun _ => 0)))), (q12, .inl (yI Y, (4096, .inl (fun _ => 0)))), (q13, .inl (yI Y, (256, .inl (fun _ => 0)))), (q14, .inl (yI Y, (256, .inl (fun _ => 0)))), (q15, .inl (yI Y, (256, .inl (fun _ => 0)))), (q16, .inl (yI Y, (256, .inl (fun _ => 0)))), (q17, .inl (yI Y, (257, .inl (fun _ => 0)))), (q18, .inl (yI Y, (5120, .inl (fun _ => 0)))), (q19, .inl (yI Y, (20, .inl (fun _ => 0)))), (q20, .inl (yI Y, (12, .inl (fun _ => 0)))), (q21, .inl (yI Y, (20, .inl (fun _ => 0)))), (q22, .inl (yI Y, (8, .inl (fun _ => 0))))] C hi rfl (by decide) (by decide) wd_764 rfl rfl rfl rfl (Nat.le_of_ble_eq_true rfl) rfl d_Md_init_200 ?_
  refine c_aload_n (pc := 203) C d_Md_init_203 rfl 0 rfl ?_
  refine c_bipush (pc := 204) (v := 8) C d_Md_init_204 (by decide) ?_
  refine c_newI (pc := 206) (N := 8) 23 11129 C wd_127 (by decide) (by decide) (by decide) rfl rfl (by decide) (by decide) d_Md_init_206 (fun q23 => ?_)
  refine c_putF (pc := 208) (j := 0) (k := 32) [(h0, .inr (7, [.int 0, .int 0, .ref q1, .ref q2, .ref q3, .int 0, .ref q4, .ref q5, .ref q6, .int 0, .ref q7, .int 0, .int 0, .int 0, .ref q8, .ref q9, .ref q10, .int 0, .ref q11, .ref q12, .ref q13, .ref q14, .ref q15, .ref q16, .ref q17, .ref q18, .ref q19, .ref q20, .ref q21, .int 0, .int 0, .ref q22, .ref q23])), (q1, .inl (yI Y, (4, .inl (upd (upd (upd (upd (fun _ => 0) (0 : Int32).toNatClampNeg (-9)) (1 : Int32).toNatClampNeg (-9)) (2 : Int32).toNatClampNeg (-9)) (3 : Int32).toNatClampNeg (-9))))), (q2, .inl (yI Y, (4, .inl (fun _ => 0)))), (q3, .inl (yI Y, (240, .inl (fun _ => 0)))), (q4, .inl (yI Y, (4, .inl (fun _ => 0)))), (q5, .inl (yI Y, (4, .inl (fun _ => 0)))), (q6, .inl (yI Y, (12, .inl (fun _ => 0)))), (q7, .inl (yI Y, (20, .inl (fun _ => 0)))), (q8, .inl (yI Y, (4, .inl (fun _ => 0)))), (q9, .inl (yI Y, (4, .inl (fun _ => 0)))), (q10, .inl (yI Y, (12, .inl (fun _ => 0)))), (q11, .inl (yI Y, (256, .inl (fun _ => 0)))), (q12, .inl (yI Y, (4096, .inl (fun _ => 0)))), (q13, .inl (yI Y, (256, .inl (fun _ => 0)))), (q14, .inl (yI Y, (256, .inl (fun _ => 0)))), (q15, .inl (yI Y, (256, .inl (fun _ => 0)))), (q16, .inl (yI Y, (256, .inl (fun _ => 0)))), (q17, .inl (yI Y, (257, .inl (fun _ => 0)))), (q18, .inl (yI Y, (5120, .inl (fun _ => 0)))), (q19, .inl (yI Y, (20, .inl (fun _ => 0)))), (q20, .inl (yI Y, (12, .inl (fun _ => 0)))), (q21, .inl (yI Y, (20, .inl (fun _ => 0)))), (q22, .inl (yI Y, (8, .inl (fun _ => 0)))), (q23, .inl (yI Y, (8, .inl (fun _ => 0))))] C hi rfl (by decide) (by decide) wd_765 rfl rfl rfl rfl (Nat.le_of_ble_eq_true rfl) rfl d_Md_init_208 ?_
  exact c_vret (pc := 211) C hr d_Md_init_211 ⟨q1, q2, q3, q4, q5, q6, q7, q8, q9, q10, q11, q12, q13, q14, q15, q16, q17, q18, q19, q20, q21, q22, q23, rfl⟩
