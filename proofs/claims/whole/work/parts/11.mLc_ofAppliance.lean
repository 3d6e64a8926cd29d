theorem d_Lc_ofAppliance_0 : decode prog_1_method_3_code 0 = .ok (.aload_n 0, 1) := by decide +kernel
theorem d_Lc_ofAppliance_1 : decode prog_1_method_3_code 1 = .ok (.getfield 12, 3) := by decide +kernel
theorem d_Lc_ofAppliance_4 : decode prog_1_method_3_code 4 = .ok (.iload_n 1, 1) := by decide +kernel
theorem d_Lc_ofAppliance_5 : decode prog_1_method_3_code 5 = .ok (.invokevirtual 108, 3) := by decide +kernel
theorem d_Lc_ofAppliance_8 : decode prog_1_method_3_code 8 = .ok (.ifCond .ne 5, 3) := by decide +kernel
theorem d_Lc_ofAppliance_11 : decode prog_1_method_3_code 11 = .ok (.iconst (-1), 1) := by decide +kernel
theorem d_Lc_ofAppliance_12 : decode prog_1_method_3_code 12 = .ok (.ireturn, 1) := by decide +kernel
theorem d_Lc_ofAppliance_13 : decode prog_1_method_3_code 13 = .ok (.iload_n 2, 1) := by decide +kernel
theorem d_Lc_ofAppliance_14 : decode prog_1_method_3_code 14 = .ok (.ifCond .ne 13, 3) := by decide +kernel
theorem d_Lc_ofAppliance_17 : decode prog_1_method_3_code 17 = .ok (.aload_n 0, 1) := by decide +kernel
theorem d_Lc_ofAppliance_18 : decode prog_1_method_3_code 18 = .ok (.getfield 12, 3) := by decide +kernel
theorem d_Lc_ofAppliance_21 : decode prog_1_method_3_code 21 = .ok (.getfield 111, 3) := by decide +kernel
theorem d_Lc_ofAppliance_24 : decode prog_1_method_3_code 24 = .ok (.iload_n 1, 1) := by decide +kernel
theorem d_Lc_ofAppliance_25 : decode prog_1_method_3_code 25 = .ok (.iaload, 1) := by decide +kernel
theorem d_Lc_ofAppliance_26 : decode prog_1_method_3_code 26 = .ok (.ireturn, 1) := by decide +kernel
theorem d_Lc_ofAppliance_27 : decode prog_1_method_3_code 27 = .ok (.iload_n 2, 1) := by decide +kernel
theorem d_Lc_ofAppliance_28 : decode prog_1_method_3_code 28 = .ok (.iconst 1, 1) := by decide +kernel
theorem d_Lc_ofAppliance_29 : decode prog_1_method_3_code 29 = .ok (.if_icmp .ne 13, 3) := by decide +kernel
theorem d_Lc_ofAppliance_32 : decode prog_1_method_3_code 32 = .ok (.aload_n 0, 1) := by decide +kernel
theorem d_Lc_ofAppliance_33 : decode prog_1_method_3_code 33 = .ok (.getfield 12, 3) := by decide +kernel
theorem d_Lc_ofAppliance_36 : decode prog_1_method_3_code 36 = .ok (.getfield 114, 3) := by decide +kernel
theorem d_Lc_ofAppliance_39 : decode prog_1_method_3_code 39 = .ok (.iload_n 1, 1) := by decide +kernel
theorem d_Lc_ofAppliance_40 : decode prog_1_method_3_code 40 = .ok (.iaload, 1) := by decide +kernel
theorem d_Lc_ofAppliance_41 : decode prog_1_method_3_code 41 = .ok (.ireturn, 1) := by decide +kernel
theorem d_Lc_ofAppliance_42 : decode prog_1_method_3_code 42 = .ok (.iload_n 2, 1) := by decide +kernel
theorem d_Lc_ofAppliance_43 : decode prog_1_method_3_code 43 = .ok (.bipush 10, 2) := by decide +kernel
theorem d_Lc_ofAppliance_45 : decode prog_1_method_3_code 45 = .ok (.if_icmp .lt 42, 3) := by decide +kernel
theorem d_Lc_ofAppliance_48 : decode prog_1_method_3_code 48 = .ok (.iload_n 2, 1) := by decide +kernel
theorem d_Lc_ofAppliance_49 : decode prog_1_method_3_code 49 = .ok (.bipush 13, 2) := by decide +kernel
theorem d_Lc_ofAppliance_51 : decode prog_1_method_3_code 51 = .ok (.if_icmp .ge 36, 3) := by decide +kernel
theorem d_Lc_ofAppliance_54 : decode prog_1_method_3_code 54 = .ok (.aload_n 0, 1) := by decide +kernel
theorem d_Lc_ofAppliance_55 : decode prog_1_method_3_code 55 = .ok (.getfield 12, 3) := by decide +kernel
theorem d_Lc_ofAppliance_58 : decode prog_1_method_3_code 58 = .ok (.iload_n 1, 1) := by decide +kernel
theorem d_Lc_ofAppliance_59 : decode prog_1_method_3_code 59 = .ok (.iload_n 2, 1) := by decide +kernel
theorem d_Lc_ofAppliance_60 : decode prog_1_method_3_code 60 = .ok (.bipush 10, 2) := by decide +kernel
theorem d_Lc_ofAppliance_62 : decode prog_1_method_3_code 62 = .ok (.isub, 1) := by decide +kernel
theorem d_Lc_ofAppliance_63 : decode prog_1_method_3_code 63 = .ok (.invokevirtual 117, 3) := by decide +kernel
theorem d_Lc_ofAppliance_66 : decode prog_1_method_3_code 66 = .ok (.ifCond .eq 18, 3) := by decide +kernel
theorem d_Lc_ofAppliance_69 : decode prog_1_method_3_code 69 = .ok (.aload_n 0, 1) := by decide +kernel
theorem d_Lc_ofAppliance_70 : decode prog_1_method_3_code 70 = .ok (.getfield 12, 3) := by decide +kernel
theorem d_Lc_ofAppliance_73 : decode prog_1_method_3_code 73 = .ok (.iload_n 1, 1) := by decide +kernel
theorem d_Lc_ofAppliance_74 : decode prog_1_method_3_code 74 = .ok (.iload_n 2, 1) := by decide +kernel
theorem d_Lc_ofAppliance_75 : decode prog_1_method_3_code 75 = .ok (.bipush 10, 2) := by decide +kernel
theorem d_Lc_ofAppliance_77 : decode prog_1_method_3_code 77 = .ok (.isub, 1) := by decide +kernel
theorem d_Lc_ofAppliance_78 : decode prog_1_method_3_code 78 = .ok (.invokevirtual 120, 3) := by decide +kernel
theorem d_Lc_ofAppliance_81 : decode prog_1_method_3_code 81 = .ok (.goto 5, 3) := by decide +kernel
theorem d_Lc_ofAppliance_84 : decode prog_1_method_3_code 84 = .ok (.bipush (-9), 2) := by decide +kernel
theorem d_Lc_ofAppliance_86 : decode prog_1_method_3_code 86 = .ok (.ireturn, 1) := by decide +kernel
theorem d_Lc_ofAppliance_87 : decode prog_1_method_3_code 87 = .ok (.iload_n 2, 1) := by decide +kernel
theorem d_Lc_ofAppliance_88 : decode prog_1_method_3_code 88 = .ok (.bipush 20, 2) := by decide +kernel
theorem d_Lc_ofAppliance_90 : decode prog_1_method_3_code 90 = .ok (.if_icmp .lt 42, 3) := by decide +kernel
theorem d_Lc_ofAppliance_93 : decode prog_1_method_3_code 93 = .ok (.iload_n 2, 1) := by decide +kernel
theorem d_Lc_ofAppliance_94 : decode prog_1_method_3_code 94 = .ok (.bipush 23, 2) := by decide +kernel
theorem d_Lc_ofAppliance_96 : decode prog_1_method_3_code 96 = .ok (.if_icmp .ge 36, 3) := by decide +kernel
theorem d_Lc_ofAppliance_99 : decode prog_1_method_3_code 99 = .ok (.aload_n 0, 1) := by decide +kernel
theorem d_Lc_ofAppliance_100 : decode prog_1_method_3_code 100 = .ok (.getfield 12, 3) := by decide +kernel
theorem d_Lc_ofAppliance_103 : decode prog_1_method_3_code 103 = .ok (.iload_n 1, 1) := by decide +kernel
theorem d_Lc_ofAppliance_104 : decode prog_1_method_3_code 104 = .ok (.iload_n 2, 1) := by decide +kernel
theorem d_Lc_ofAppliance_105 : decode prog_1_method_3_code 105 = .ok (.bipush 20, 2) := by decide +kernel
theorem d_Lc_ofAppliance_107 : decode prog_1_method_3_code 107 = .ok (.isub, 1) := by decide +kernel
theorem d_Lc_ofAppliance_108 : decode prog_1_method_3_code 108 = .ok (.invokevirtual 117, 3) := by decide +kernel
theorem d_Lc_ofAppliance_111 : decode prog_1_method_3_code 111 = .ok (.ifCond .eq 18, 3) := by decide +kernel
theorem d_Lc_ofAppliance_114 : decode prog_1_method_3_code 114 = .ok (.aload_n 0, 1) := by decide +kernel
theorem d_Lc_ofAppliance_115 : decode prog_1_method_3_code 115 = .ok (.getfield 12, 3) := by decide +kernel
theorem d_Lc_ofAppliance_118 : decode prog_1_method_3_code 118 = .ok (.iload_n 1, 1) := by decide +kernel
theorem d_Lc_ofAppliance_119 : decode prog_1_method_3_code 119 = .ok (.iload_n 2, 1) := by decide +kernel
theorem d_Lc_ofAppliance_120 : decode prog_1_method_3_code 120 = .ok (.bipush 20, 2) := by decide +kernel
theorem d_Lc_ofAppliance_122 : decode prog_1_method_3_code 122 = .ok (.isub, 1) := by decide +kernel
theorem d_Lc_ofAppliance_123 : decode prog_1_method_3_code 123 = .ok (.invokevirtual 124, 3) := by decide +kernel
theorem d_Lc_ofAppliance_126 : decode prog_1_method_3_code 126 = .ok (.goto 5, 3) := by decide +kernel
theorem d_Lc_ofAppliance_129 : decode prog_1_method_3_code 129 = .ok (.bipush (-9), 2) := by decide +kernel
theorem d_Lc_ofAppliance_131 : decode prog_1_method_3_code 131 = .ok (.ireturn, 1) := by decide +kernel
theorem d_Lc_ofAppliance_132 : decode prog_1_method_3_code 132 = .ok (.bipush (-2), 2) := by decide +kernel
theorem d_Lc_ofAppliance_134 : decode prog_1_method_3_code 134 = .ok (.ireturn, 1) := by decide +kernel
abbrev y_Lc_ofAppliance : MethodName := ⟨"LoadCycles", "ofAppliance", "(II)I"⟩
theorem mi_Lc_ofAppliance : miV y_Lc_ofAppliance prog_1_method_3_code 3 (some .int) 2 := ⟨wd_354, wd_355, wd_65, wd_356, by decide, by decide, by decide +kernel⟩
def B_Lc_ofAppliance_87 (x1 : Int32) (x2 : Int32) (σ : Sg) (K : Int32 → Prop)  : Prop :=
  ((x2 < (20 : Int32) → K (-2 : Int32)) ∧ (¬ x2 < (20 : Int32) → (((23 : Int32) ≤ x2 → K (-2 : Int32)) ∧ (¬ (23 : Int32) ≤ x2 → w_Ho_hasLevel 1 x1 (x2 - (20 : Int32)) σ (fun u108 => ((u108 = 0 → K (-9 : Int32)) ∧ (¬ u108 = 0 → w_Ho_powerOf 1 x1 (x2 - (20 : Int32)) σ (fun u123 => K u123))))))))
theorem t_Lc_ofAppliance_87 {X : Bx} {Y : Yx} {x1 : Int32} {x2 : Int32} {σ : Sg} {K : Int32 → Prop}  (hY : YD Y) (C : Cx X Y prog_1_method_3_code 3 "LoadCycles" 2 45) (hr : (xh X).sig.returnType = some .int)   (h : B_Lc_ofAppliance_87 x1 x2 σ K) : St X Y 3 (QI X Y (fun r τ => τ = σ ∧ K r)) 87 [(0, .ref (ya Y 0)), (1, .int x1), (2, .int x2)] [] σ := by
  unfold B_Lc_ofAppliance_87 at h
  refine q_iload_n (pc := 87) C d_Lc_ofAppliance_87 rfl 2 rfl ?_
  refine q_bipush (pc := 88) (v := 20) C d_Lc_ofAppliance_88 (by decide) ?_
  obtain ⟨h5, h6⟩ := h
  refine q_icmp_lt (pc := 90) 132 C d_Lc_ofAppliance_90 (by decide) (fun hc => ?_) (fun hc => ?_)
  · have h := h5 hc
    refine q_bipush (pc := 132) (v := -2) C d_Lc_ofAppliance_132 (by decide) ?_
    exact q_iret (pc := 134) C hr d_Lc_ofAppliance_134 ⟨rfl, h⟩
  have h := h6 hc
  refine q_iload_n (pc := 93) C d_Lc_ofAppliance_93 rfl 2 rfl ?_
  refine q_bipush (pc := 94) (v := 23) C d_Lc_ofAppliance_94 (by decide) ?_
  obtain ⟨h3, h4⟩ := h
  refine q_icmp_ge (pc := 96) 132 C d_Lc_ofAppliance_96 (by decide) (fun hc => ?_) (fun hc => ?_)
  · have h := h3 hc
    refine q_bipush (pc := 132) (v := -2) C d_Lc_ofAppliance_132 (by decide) ?_
    exact q_iret (pc := 134) C hr d_Lc_ofAppliance_134 ⟨rfl, h⟩
  have h := h4 hc
  refine q_aload_n (pc := 99) C d_Lc_ofAppliance_99 rfl 0 rfl ?_
  refine q_get (pc := 100) (c := 0) (ci := 6) (k := 0) (v := .ref (ya Y 1)) C rfl (by decide) (by decide) wd_230 rfl d_Lc_ofAppliance_100 ?_
  refine q_iload_n (pc := 103) C d_Lc_ofAppliance_103 rfl 1 rfl ?_
  refine q_iload_n (pc := 104) C d_Lc_ofAppliance_104 rfl 2 rfl ?_
  refine q_bipush (pc := 105) (v := 20) C d_Lc_ofAppliance_105 (by decide) ?_
  refine q_isub (pc := 107) C d_Lc_ofAppliance_107 ?_
  refine q_callVIr (pc := 108) (st := []) (d := 1) C (m_Ho_hasLevel hY rfl h) mi_Ho_hasLevel rfl (by decide) rfl wd_361 rfl rfl (Nat.le_of_ble_eq_true rfl) (by decide) (by decide) d_Lc_ofAppliance_108 (fun u108 h => ?_)
  obtain ⟨h1, h2⟩ := h
  refine q_if_eq (pc := 111) 129 C d_Lc_ofAppliance_111 (by decide) (fun hc => ?_) (fun hc => ?_)
  · have h := h1 hc
    refine q_bipush (pc := 129) (v := -9) C d_Lc_ofAppliance_129 (by decide) ?_
    exact q_iret (pc := 131) C hr d_Lc_ofAppliance_131 ⟨rfl, h⟩
  have h := h2 hc
  refine q_aload_n (pc := 114) C d_Lc_ofAppliance_114 rfl 0 rfl ?_
  refine q_get (pc := 115) (c := 0) (ci := 6) (k := 0) (v := .ref (ya Y 1)) C rfl (by decide) (by decide) wd_230 rfl d_Lc_ofAppliance_115 ?_
  refine q_iload_n (pc := 118) C d_Lc_ofAppliance_118 rfl 1 rfl ?_
  refine q_iload_n (pc := 119) C d_Lc_ofAppliance_119 rfl 2 rfl ?_
  refine q_bipush (pc := 120) (v := 20) C d_Lc_ofAppliance_120 (by decide) ?_
  refine q_isub (pc := 122) C d_Lc_ofAppliance_122 ?_
  refine q_callVIr (pc := 123) (st := []) (d := 1) C (m_Ho_powerOf hY rfl h) mi_Ho_powerOf rfl (by decide) rfl wd_369 rfl rfl (Nat.le_of_ble_eq_true rfl) (by decide) (by decide) d_Lc_ofAppliance_123 (fun u123 h => ?_)
  refine q_goto (pc := 126) 131 C d_Lc_ofAppliance_126 (by decide) ?_
  exact q_iret (pc := 131) C hr d_Lc_ofAppliance_131 ⟨rfl, h⟩
def w_Lc_ofAppliance (x1 : Int32) (x2 : Int32) (σ : Sg) (K : Int32 → Prop) : Prop :=
  w_Ho_hasAppliance 1 x1 σ (fun u5 => ((¬ u5 = 0 → ((¬ x2 = 0 → ((¬ x2 = (1 : Int32) → ((x2 < (10 : Int32) → B_Lc_ofAppliance_87 x1 x2 σ K) ∧ (¬ x2 < (10 : Int32) → (((13 : Int32) ≤ x2 → B_Lc_ofAppliance_87 x1 x2 σ K) ∧ (¬ (13 : Int32) ≤ x2 → w_Ho_hasLevel 1 x1 (x2 - (10 : Int32)) σ (fun u63 => ((u63 = 0 → K (-9 : Int32)) ∧ (¬ u63 = 0 → w_Ho_toldLevel 1 x1 (x2 - (10 : Int32)) σ (fun u78 => K u78))))))))) ∧ (x2 = (1 : Int32) → (vp_in x1 4 ∧ K (σ 3 x1.toNatClampNeg))))) ∧ (x2 = 0 → (vp_in x1 4 ∧ K (σ 2 x1.toNatClampNeg))))) ∧ (u5 = 0 → K (-1 : Int32))))
set_option maxHeartbeats 4000000 in
theorem m_Lc_ofAppliance {Y : Yx} {x1 : Int32} {x2 : Int32} {σ : Sg} {K : Int32 → Prop} (hY : YD Y)  (h : w_Lc_ofAppliance x1 x2 σ K) : MetI Y y_Lc_ofAppliance prog_1_method_3_code 3 (.int) 2 45 [.ref (ya Y 0), .int x1, .int x2] σ (fun r τ => τ = σ ∧ K r) := by
  refine met_I [(0, .ref (ya Y 0)), (1, .int x1), (2, .int x2)] hY (by decide) (Nat.le_of_ble_eq_true rfl) rfl (fun X C hr => ?_)
  unfold w_Lc_ofAppliance at h
  refine q_aload_n (pc := 0) C d_Lc_ofAppliance_0 rfl 0 rfl ?_
  refine q_get (pc := 1) (c := 0) (ci := 6) (k := 0) (v := .ref (ya Y 1)) C rfl (by decide) (by decide) wd_230 rfl d_Lc_ofAppliance_1 ?_
  refine q_iload_n (pc := 4) C d_Lc_ofAppliance_4 rfl 1 rfl ?_
  refine q_callVIr (pc := 5) (st := []) (d := 1) C (m_Ho_hasAppliance hY rfl h) mi_Ho_hasAppliance rfl (by decide) rfl wd_357 rfl rfl (Nat.le_of_ble_eq_true rfl) (by decide) (by decide) d_Lc_ofAppliance_5 (fun u5 h => ?_)
  obtain ⟨h19, h20⟩ := h
  refine q_if_ne (pc := 8) 13 C d_Lc_ofAppliance_8 (by decide) (fun hc => ?_) (fun hc => ?_)
  · have h := h19 hc
    refine q_iload_n (pc := 13) C d_Lc_ofAppliance_13 rfl 2 rfl ?_
    obtain ⟨h17, h18⟩ := h
    refine q_if_ne (pc := 14) 27 C d_Lc_ofAppliance_14 (by decide) (fun hc => ?_) (fun hc => ?_)
    · have h := h17 hc
      refine q_iload_n (pc := 27) C d_Lc_ofAppliance_27 rfl 2 rfl ?_
      refine q_iconst (pc := 28) (v := 1) C d_Lc_ofAppliance_28 (by decide) ?_
      obtain ⟨h14, h15⟩ := h
      refine q_icmp_ne (pc := 29) 42 C d_Lc_ofAppliance_29 (by decide) (fun hc => ?_) (fun hc => ?_)
      · have h := h14 hc
        refine q_iload_n (pc := 42) C d_Lc_ofAppliance_42 rfl 2 rfl ?_
        refine q_bipush (pc := 43) (v := 10) C d_Lc_ofAppliance_43 (by decide) ?_
        obtain ⟨h11, h12⟩ := h
        refine q_icmp_lt (pc := 45) 87 C d_Lc_ofAppliance_45 (by decide) (fun hc => ?_) (fun hc => ?_)
        · have h := h11 hc
          exact t_Lc_ofAppliance_87 hY C hr h
        have h := h12 hc
        refine q_iload_n (pc := 48) C d_Lc_ofAppliance_48 rfl 2 rfl ?_
        refine q_bipush (pc := 49) (v := 13) C d_Lc_ofAppliance_49 (by decide) ?_
        obtain ⟨h9, h10⟩ := h
        refine q_icmp_ge (pc := 51) 87 C d_Lc_ofAppliance_51 (by decide) (fun hc => ?_) (fun hc => ?_)
        · have h := h9 hc
          exact t_Lc_ofAppliance_87 hY C hr h
        have h := h10 hc
        refine q_aload_n (pc := 54) C d_Lc_ofAppliance_54 rfl 0 rfl ?_
        refine q_get (pc := 55) (c := 0) (ci := 6) (k := 0) (v := .ref (ya Y 1)) C rfl (by decide) (by decide) wd_230 rfl d_Lc_ofAppliance_55 ?_
        refine q_iload_n (pc := 58) C d_Lc_ofAppliance_58 rfl 1 rfl ?_
        refine q_iload_n (pc := 59) C d_Lc_ofAppliance_59 rfl 2 rfl ?_
        refine q_bipush (pc := 60) (v := 10) C d_Lc_ofAppliance_60 (by decide) ?_
        refine q_isub (pc := 62) C d_Lc_ofAppliance_62 ?_
        refine q_callVIr (pc := 63) (st := []) (d := 1) C (m_Ho_hasLevel hY rfl h) mi_Ho_hasLevel rfl (by decide) rfl wd_361 rfl rfl (Nat.le_of_ble_eq_true rfl) (by decide) (by decide) d_Lc_ofAppliance_63 (fun u63 h => ?_)
        obtain ⟨h7, h8⟩ := h
        refine q_if_eq (pc := 66) 84 C d_Lc_ofAppliance_66 (by decide) (fun hc => ?_) (fun hc => ?_)
        · have h := h7 hc
          refine q_bipush (pc := 84) (v := -9) C d_Lc_ofAppliance_84 (by decide) ?_
          exact q_iret (pc := 86) C hr d_Lc_ofAppliance_86 ⟨rfl, h⟩
        have h := h8 hc
        refine q_aload_n (pc := 69) C d_Lc_ofAppliance_69 rfl 0 rfl ?_
        refine q_get (pc := 70) (c := 0) (ci := 6) (k := 0) (v := .ref (ya Y 1)) C rfl (by decide) (by decide) wd_230 rfl d_Lc_ofAppliance_70 ?_
        refine q_iload_n (pc := 73) C d_Lc_ofAppliance_73 rfl 1 rfl ?_
        refine q_iload_n (pc := 74) C d_Lc_ofAppliance_74 rfl 2 rfl ?_
        refine q_bipush (pc := 75) (v := 10) C d_Lc_ofAppliance_75 (by decide) ?_
        refine q_isub (pc := 77) C d_Lc_ofAppliance_77 ?_
        refine q_callVIr (pc := 78) (st := []) (d := 1) C (m_Ho_toldLevel hY rfl h) mi_Ho_toldLevel rfl (by decide) rfl wd_365 rfl rfl (Nat.le_of_ble_eq_true rfl) (by decide) (by decide) d_Lc_ofAppliance_78 (fun u78 h => ?_)
        refine q_goto (pc := 81) 86 C d_Lc_ofAppliance_81 (by decide) ?_
        exact q_iret (pc := 86) C hr d_Lc_ofAppliance_86 ⟨rfl, h⟩
      have h := h15 hc
      refine q_aload_n (pc := 32) C d_Lc_ofAppliance_32 rfl 0 rfl ?_
      refine q_get (pc := 33) (c := 0) (ci := 6) (k := 0) (v := .ref (ya Y 1)) C rfl (by decide) (by decide) wd_230 rfl d_Lc_ofAppliance_33 ?_
      refine q_get (pc := 36) (c := 1) (ci := 2) (k := 1) (v := .ref (ya Y 3)) C rfl (by decide) (by decide) wd_94 rfl d_Lc_ofAppliance_36 ?_
      refine q_iload_n (pc := 39) C d_Lc_ofAppliance_39 rfl 1 rfl ?_
      obtain ⟨h13, h⟩ := h
      refine q_iald (pc := 40) (c := 3) C ⟨rfl, rfl⟩ h13 d_Lc_ofAppliance_40 ?_
      exact q_iret (pc := 41) C hr d_Lc_ofAppliance_41 ⟨rfl, h⟩
    have h := h18 hc
    refine q_aload_n (pc := 17) C d_Lc_ofAppliance_17 rfl 0 rfl ?_
    refine q_get (pc := 18) (c := 0) (ci := 6) (k := 0) (v := .ref (ya Y 1)) C rfl (by decide) (by decide) wd_230 rfl d_Lc_ofAppliance_18 ?_
    refine q_get (pc := 21) (c := 1) (ci := 2) (k := 0) (v := .ref (ya Y 2)) C rfl (by decide) (by decide) wd_92 rfl d_Lc_ofAppliance_21 ?_
    refine q_iload_n (pc := 24) C d_Lc_ofAppliance_24 rfl 1 rfl ?_
    obtain ⟨h16, h⟩ := h
    refine q_iald (pc := 25) (c := 2) C ⟨rfl, rfl⟩ h16 d_Lc_ofAppliance_25 ?_
    exact q_iret (pc := 26) C hr d_Lc_ofAppliance_26 ⟨rfl, h⟩
  have h := h20 hc
  refine q_iconst (pc := 11) (v := -1) C d_Lc_ofAppliance_11 (by decide) ?_
  exact q_iret (pc := 12) C hr d_Lc_ofAppliance_12 ⟨rfl, h⟩
theorem d_Lc_level_0 : decode prog_1_method_4_code 0 = .ok (.aload_n 0, 1) := by decide +kernel
theorem d_Lc_level_1 : decode prog_1_method_4_code 1 = .ok (.getfield 12, 3) := by decide +kernel
theorem d_Lc_level_4 : decode prog_1_method_4_code 4 = .ok (.iload_n 1, 1) := by decide +kernel
theorem d_Lc_level_5 : decode prog_1_method_4_code 5 = .ok (.invokevirtual 108, 3) := by decide +kernel
theorem d_Lc_level_8 : decode prog_1_method_4_code 8 = .ok (.ifCond .eq 15, 3) := by decide +kernel
theorem d_Lc_level_11 : decode prog_1_method_4_code 11 = .ok (.aload_n 0, 1) := by decide +kernel
theorem d_Lc_level_12 : decode prog_1_method_4_code 12 = .ok (.getfield 12, 3) := by decide +kernel
theorem d_Lc_level_15 : decode prog_1_method_4_code 15 = .ok (.iload_n 1, 1) := by decide +kernel
theorem d_Lc_level_16 : decode prog_1_method_4_code 16 = .ok (.iload_n 2, 1) := by decide +kernel
theorem d_Lc_level_17 : decode prog_1_method_4_code 17 = .ok (.invokevirtual 117, 3) := by decide +kernel
theorem d_Lc_level_20 : decode prog_1_method_4_code 20 = .ok (.ifCond .ne 5, 3) := by decide +kernel
theorem d_Lc_level_23 : decode prog_1_method_4_code 23 = .ok (.iconst (-1), 1) := by decide +kernel
theorem d_Lc_level_24 : decode prog_1_method_4_code 24 = .ok (.ireturn, 1) := by decide +kernel
theorem d_Lc_level_25 : decode prog_1_method_4_code 25 = .ok (.iload_n 3, 1) := by decide +kernel
theorem d_Lc_level_26 : decode prog_1_method_4_code 26 = .ok (.invokestatic 127, 3) := by decide +kernel
theorem d_Lc_level_29 : decode prog_1_method_4_code 29 = .ok (.ifCond .ne 6, 3) := by decide +kernel
theorem d_Lc_level_32 : decode prog_1_method_4_code 32 = .ok (.bipush (-2), 2) := by decide +kernel
theorem d_Lc_level_34 : decode prog_1_method_4_code 34 = .ok (.ireturn, 1) := by decide +kernel
theorem d_Lc_level_35 : decode prog_1_method_4_code 35 = .ok (.aload_n 0, 1) := by decide +kernel
theorem d_Lc_level_36 : decode prog_1_method_4_code 36 = .ok (.getfield 12, 3) := by decide +kernel
theorem d_Lc_level_39 : decode prog_1_method_4_code 39 = .ok (.iload_n 1, 1) := by decide +kernel
theorem d_Lc_level_40 : decode prog_1_method_4_code 40 = .ok (.iload_n 2, 1) := by decide +kernel
theorem d_Lc_level_41 : decode prog_1_method_4_code 41 = .ok (.invokevirtual 120, 3) := by decide +kernel
theorem d_Lc_level_44 : decode prog_1_method_4_code 44 = .ok (.istore 4, 2) := by decide +kernel
theorem d_Lc_level_46 : decode prog_1_method_4_code 46 = .ok (.aload_n 0, 1) := by decide +kernel
theorem d_Lc_level_47 : decode prog_1_method_4_code 47 = .ok (.getfield 12, 3) := by decide +kernel
theorem d_Lc_level_50 : decode prog_1_method_4_code 50 = .ok (.iload_n 1, 1) := by decide +kernel
theorem d_Lc_level_51 : decode prog_1_method_4_code 51 = .ok (.iload_n 2, 1) := by decide +kernel
theorem d_Lc_level_52 : decode prog_1_method_4_code 52 = .ok (.iload_n 3, 1) := by decide +kernel
theorem d_Lc_level_53 : decode prog_1_method_4_code 53 = .ok (.invokevirtual 130, 3) := by decide +kernel
theorem d_Lc_level_56 : decode prog_1_method_4_code 56 = .ok (.aload_n 0, 1) := by decide +kernel
theorem d_Lc_level_57 : decode prog_1_method_4_code 57 = .ok (.invokevirtual 102, 3) := by decide +kernel
theorem d_Lc_level_60 : decode prog_1_method_4_code 60 = .ok (.iload 4, 2) := by decide +kernel
theorem d_Lc_level_62 : decode prog_1_method_4_code 62 = .ok (.ireturn, 1) := by decide +kernel
abbrev y_Lc_level : MethodName := ⟨"LoadCycles", "level", "(III)I"⟩
theorem mi_Lc_level : miV y_Lc_level prog_1_method_4_code 5 (some .int) 3 := ⟨wd_378, wd_379, wd_65, wd_380, by decide, by decide, by decide +kernel⟩
def w_Lc_level (x1 : Int32) (x2 : Int32) (x3 : Int32) (σ : Sg) (K : Int32 → Sg → Prop) : Prop :=
  w_Ho_hasAppliance 1 x1 σ (fun u5 => ((u5 = 0 → K (-1 : Int32) σ) ∧ (¬ u5 = 0 → w_Ho_hasLevel 1 x1 x2 σ (fun u17 => ((¬ u17 = 0 → w_Lc_isLevelValue x3 σ (fun u26 => ((¬ u26 = 0 → w_Ho_toldLevel 1 x1 x2 σ (fun u41 => w_Ho_setLevel 1 x1 x2 x3 σ (fun τ53 => w_Lc_forgetBest τ53 (fun τ57 => K u41 τ57)))) ∧ (u26 = 0 → K (-2 : Int32) σ)))) ∧ (u17 = 0 → K (-1 : Int32) σ))))))
set_option maxHeartbeats 4000000 in
theorem m_Lc_level {Y : Yx} {x1 : Int32} {x2 : Int32} {x3 : Int32} {σ : Sg} {K : Int32 → Sg → Prop} (hY : YD Y)  (h : w_Lc_level x1 x2 x3 σ K) : MetI Y y_Lc_level prog_1_method_4_code 5 (.int) 2 41 [.ref (ya Y 0), .int x1, .int x2, .int x3] σ K := by
  refine met_I [(0, .ref (ya Y 0)), (1, .int x1), (2, .int x2), (3, .int x3)] hY (by decide) (Nat.le_of_ble_eq_true rfl) rfl (fun X C hr => ?_)
  unfold w_Lc_level at h
  refine q_aload_n (pc := 0) C d_Lc_level_0 rfl 0 rfl ?_
  refine q_get (pc := 1) (c := 0) (ci := 6) (k := 0) (v := .ref (ya Y 1)) C rfl (by decide) (by decide) wd_230 rfl d_Lc_level_1 ?_
  refine q_iload_n (pc := 4) C d_Lc_level_4 rfl 1 rfl ?_
  refine q_callVIr (pc := 5) (st := []) (d := 1) C (m_Ho_hasAppliance hY rfl h) mi_Ho_hasAppliance rfl (by decide) rfl wd_357 rfl rfl (Nat.le_of_ble_eq_true rfl) (by decide) (by decide) d_Lc_level_5 (fun u5 h => ?_)
  obtain ⟨h5, h6⟩ := h
  refine q_if_eq (pc := 8) 23 C d_Lc_level_8 (by decide) (fun hc => ?_) (fun hc => ?_)
  · have h := h5 hc
    refine q_iconst (pc := 23) (v := -1) C d_Lc_level_23 (by decide) ?_
    exact q_iret (pc := 24) C hr d_Lc_level_24 h
  have h := h6 hc
  refine q_aload_n (pc := 11) C d_Lc_level_11 rfl 0 rfl ?_
  refine q_get (pc := 12) (c := 0) (ci := 6) (k := 0) (v := .ref (ya Y 1)) C rfl (by decide) (by decide) wd_230 rfl d_Lc_level_12 ?_
  refine q_iload_n (pc := 15) C d_Lc_level_15 rfl 1 rfl ?_
  refine q_iload_n (pc := 16) C d_Lc_level_16 rfl 2 rfl ?_
  refine q_callVIr (pc := 17) (st := []) (d := 1) C (m_Ho_hasLevel hY rfl h) mi_Ho_hasLevel rfl (by decide) rfl wd_361 rfl rfl (Nat.le_of_ble_eq_true rfl) (by decide) (by decide) d_Lc_level_17 (fun u17 h => ?_)
  obtain ⟨h3, h4⟩ := h
  refine q_if_ne (pc := 20) 25 C d_Lc_level_20 (by decide) (fun hc => ?_) (fun hc => ?_)
  · have h := h3 hc
    refine q_iload_n (pc := 25) C d_Lc_level_25 rfl 3 rfl ?_
    refine q_callSIr (pc := 26) (st := []) C (m_Lc_isLevelValue hY h) mi_Lc_isLevelValue wd_381 rfl rfl (Nat.le_of_ble_eq_true rfl) (by decide) (by decide) d_Lc_level_26 (fun u26 h => ?_)
    obtain ⟨h1, h2⟩ := h
    refine q_if_ne (pc := 29) 35 C d_Lc_level_29 (by decide) (fun hc => ?_) (fun hc => ?_)
    · have h := h1 hc
      refine q_aload_n (pc := 35) C d_Lc_level_35 rfl 0 rfl ?_
      refine q_get (pc := 36) (c := 0) (ci := 6) (k := 0) (v := .ref (ya Y 1)) C rfl (by decide) (by decide) wd_230 rfl d_Lc_level_36 ?_
      refine q_iload_n (pc := 39) C d_Lc_level_39 rfl 1 rfl ?_
      refine q_iload_n (pc := 40) C d_Lc_level_40 rfl 2 rfl ?_
      refine q_callVIr (pc := 41) (st := []) (d := 1) C (m_Ho_toldLevel hY rfl h) mi_Ho_toldLevel rfl (by decide) rfl wd_365 rfl rfl (Nat.le_of_ble_eq_true rfl) (by decide) (by decide) d_Lc_level_41 (fun u41 h => ?_)
      refine q_istore (pc := 44) [(4, .int u41), (0, .ref (ya Y 0)), (1, .int x1), (2, .int x2), (3, .int x3)] C d_Lc_level_44 (by decide) rfl ?_
      refine q_aload_n (pc := 46) C d_Lc_level_46 rfl 1 rfl ?_
      refine q_get (pc := 47) (c := 0) (ci := 6) (k := 0) (v := .ref (ya Y 1)) C rfl (by decide) (by decide) wd_230 rfl d_Lc_level_47 ?_
      refine q_iload_n (pc := 50) C d_Lc_level_50 rfl 2 rfl ?_
      refine q_iload_n (pc := 51) C d_Lc_level_51 rfl 3 rfl ?_
      refine q_iload_n (pc := 52) C d_Lc_level_52 rfl 4 rfl ?_
      refine q_callVV (pc := 53) (st := []) (d := 1) C (m_Ho_setLevel hY rfl h) mi_Ho_setLevel rfl (by decide) rfl wd_382 rfl rfl (Nat.le_of_ble_eq_true rfl) (by decide) (by decide) d_Lc_level_53 (fun τ53 h => ?_)
      refine q_aload_n (pc := 56) C d_Lc_level_56 rfl 1 rfl ?_
      refine q_callVV (pc := 57) (st := []) (d := 0) C (m_Lc_forgetBest hY h) mi_Lc_forgetBest rfl (by decide) rfl wd_345 rfl rfl (Nat.le_of_ble_eq_true rfl) (by decide) (by decide) d_Lc_level_57 (fun τ57 h => ?_)
      refine q_iload (pc := 60) C d_Lc_level_60 0 rfl ?_
      exact q_iret (pc := 62) C hr d_Lc_level_62 h
    have h := h2 hc
    refine q_bipush (pc := 32) (v := -2) C d_Lc_level_32 (by decide) ?_
    exact q_iret (pc := 34) C hr d_Lc_level_34 h
  have h := h4 hc
  refine q_iconst (pc := 23) (v := -1) C d_Lc_level_23 (by decide) ?_
  exact q_iret (pc := 24) C hr d_Lc_level_24 h
theorem d_Sh_faultOfCells_0 : decode prog_5_method_8_code 0 = .ok (.aload_n 0, 1) := by decide +kernel
theorem d_Sh_faultOfCells_1 : decode prog_5_method_8_code 1 = .ok (.iload_n 1, 1) := by decide +kernel
theorem d_Sh_faultOfCells_2 : decode prog_5_method_8_code 2 = .ok (.invokevirtual 32, 3) := by decide +kernel
theorem d_Sh_faultOfCells_5 : decode prog_5_method_8_code 5 = .ok (.istore 4, 2) := by decide +kernel
theorem d_Sh_faultOfCells_7 : decode prog_5_method_8_code 7 = .ok (.iload 4, 2) := by decide +kernel
theorem d_Sh_faultOfCells_9 : decode prog_5_method_8_code 9 = .ok (.ifCond .ne 16, 3) := by decide +kernel
theorem d_Sh_faultOfCells_12 : decode prog_5_method_8_code 12 = .ok (.aload_n 0, 1) := by decide +kernel
theorem d_Sh_faultOfCells_13 : decode prog_5_method_8_code 13 = .ok (.iload_n 2, 1) := by decide +kernel
theorem d_Sh_faultOfCells_14 : decode prog_5_method_8_code 14 = .ok (.iload_n 3, 1) := by decide +kernel
theorem d_Sh_faultOfCells_15 : decode prog_5_method_8_code 15 = .ok (.invokevirtual 36, 3) := by decide +kernel
theorem d_Sh_faultOfCells_18 : decode prog_5_method_8_code 18 = .ok (.ifCond .ne 7, 3) := by decide +kernel
theorem d_Sh_faultOfCells_21 : decode prog_5_method_8_code 21 = .ok (.iconst 3, 1) := by decide +kernel
theorem d_Sh_faultOfCells_22 : decode prog_5_method_8_code 22 = .ok (.goto 5, 3) := by decide +kernel
theorem d_Sh_faultOfCells_25 : decode prog_5_method_8_code 25 = .ok (.iload 4, 2) := by decide +kernel
theorem d_Sh_faultOfCells_27 : decode prog_5_method_8_code 27 = .ok (.ireturn, 1) := by decide +kernel
abbrev y_Sh_faultOfCells : MethodName := ⟨"LoadCycles$Sheet", "faultOfCells", "(III)I"⟩
theorem mi_Sh_faultOfCells : miV y_Sh_faultOfCells prog_5_method_8_code 5 (some .int) 3 := ⟨wd_388, wd_389, wd_71, wd_390, by decide, by decide, by decide +kernel⟩
def w_Sh_faultOfCells (o : Nat) (x1 : Int32) (x2 : Int32) (x3 : Int32) (σ : Sg) (K : Int32 → Prop) : Prop :=
  w_Sh_faultOfRow o x1 σ (fun u2 => ((¬ u2 = 0 → K u2) ∧ (u2 = 0 → w_Sh_holds o x2 x3 σ (fun u15 => ((¬ u15 = 0 → K u2) ∧ (u15 = 0 → K (3 : Int32)))))))
set_option maxHeartbeats 4000000 in
theorem m_Sh_faultOfCells {Y : Yx} {o : Nat} {x1 : Int32} {x2 : Int32} {x3 : Int32} {σ : Sg} {K : Int32 → Prop} (hY : YD Y) (ho : kd o = 3) (h : w_Sh_faultOfCells o x1 x2 x3 σ K) : MetI Y y_Sh_faultOfCells prog_5_method_8_code 5 (.int) 2 41 [.ref (ya Y o), .int x1, .int x2, .int x3] σ (fun r τ => τ = σ ∧ K r) := by
  refine met_I [(0, .ref (ya Y o)), (1, .int x1), (2, .int x2), (3, .int x3)] hY (by decide) (Nat.le_of_ble_eq_true rfl) rfl (fun X C hr => ?_)
  unfold w_Sh_faultOfCells at h
  refine q_aload_n (pc := 0) C d_Sh_faultOfCells_0 rfl 0 rfl ?_
  refine q_iload_n (pc := 1) C d_Sh_faultOfCells_1 rfl 1 rfl ?_
  refine q_callVIr (pc := 2) (st := []) (d := o) C (m_Sh_faultOfRow hY ho h) mi_Sh_faultOfRow ho (by decide) rfl wd_391 rfl rfl (Nat.le_of_ble_eq_true rfl) (by decide) (by decide) d_Sh_faultOfCells_2 (fun u2 h => ?_)
  refine q_istore (pc := 5) [(4, .int u2), (0, .ref (ya Y o)), (1, .int x1), (2, .int x2), (3, .int x3)] C d_Sh_faultOfCells_5 (by decide) rfl ?_
  refine q_iload (pc := 7) C d_Sh_faultOfCells_7 0 rfl ?_
  obtain ⟨h3, h4⟩ := h
  refine q_if_ne (pc := 9) 25 C d_Sh_faultOfCells_9 (by decide) (fun hc => ?_) (fun hc => ?_)
  · have h := h3 hc
    refine q_iload (pc := 25) C d_Sh_faultOfCells_25 0 rfl ?_
    exact q_iret (pc := 27) C hr d_Sh_faultOfCells_27 ⟨rfl, h⟩
  have h := h4 hc
  refine q_aload_n (pc := 12) C d_Sh_faultOfCells_12 rfl 1 rfl ?_
  refine q_iload_n (pc := 13) C d_Sh_faultOfCells_13 rfl 3 rfl ?_
  refine q_iload_n (pc := 14) C d_Sh_faultOfCells_14 rfl 4 rfl ?_
  refine q_callVIr (pc := 15) (st := []) (d := o) C (m_Sh_holds hY ho h) mi_Sh_holds ho (by decide) rfl wd_392 rfl rfl (Nat.le_of_ble_eq_true rfl) (by decide) (by decide) d_Sh_faultOfCells_15 (fun u15 h => ?_)
  obtain ⟨h1, h2⟩ := h
  refine q_if_ne (pc := 18) 25 C d_Sh_faultOfCells_18 (by decide) (fun hc => ?_) (fun hc => ?_)
  · have h := h1 hc
    refine q_iload (pc := 25) C d_Sh_faultOfCells_25 0 rfl ?_
    exact q_iret (pc := 27) C hr d_Sh_faultOfCells_27 ⟨rfl, h⟩
  have h := h2 hc
  refine q_iconst (pc := 21) (v := 3) C d_Sh_faultOfCells_21 (by decide) ?_
  refine q_goto (pc := 22) 27 C d_Sh_faultOfCells_22 (by decide) ?_
  exact q_iret (pc := 27) C hr d_Sh_faultOfCells_27 ⟨rfl, h⟩
theorem d_Lc_hasHouse_0 : decode prog_1_method_38_code 0 = .ok (.aload_n 0, 1) := by decide +kernel
theorem d_Lc_hasHouse_1 : decode prog_1_method_38_code 1 = .ok (.getfield 12, 3) := by decide +kernel
theorem d_Lc_hasHouse_4 : decode prog_1_method_38_code 4 = .ok (.getfield 105, 3) := by decide +kernel
theorem d_Lc_hasHouse_7 : decode prog_1_method_38_code 7 = .ok (.ifCond .le 7, 3) := by decide +kernel
theorem d_Lc_hasHouse_10 : decode prog_1_method_38_code 10 = .ok (.iconst 1, 1) := by decide +kernel
theorem d_Lc_hasHouse_11 : decode prog_1_method_38_code 11 = .ok (.goto 4, 3) := by decide +kernel
theorem d_Lc_hasHouse_14 : decode prog_1_method_38_code 14 = .ok (.iconst 0, 1) := by decide +kernel
theorem d_Lc_hasHouse_15 : decode prog_1_method_38_code 15 = .ok (.ireturn, 1) := by decide +kernel
abbrev y_Lc_hasHouse : MethodName := ⟨"LoadCycles", "hasHouse", "()Z"⟩
theorem mi_Lc_hasHouse : miV y_Lc_hasHouse prog_1_method_38_code 1 (some .boolean) 0 := ⟨wd_395, wd_7, wd_65, wd_396, by decide, by decide, by decide +kernel⟩
def w_Lc_hasHouse  (σ : Sg) (K : Int32 → Prop) : Prop :=
  (((σ 1 4) ≤ 0 → K (0 : Int32)) ∧ (¬ (σ 1 4) ≤ 0 → K (1 : Int32)))
set_option maxHeartbeats 4000000 in
theorem m_Lc_hasHouse {Y : Yx}  {σ : Sg} {K : Int32 → Prop} (hY : YD Y)  (h : w_Lc_hasHouse σ K) : MetI Y y_Lc_hasHouse prog_1_method_38_code 1 (.boolean) 0 0 [.ref (ya Y 0)] σ (fun r τ => τ = σ ∧ K r) := by
  refine met_I [(0, .ref (ya Y 0))] hY (by decide) (Nat.le_of_ble_eq_true rfl) rfl (fun X C hr => ?_)
  unfold w_Lc_hasHouse at h
  refine q_aload_n (pc := 0) C d_Lc_hasHouse_0 rfl 0 rfl ?_
  refine q_get (pc := 1) (c := 0) (ci := 6) (k := 0) (v := .ref (ya Y 1)) C rfl (by decide) (by decide) wd_230 rfl d_Lc_hasHouse_1 ?_
  refine q_get (pc := 4) (c := 1) (ci := 2) (k := 4) (v := .int (σ 1 4)) C rfl (by decide) (by decide) wd_103 rfl d_Lc_hasHouse_4 ?_
  obtain ⟨h1, h2⟩ := h
  refine q_if_le (pc := 7) 14 C d_Lc_hasHouse_7 (by decide) (fun hc => ?_) (fun hc => ?_)
  · have h := h1 hc
    refine q_iconst (pc := 14) (v := 0) C d_Lc_hasHouse_14 (by decide) ?_
    exact q_zret (pc := 15) C hr d_Lc_hasHouse_15 bz0 ⟨rfl, h⟩
  have h := h2 hc
  refine q_iconst (pc := 10) (v := 1) C d_Lc_hasHouse_10 (by decide) ?_
  refine q_goto (pc := 11) 15 C d_Lc_hasHouse_11 (by decide) ?_
  exact q_zret (pc := 15) C hr d_Lc_hasHouse_15 bz1 ⟨rfl, h⟩
theorem d_Lc_meter_0 : decode prog_1_method_5_code 0 = .ok (.aload_n 0, 1) := by decide +kernel
theorem d_Lc_meter_1 : decode prog_1_method_5_code 1 = .ok (.iconst 0, 1) := by decide +kernel
theorem d_Lc_meter_2 : decode prog_1_method_5_code 2 = .ok (.putfield 66, 3) := by decide +kernel
theorem d_Lc_meter_5 : decode prog_1_method_5_code 5 = .ok (.iload_n 1, 1) := by decide +kernel
theorem d_Lc_meter_6 : decode prog_1_method_5_code 6 = .ok (.invokestatic 70, 3) := by decide +kernel
theorem d_Lc_meter_9 : decode prog_1_method_5_code 9 = .ok (.ifCond .ne 5, 3) := by decide +kernel
theorem d_Lc_meter_12 : decode prog_1_method_5_code 12 = .ok (.iconst (-1), 1) := by decide +kernel
theorem d_Lc_meter_13 : decode prog_1_method_5_code 13 = .ok (.ireturn, 1) := by decide +kernel
theorem d_Lc_meter_14 : decode prog_1_method_5_code 14 = .ok (.iload_n 2, 1) := by decide +kernel
theorem d_Lc_meter_15 : decode prog_1_method_5_code 15 = .ok (.invokestatic 74, 3) := by decide +kernel
theorem d_Lc_meter_18 : decode prog_1_method_5_code 18 = .ok (.ifCond .eq 15, 3) := by decide +kernel
theorem d_Lc_meter_21 : decode prog_1_method_5_code 21 = .ok (.iload 4, 2) := by decide +kernel
theorem d_Lc_meter_23 : decode prog_1_method_5_code 23 = .ok (.ifCond .lt 10, 3) := by decide +kernel
theorem d_Lc_meter_26 : decode prog_1_method_5_code 26 = .ok (.iload 4, 2) := by decide +kernel
theorem d_Lc_meter_28 : decode prog_1_method_5_code 28 = .ok (.bipush 20, 2) := by decide +kernel
theorem d_Lc_meter_30 : decode prog_1_method_5_code 30 = .ok (.if_icmp .le 6, 3) := by decide +kernel
theorem d_Lc_meter_33 : decode prog_1_method_5_code 33 = .ok (.bipush (-2), 2) := by decide +kernel
theorem d_Lc_meter_35 : decode prog_1_method_5_code 35 = .ok (.ireturn, 1) := by decide +kernel
theorem d_Lc_meter_36 : decode prog_1_method_5_code 36 = .ok (.aload_n 0, 1) := by decide +kernel
theorem d_Lc_meter_37 : decode prog_1_method_5_code 37 = .ok (.getfield 54, 3) := by decide +kernel
theorem d_Lc_meter_40 : decode prog_1_method_5_code 40 = .ok (.iload_n 1, 1) := by decide +kernel
theorem d_Lc_meter_41 : decode prog_1_method_5_code 41 = .ok (.aaload, 1) := by decide +kernel
theorem d_Lc_meter_42 : decode prog_1_method_5_code 42 = .ok (.astore 5, 2) := by decide +kernel
theorem d_Lc_meter_44 : decode prog_1_method_5_code 44 = .ok (.aload 5, 2) := by decide +kernel
theorem d_Lc_meter_46 : decode prog_1_method_5_code 46 = .ok (.iload_n 2, 1) := by decide +kernel
theorem d_Lc_meter_47 : decode prog_1_method_5_code 47 = .ok (.iload_n 3, 1) := by decide +kernel
theorem d_Lc_meter_48 : decode prog_1_method_5_code 48 = .ok (.iload 4, 2) := by decide +kernel
theorem d_Lc_meter_50 : decode prog_1_method_5_code 50 = .ok (.invokevirtual 134, 3) := by decide +kernel
theorem d_Lc_meter_53 : decode prog_1_method_5_code 53 = .ok (.istore 6, 2) := by decide +kernel
theorem d_Lc_meter_55 : decode prog_1_method_5_code 55 = .ok (.iload 6, 2) := by decide +kernel
theorem d_Lc_meter_57 : decode prog_1_method_5_code 57 = .ok (.ifCond .eq 10, 3) := by decide +kernel
theorem d_Lc_meter_60 : decode prog_1_method_5_code 60 = .ok (.aload_n 0, 1) := by decide +kernel
theorem d_Lc_meter_61 : decode prog_1_method_5_code 61 = .ok (.iload 6, 2) := by decide +kernel
theorem d_Lc_meter_63 : decode prog_1_method_5_code 63 = .ok (.invokevirtual 85, 3) := by decide +kernel
theorem d_Lc_meter_66 : decode prog_1_method_5_code 66 = .ok (.ireturn, 1) := by decide +kernel
theorem d_Lc_meter_67 : decode prog_1_method_5_code 67 = .ok (.aload_n 0, 1) := by decide +kernel
theorem d_Lc_meter_68 : decode prog_1_method_5_code 68 = .ok (.invokevirtual 138, 3) := by decide +kernel
theorem d_Lc_meter_71 : decode prog_1_method_5_code 71 = .ok (.ifCond .ne 6, 3) := by decide +kernel
theorem d_Lc_meter_74 : decode prog_1_method_5_code 74 = .ok (.bipush (-3), 2) := by decide +kernel
theorem d_Lc_meter_76 : decode prog_1_method_5_code 76 = .ok (.ireturn, 1) := by decide +kernel
theorem d_Lc_meter_77 : decode prog_1_method_5_code 77 = .ok (.iconst 0, 1) := by decide +kernel
theorem d_Lc_meter_78 : decode prog_1_method_5_code 78 = .ok (.istore 7, 2) := by decide +kernel
theorem d_Lc_meter_80 : decode prog_1_method_5_code 80 = .ok (.iload 7, 2) := by decide +kernel
theorem d_Lc_meter_82 : decode prog_1_method_5_code 82 = .ok (.iload 4, 2) := by decide +kernel
theorem d_Lc_meter_84 : decode prog_1_method_5_code 84 = .ok (.if_icmp .ge 47, 3) := by decide +kernel
theorem d_Lc_meter_87 : decode prog_1_method_5_code 87 = .ok (.aload 5, 2) := by decide +kernel
theorem d_Lc_meter_89 : decode prog_1_method_5_code 89 = .ok (.getfield 142, 3) := by decide +kernel
theorem d_Lc_meter_92 : decode prog_1_method_5_code 92 = .ok (.iload_n 3, 1) := by decide +kernel
theorem d_Lc_meter_93 : decode prog_1_method_5_code 93 = .ok (.iload 7, 2) := by decide +kernel
theorem d_Lc_meter_95 : decode prog_1_method_5_code 95 = .ok (.iadd, 1) := by decide +kernel
theorem d_Lc_meter_96 : decode prog_1_method_5_code 96 = .ok (.iaload, 1) := by decide +kernel
theorem d_Lc_meter_97 : decode prog_1_method_5_code 97 = .ok (.aload_n 0, 1) := by decide +kernel
theorem d_Lc_meter_98 : decode prog_1_method_5_code 98 = .ok (.getfield 12, 3) := by decide +kernel
theorem d_Lc_meter_101 : decode prog_1_method_5_code 101 = .ok (.getfield 145, 3) := by decide +kernel
theorem d_Lc_meter_104 : decode prog_1_method_5_code 104 = .ok (.if_icmp .lt 18, 3) := by decide +kernel
theorem d_Lc_meter_107 : decode prog_1_method_5_code 107 = .ok (.aload 5, 2) := by decide +kernel
theorem d_Lc_meter_109 : decode prog_1_method_5_code 109 = .ok (.getfield 142, 3) := by decide +kernel
theorem d_Lc_meter_112 : decode prog_1_method_5_code 112 = .ok (.iload_n 3, 1) := by decide +kernel
theorem d_Lc_meter_113 : decode prog_1_method_5_code 113 = .ok (.iload 7, 2) := by decide +kernel
theorem d_Lc_meter_115 : decode prog_1_method_5_code 115 = .ok (.iadd, 1) := by decide +kernel
theorem d_Lc_meter_116 : decode prog_1_method_5_code 116 = .ok (.iaload, 1) := by decide +kernel
theorem d_Lc_meter_117 : decode prog_1_method_5_code 117 = .ok (.bipush 99, 2) := by decide +kernel
theorem d_Lc_meter_119 : decode prog_1_method_5_code 119 = .ok (.if_icmp .le 6, 3) := by decide +kernel
theorem d_Lc_meter_122 : decode prog_1_method_5_code 122 = .ok (.bipush (-2), 2) := by decide +kernel
theorem d_Lc_meter_124 : decode prog_1_method_5_code 124 = .ok (.ireturn, 1) := by decide +kernel
theorem d_Lc_meter_125 : decode prog_1_method_5_code 125 = .ok (.iinc 7 1, 3) := by decide +kernel
theorem d_Lc_meter_128 : decode prog_1_method_5_code 128 = .ok (.goto (-48), 3) := by decide +kernel
theorem d_Lc_meter_131 : decode prog_1_method_5_code 131 = .ok (.aload 5, 2) := by decide +kernel
theorem d_Lc_meter_133 : decode prog_1_method_5_code 133 = .ok (.getfield 142, 3) := by decide +kernel
theorem d_Lc_meter_136 : decode prog_1_method_5_code 136 = .ok (.iload_n 3, 1) := by decide +kernel
theorem d_Lc_meter_137 : decode prog_1_method_5_code 137 = .ok (.aload_n 0, 1) := by decide +kernel
theorem d_Lc_meter_138 : decode prog_1_method_5_code 138 = .ok (.getfield 12, 3) := by decide +kernel
theorem d_Lc_meter_141 : decode prog_1_method_5_code 141 = .ok (.getfield 148, 3) := by decide +kernel
theorem d_Lc_meter_144 : decode prog_1_method_5_code 144 = .ok (.iconst 0, 1) := by decide +kernel
theorem d_Lc_meter_145 : decode prog_1_method_5_code 145 = .ok (.iload 4, 2) := by decide +kernel
theorem d_Lc_meter_147 : decode prog_1_method_5_code 147 = .ok (.invokestatic 151, 3) := by decide +kernel
theorem d_Lc_meter_150 : decode prog_1_method_5_code 150 = .ok (.aload_n 0, 1) := by decide +kernel
theorem d_Lc_meter_151 : decode prog_1_method_5_code 151 = .ok (.getfield 12, 3) := by decide +kernel
theorem d_Lc_meter_154 : decode prog_1_method_5_code 154 = .ok (.iload 4, 2) := by decide +kernel
theorem d_Lc_meter_156 : decode prog_1_method_5_code 156 = .ok (.putfield 157, 3) := by decide +kernel
theorem d_Lc_meter_159 : decode prog_1_method_5_code 159 = .ok (.aload_n 0, 1) := by decide +kernel
theorem d_Lc_meter_160 : decode prog_1_method_5_code 160 = .ok (.invokevirtual 102, 3) := by decide +kernel
theorem d_Lc_meter_163 : decode prog_1_method_5_code 163 = .ok (.iload 4, 2) := by decide +kernel
theorem d_Lc_meter_165 : decode prog_1_method_5_code 165 = .ok (.ireturn, 1) := by decide +kernel
abbrev y_Lc_meter : MethodName := ⟨"LoadCycles", "meter", "(IIII)I"⟩
theorem mi_Lc_meter : miV y_Lc_meter prog_1_method_5_code 8 (some .int) 4 := ⟨wd_384, wd_385, wd_65, wd_386, by decide, by decide, by decide +kernel⟩
def L_Lc_meter_80 (x1 : Int32) (x2 : Int32) (x3 : Int32) (x4 : Int32) (c5 : Nat) (K : Int32 → Sg → Prop) : Nat → Int32 → Sg → Prop
  | 0, _, _ => False
  | n + 1, v7, σ =>
    ((x4 ≤ v7 → (cpk x3 (0 : Int32) x4 60 20 ∧ (∀ τ147 : Sg, τ147 = s1 σ 5 (va_cpy (σ (c5 + 1)) (σ 5) x3.toNatClampNeg (0 : Int32).toNatClampNeg x4.toNatClampNeg) → (∀ τ156 : Sg, τ156 = s2 τ147 1 5 x4 → w_Lc_forgetBest τ156 (fun τ160 => K x4 τ160))))) ∧ (¬ x4 ≤ v7 → (vp_in (x3 + v7) 60 ∧ (((σ (c5 + 1) (x3 + v7).toNatClampNeg) < (σ 1 6) → K (-2 : Int32) σ) ∧ (¬ (σ (c5 + 1) (x3 + v7).toNatClampNeg) < (σ 1 6) → (vp_in (x3 + v7) 60 ∧ (((σ (c5 + 1) (x3 + v7).toNatClampNeg) ≤ (99 : Int32) → L_Lc_meter_80 x1 x2 x3 x4 c5 K n (v7 + (1 : Int32)) σ) ∧ (¬ (σ (c5 + 1) (x3 + v7).toNatClampNeg) ≤ (99 : Int32) → K (-2 : Int32) σ))))))))
theorem t_Lc_meter_80 {X : Bx} {Y : Yx} {x1 : Int32} {x2 : Int32} {x3 : Int32} {x4 : Int32} {c5 : Nat} {K : Int32 → Sg → Prop}  (hY : YD Y) (C : Cx X Y prog_1_method_5_code 8 "LoadCycles" 3 65) (hr : (xh X).sig.returnType = some .int) (hkc5 : kd c5 = 3) : ∀ (n : Nat) (v7 : Int32) (σ : Sg), L_Lc_meter_80 x1 x2 x3 x4 c5 K n v7 σ → St X Y 8 (QI X Y K) 80 [(0, .ref (ya Y 0)), (3, .int x3), (4, .int x4), (5, .ref (ya Y c5)), (7, .int v7)] [] σ := by
  intro n
  induction n with
  | zero => intro v7 σ h; exact h.elim
  | succ n ih =>
    intro v7 σ h
    unfold L_Lc_meter_80 at h
    refine q_iload (pc := 80) C d_Lc_meter_80 4 rfl ?_
    refine q_iload (pc := 82) C d_Lc_meter_82 2 rfl ?_
    obtain ⟨h9, h10⟩ := h
    refine q_icmp_ge (pc := 84) 131 C d_Lc_meter_84 (by decide) (fun hc => ?_) (fun hc => ?_)
    · have h := h9 hc
      refine q_aload (pc := 131) C d_Lc_meter_131 3 rfl ?_
      refine q_get (pc := 133) (c := c5) (ci := 3) (k := 0) (v := .ref (ya Y (c5 + 1))) C hkc5 (by decide) (by decide) wd_219 rfl d_Lc_meter_133 ?_
      refine q_iload_n (pc := 136) C d_Lc_meter_136 rfl 1 rfl ?_
      refine q_aload_n (pc := 137) C d_Lc_meter_137 rfl 0 rfl ?_
      refine q_get (pc := 138) (c := 0) (ci := 6) (k := 0) (v := .ref (ya Y 1)) C rfl (by decide) (by decide) wd_230 rfl d_Lc_meter_138 ?_
      refine q_get (pc := 141) (c := 1) (ci := 2) (k := 3) (v := .ref (ya Y 5)) C rfl (by decide) (by decide) wd_98 rfl d_Lc_meter_141 ?_
      refine q_iconst (pc := 144) (v := 0) C d_Lc_meter_144 (by decide) ?_
      refine q_iload (pc := 145) C d_Lc_meter_145 2 rfl ?_
      obtain ⟨h2, h⟩ := h
      refine q_copy (pc := 147) (c0 := (c5 + 1)) (c1 := 5) (st := []) C (k3_1 hkc5) ⟨rfl, rfl⟩ h2 wd_397 wd_344 wd_343 wd_73 (by decide) (by decide) d_Lc_meter_147 ?_
      refine q_nms (fun τ147 eτ147 => ?_)
      replace h := h τ147 eτ147
      refine q_aload_n (pc := 150) C d_Lc_meter_150 rfl 0 rfl ?_
      refine q_get (pc := 151) (c := 0) (ci := 6) (k := 0) (v := .ref (ya Y 1)) C rfl (by decide) (by decide) wd_230 rfl d_Lc_meter_151 ?_
      refine q_iload (pc := 154) C d_Lc_meter_154 2 rfl ?_
      refine q_put (pc := 156) (c := 1) (ci := 2) (k := 5) C rfl (by decide) (by decide) wd_107 rfl rfl rfl fs_2_5 d_Lc_meter_156 ?_
      refine q_nms (fun τ156 eτ156 => ?_)
      replace h := h τ156 eτ156
      refine q_aload_n (pc := 159) C d_Lc_meter_159 rfl 0 rfl ?_
      refine q_callVV (pc := 160) (st := []) (d := 0) C (m_Lc_forgetBest hY h) mi_Lc_forgetBest rfl (by decide) rfl wd_345 rfl rfl (Nat.le_of_ble_eq_true rfl) (by decide) (by decide) d_Lc_meter_160 (fun τ160 h => ?_)
      refine q_iload (pc := 163) C d_Lc_meter_163 2 rfl ?_
      exact q_iret (pc := 165) C hr d_Lc_meter_165 h
    have h := h10 hc
    refine q_aload (pc := 87) C d_Lc_meter_87 3 rfl ?_
    refine q_get (pc := 89) (c := c5) (ci := 3) (k := 0) (v := .ref (ya Y (c5 + 1))) C hkc5 (by decide) (by decide) wd_219 rfl d_Lc_meter_89 ?_
    refine q_iload_n (pc := 92) C d_Lc_meter_92 rfl 1 rfl ?_
    refine q_iload (pc := 93) C d_Lc_meter_93 4 rfl ?_
    refine q_iadd (pc := 95) C d_Lc_meter_95 ?_
    obtain ⟨h3, h⟩ := h
    refine q_iald (pc := 96) (c := (c5 + 1)) C (k3_1 hkc5) h3 d_Lc_meter_96 ?_
    refine q_aload_n (pc := 97) C d_Lc_meter_97 rfl 0 rfl ?_
    refine q_get (pc := 98) (c := 0) (ci := 6) (k := 0) (v := .ref (ya Y 1)) C rfl (by decide) (by decide) wd_230 rfl d_Lc_meter_98 ?_
    refine q_get (pc := 101) (c := 1) (ci := 2) (k := 6) (v := .int (σ 1 6)) C rfl (by decide) (by decide) wd_110 rfl d_Lc_meter_101 ?_
    obtain ⟨h7, h8⟩ := h
    refine q_icmp_lt (pc := 104) 122 C d_Lc_meter_104 (by decide) (fun hc => ?_) (fun hc => ?_)
    · have h := h7 hc
      refine q_bipush (pc := 122) (v := -2) C d_Lc_meter_122 (by decide) ?_
      exact q_iret (pc := 124) C hr d_Lc_meter_124 h
    have h := h8 hc
    refine q_aload (pc := 107) C d_Lc_meter_107 3 rfl ?_
    refine q_get (pc := 109) (c := c5) (ci := 3) (k := 0) (v := .ref (ya Y (c5 + 1))) C hkc5 (by decide) (by decide) wd_219 rfl d_Lc_meter_109 ?_
    refine q_iload_n (pc := 112) C d_Lc_meter_112 rfl 1 rfl ?_
    refine q_iload (pc := 113) C d_Lc_meter_113 4 rfl ?_
    refine q_iadd (pc := 115) C d_Lc_meter_115 ?_
    obtain ⟨h4, h⟩ := h
    refine q_iald (pc := 116) (c := (c5 + 1)) C (k3_1 hkc5) h4 d_Lc_meter_116 ?_
    refine q_bipush (pc := 117) (v := 99) C d_Lc_meter_117 (by decide) ?_
    obtain ⟨h5, h6⟩ := h
    refine q_icmp_le (pc := 119) 125 C d_Lc_meter_119 (by decide) (fun hc => ?_) (fun hc => ?_)
    · have h := h5 hc
      refine q_iinc (pc := 125) (v7 + (1 : Int32)) [(7, .int (v7 + (1 : Int32))), (0, .ref (ya Y 0)), (3, .int x3), (4, .int x4), (5, .ref (ya Y c5))] C d_Lc_meter_125 4 rfl rfl (by decide) rfl ?_
      refine q_goto (pc := 128) 80 C d_Lc_meter_128 (by decide) ?_
      refine q_sub [(0, .ref (ya Y 0)), (3, .int x3), (4, .int x4), (5, .ref (ya Y c5)), (7, .int (v7 + (1 : Int32)))] [1, 2, 3, 4, 0] rfl ?_
      exact ih (v7 + (1 : Int32)) σ h
    have h := h6 hc
    refine q_bipush (pc := 122) (v := -2) C d_Lc_meter_122 (by decide) ?_
    exact q_iret (pc := 124) C hr d_Lc_meter_124 h
def w_Lc_meter (x1 : Int32) (x2 : Int32) (x3 : Int32) (x4 : Int32) (σ : Sg) (K : Int32 → Sg → Prop) : Prop :=
  (∀ τ2 : Sg, τ2 = s2 σ 0 13 (0 : Int32) → w_Lc_isSheet x1 τ2 (fun u6 => ((¬ u6 = 0 → w_Lc_isLane x2 τ2 (fun u15 => ((u15 = 0 → K (-2 : Int32) τ2) ∧ (¬ u15 = 0 → ((x4 < 0 → K (-2 : Int32) τ2) ∧ (¬ x4 < 0 → ((x4 ≤ (20 : Int32) → (vp_in x1 4 ∧ w_Sh_faultOfCells (33 + 2 * x1.toNatClampNeg) x2 x3 x4 τ2 (fun u50 => ((u50 = 0 → w_Lc_hasHouse τ2 (fun u68 => ((¬ u68 = 0 → (∃ n11 : Nat, L_Lc_meter_80 x1 x2 x3 x4 (33 + 2 * x1.toNatClampNeg) K n11 (0 : Int32) τ2)) ∧ (u68 = 0 → K (-3 : Int32) τ2)))) ∧ (¬ u50 = 0 → w_Lc_faulted u50 τ2 (fun u63 τ63 => K u63 τ63)))))) ∧ (¬ x4 ≤ (20 : Int32) → K (-2 : Int32) τ2)))))))) ∧ (u6 = 0 → K (-1 : Int32) τ2))))
set_option maxHeartbeats 4000000 in
theorem m_Lc_meter {Y : Yx} {x1 : Int32} {x2 : Int32} {x3 : Int32} {x4 : Int32} {σ : Sg} {K : Int32 → Sg → Prop} (hY : YD Y)  (h : w_Lc_meter x1 x2 x3 x4 σ K) : MetI Y y_Lc_meter prog_1_method_5_code 8 (.int) 3 65 [.ref (ya Y 0), .int x1, .int x2, .int x3, .int x4] σ K := by
  refine met_I [(0, .ref (ya Y 0)), (1, .int x1), (2, .int x2), (3, .int x3), (4, .int x4)] hY (by decide) (Nat.le_of_ble_eq_true rfl) rfl (fun X C hr => ?_)
  unfold w_Lc_meter at h
  refine q_aload_n (pc := 0) C d_Lc_meter_0 rfl 0 rfl ?_
  refine q_iconst (pc := 1) (v := 0) C d_Lc_meter_1 (by decide) ?_
  refine q_put (pc := 2) (c := 0) (ci := 6) (k := 13) C rfl (by decide) (by decide) wd_243 rfl rfl rfl fs_6_13 d_Lc_meter_2 ?_
  refine q_nms (fun τ2 eτ2 => ?_)
  replace h := h τ2 eτ2
  refine q_iload_n (pc := 5) C d_Lc_meter_5 rfl 1 rfl ?_
  refine q_callSIr (pc := 6) (st := []) C (m_Lc_isSheet hY h) mi_Lc_isSheet wd_277 rfl rfl (Nat.le_of_ble_eq_true rfl) (by decide) (by decide) d_Lc_meter_6 (fun u6 h => ?_)
  obtain ⟨h22, h23⟩ := h
  refine q_if_ne (pc := 9) 14 C d_Lc_meter_9 (by decide) (fun hc => ?_) (fun hc => ?_)
  · have h := h22 hc
    refine q_iload_n (pc := 14) C d_Lc_meter_14 rfl 2 rfl ?_
    refine q_callSIr (pc := 15) (st := []) C (m_Lc_isLane hY h) mi_Lc_isLane wd_280 rfl rfl (Nat.le_of_ble_eq_true rfl) (by decide) (by decide) d_Lc_meter_15 (fun u15 h => ?_)
    obtain ⟨h20, h21⟩ := h
    refine q_if_eq (pc := 18) 33 C d_Lc_meter_18 (by decide) (fun hc => ?_) (fun hc => ?_)
    · have h := h20 hc
      refine q_bipush (pc := 33) (v := -2) C d_Lc_meter_33 (by decide) ?_
      exact q_iret (pc := 35) C hr d_Lc_meter_35 h
    have h := h21 hc
    refine q_iload (pc := 21) C d_Lc_meter_21 4 rfl ?_
    obtain ⟨h18, h19⟩ := h
    refine q_if_lt (pc := 23) 33 C d_Lc_meter_23 (by decide) (fun hc => ?_) (fun hc => ?_)
    · have h := h18 hc
      refine q_bipush (pc := 33) (v := -2) C d_Lc_meter_33 (by decide) ?_
      exact q_iret (pc := 35) C hr d_Lc_meter_35 h
    have h := h19 hc
    refine q_iload (pc := 26) C d_Lc_meter_26 4 rfl ?_
    refine q_bipush (pc := 28) (v := 20) C d_Lc_meter_28 (by decide) ?_
    obtain ⟨h16, h17⟩ := h
    refine q_icmp_le (pc := 30) 36 C d_Lc_meter_30 (by decide) (fun hc => ?_) (fun hc => ?_)
    · have h := h16 hc
      refine q_aload_n (pc := 36) C d_Lc_meter_36 rfl 0 rfl ?_
      refine q_get (pc := 37) (c := 0) (ci := 6) (k := 7) (v := .ref (ya Y 32)) C rfl (by decide) (by decide) wd_237 rfl d_Lc_meter_37 ?_
      refine q_iload_n (pc := 40) C d_Lc_meter_40 rfl 1 rfl ?_
      obtain ⟨h1, h⟩ := h
      refine q_aald (pc := 41) C h1 d_Lc_meter_41 ?_
      refine q_astore (pc := 42) [(5, .ref (ya Y (33 + 2 * x1.toNatClampNeg))), (0, .ref (ya Y 0)), (1, .int x1), (2, .int x2), (3, .int x3), (4, .int x4)] C d_Lc_meter_42 (by decide) rfl ?_
      refine q_aload (pc := 44) C d_Lc_meter_44 0 rfl ?_
      refine q_iload_n (pc := 46) C d_Lc_meter_46 rfl 3 rfl ?_
      refine q_iload_n (pc := 47) C d_Lc_meter_47 rfl 4 rfl ?_
      refine q_iload (pc := 48) C d_Lc_meter_48 5 rfl ?_
      refine q_callVIr (pc := 50) (st := []) (d := (33 + 2 * x1.toNatClampNeg)) C (m_Sh_faultOfCells hY (iaS h1) h) mi_Sh_faultOfCells (iaS h1) (by decide) rfl wd_387 rfl rfl (Nat.le_of_ble_eq_true rfl) (by decide) (by decide) d_Lc_meter_50 (fun u50 h => ?_)
      refine q_istore (pc := 53) [(6, .int u50), (5, .ref (ya Y (33 + 2 * x1.toNatClampNeg))), (0, .ref (ya Y 0)), (1, .int x1), (2, .int x2), (3, .int x3), (4, .int x4)] C d_Lc_meter_53 (by decide) rfl ?_
      refine q_iload (pc := 55) C d_Lc_meter_55 0 rfl ?_
      obtain ⟨h14, h15⟩ := h
      refine q_if_eq (pc := 57) 67 C d_Lc_meter_57 (by decide) (fun hc => ?_) (fun hc => ?_)
      · have h := h14 hc
        refine q_aload_n (pc := 67) C d_Lc_meter_67 rfl 2 rfl ?_
        refine q_callVIr (pc := 68) (st := []) (d := 0) C (m_Lc_hasHouse hY h) mi_Lc_hasHouse rfl (by decide) rfl wd_393 rfl rfl (Nat.le_of_ble_eq_true rfl) (by decide) (by decide) d_Lc_meter_68 (fun u68 h => ?_)
        obtain ⟨h12, h13⟩ := h
        refine q_if_ne (pc := 71) 77 C d_Lc_meter_71 (by decide) (fun hc => ?_) (fun hc => ?_)
        · have h := h12 hc
          refine q_iconst (pc := 77) (v := 0) C d_Lc_meter_77 (by decide) ?_
          refine q_istore (pc := 78) [(7, .int (0 : Int32)), (6, .int u50), (5, .ref (ya Y (33 + 2 * x1.toNatClampNeg))), (0, .ref (ya Y 0)), (1, .int x1), (2, .int x2), (3, .int x3), (4, .int x4)] C d_Lc_meter_78 (by decide) rfl ?_
          obtain ⟨n11, h⟩ := h
          refine q_sub [(0, .ref (ya Y 0)), (3, .int x3), (4, .int x4), (5, .ref (ya Y (33 + 2 * x1.toNatClampNeg))), (7, .int (0 : Int32))] [3, 6, 7, 2, 0] rfl ?_
          exact t_Lc_meter_80 hY C hr ((iaS h1)) n11 (0 : Int32) τ2 h
        have h := h13 hc
        refine q_bipush (pc := 74) (v := -3) C d_Lc_meter_74 (by decide) ?_
        exact q_iret (pc := 76) C hr d_Lc_meter_76 h
      have h := h15 hc
      refine q_aload_n (pc := 60) C d_Lc_meter_60 rfl 2 rfl ?_
      refine q_iload (pc := 61) C d_Lc_meter_61 0 rfl ?_
      refine q_callVI (pc := 63) (st := []) (d := 0) C (m_Lc_faulted hY h) mi_Lc_faulted rfl (by decide) rfl wd_295 rfl rfl (Nat.le_of_ble_eq_true rfl) (by decide) (by decide) d_Lc_meter_63 (fun u63 τ63 h => ?_)
      exact q_iret (pc := 66) C hr d_Lc_meter_66 h
    have h := h17 hc
    refine q_bipush (pc := 33) (v := -2) C d_Lc_meter_33 (by decide) ?_
    exact q_iret (pc := 35) C hr d_Lc_meter_35 h
  have h := h23 hc
  refine q_iconst (pc := 12) (v := -1) C d_Lc_meter_12 (by decide) ?_
  exact q_iret (pc := 13) C hr d_Lc_meter_13 h
theorem d_Ho_hasTime_0 : decode prog_4_method_5_code 0 = .ok (.iload_n 1, 1) := by decide +kernel
theorem d_Ho_hasTime_1 : decode prog_4_method_5_code 1 = .ok (.ifCond .lt 15, 3) := by decide +kernel
theorem d_Ho_hasTime_4 : decode prog_4_method_5_code 4 = .ok (.iload_n 1, 1) := by decide +kernel
theorem d_Ho_hasTime_5 : decode prog_4_method_5_code 5 = .ok (.aload_n 0, 1) := by decide +kernel
theorem d_Ho_hasTime_6 : decode prog_4_method_5_code 6 = .ok (.getfield 34, 3) := by decide +kernel
theorem d_Ho_hasTime_9 : decode prog_4_method_5_code 9 = .ok (.if_icmp .ge 7, 3) := by decide +kernel
theorem d_Ho_hasTime_12 : decode prog_4_method_5_code 12 = .ok (.iconst 1, 1) := by decide +kernel
theorem d_Ho_hasTime_13 : decode prog_4_method_5_code 13 = .ok (.goto 4, 3) := by decide +kernel
theorem d_Ho_hasTime_16 : decode prog_4_method_5_code 16 = .ok (.iconst 0, 1) := by decide +kernel
theorem d_Ho_hasTime_17 : decode prog_4_method_5_code 17 = .ok (.ireturn, 1) := by decide +kernel
abbrev y_Ho_hasTime : MethodName := ⟨"LoadCycles$House", "hasTime", "(I)Z"⟩
theorem mi_Ho_hasTime : miV y_Ho_hasTime prog_4_method_5_code 2 (some .boolean) 1 := ⟨wd_403, wd_404, wd_66, wd_405, by decide, by decide, by decide +kernel⟩
def w_Ho_hasTime (o : Nat) (x1 : Int32) (σ : Sg) (K : Int32 → Prop) : Prop :=
  ((x1 < 0 → K (0 : Int32)) ∧ (¬ x1 < 0 → (((σ o 5) ≤ x1 → K (0 : Int32)) ∧ (¬ (σ o 5) ≤ x1 → K (1 : Int32)))))
set_option maxHeartbeats 4000000 in
theorem m_Ho_hasTime {Y : Yx} {o : Nat} {x1 : Int32} {σ : Sg} {K : Int32 → Prop} (hY : YD Y) (ho : kd o = 2) (h : w_Ho_hasTime o x1 σ K) : MetI Y y_Ho_hasTime prog_4_method_5_code 2 (.boolean) 0 0 [.ref (ya Y o), .int x1] σ (fun r τ => τ = σ ∧ K r) := by
  refine met_I [(0, .ref (ya Y o)), (1, .int x1)] hY (by decide) (Nat.le_of_ble_eq_true rfl) rfl (fun X C hr => ?_)
  unfold w_Ho_hasTime at h
  refine q_iload_n (pc := 0) C d_Ho_hasTime_0 rfl 1 rfl ?_
  obtain ⟨h3, h4⟩ := h
  refine q_if_lt (pc := 1) 16 C d_Ho_hasTime_1 (by decide) (fun hc => ?_) (fun hc => ?_)
  · have h := h3 hc
    refine q_iconst (pc := 16) (v := 0) C d_Ho_hasTime_16 (by decide) ?_
    exact q_zret (pc := 17) C hr d_Ho_hasTime_17 bz0 ⟨rfl, h⟩
  have h := h4 hc
  refine q_iload_n (pc := 4) C d_Ho_hasTime_4 rfl 1 rfl ?_
  refine q_aload_n (pc := 5) C d_Ho_hasTime_5 rfl 0 rfl ?_
  refine q_get (pc := 6) (c := o) (ci := 2) (k := 5) (v := .int (σ o 5)) C ho (by decide) (by decide) wd_105 rfl d_Ho_hasTime_6 ?_
  obtain ⟨h1, h2⟩ := h
  refine q_icmp_ge (pc := 9) 16 C d_Ho_hasTime_9 (by decide) (fun hc => ?_) (fun hc => ?_)
  · have h := h1 hc
    refine q_iconst (pc := 16) (v := 0) C d_Ho_hasTime_16 (by decide) ?_
    exact q_zret (pc := 17) C hr d_Ho_hasTime_17 bz0 ⟨rfl, h⟩
  have h := h2 hc
  refine q_iconst (pc := 12) (v := 1) C d_Ho_hasTime_12 (by decide) ?_
  refine q_goto (pc := 13) 17 C d_Ho_hasTime_13 (by decide) ?_
  exact q_zret (pc := 17) C hr d_Ho_hasTime_17 bz1 ⟨rfl, h⟩
theorem d_Lc_value_0 : decode prog_1_method_6_code 0 = .ok (.aload_n 0, 1) := by decide +kernel
theorem d_Lc_value_1 : decode prog_1_method_6_code 1 = .ok (.getfield 12, 3) := by decide +kernel
theorem d_Lc_value_4 : decode prog_1_method_6_code 4 = .ok (.iload_n 1, 1) := by decide +kernel
theorem d_Lc_value_5 : decode prog_1_method_6_code 5 = .ok (.invokevirtual 160, 3) := by decide +kernel
theorem d_Lc_value_8 : decode prog_1_method_6_code 8 = .ok (.ifCond .eq 15, 3) := by decide +kernel
theorem d_Lc_value_11 : decode prog_1_method_6_code 11 = .ok (.aload_n 0, 1) := by decide +kernel
theorem d_Lc_value_12 : decode prog_1_method_6_code 12 = .ok (.getfield 12, 3) := by decide +kernel
theorem d_Lc_value_15 : decode prog_1_method_6_code 15 = .ok (.getfield 148, 3) := by decide +kernel
theorem d_Lc_value_18 : decode prog_1_method_6_code 18 = .ok (.iload_n 1, 1) := by decide +kernel
theorem d_Lc_value_19 : decode prog_1_method_6_code 19 = .ok (.iaload, 1) := by decide +kernel
theorem d_Lc_value_20 : decode prog_1_method_6_code 20 = .ok (.goto 4, 3) := by decide +kernel
theorem d_Lc_value_23 : decode prog_1_method_6_code 23 = .ok (.iconst (-1), 1) := by decide +kernel
theorem d_Lc_value_24 : decode prog_1_method_6_code 24 = .ok (.ireturn, 1) := by decide +kernel
abbrev y_Lc_value : MethodName := ⟨"LoadCycles", "value", "(I)I"⟩
theorem mi_Lc_value : miV y_Lc_value prog_1_method_6_code 2 (some .int) 1 := ⟨wd_399, wd_400, wd_65, wd_401, by decide, by decide, by decide +kernel⟩
def w_Lc_value (x1 : Int32) (σ : Sg) (K : Int32 → Prop) : Prop :=
  w_Ho_hasTime 1 x1 σ (fun u5 => ((u5 = 0 → K (-1 : Int32)) ∧ (¬ u5 = 0 → (vp_in x1 20 ∧ K (σ 5 x1.toNatClampNeg)))))
set_option maxHeartbeats 4000000 in
theorem m_Lc_value {Y : Yx} {x1 : Int32} {σ : Sg} {K : Int32 → Prop} (hY : YD Y)  (h : w_Lc_value x1 σ K) : MetI Y y_Lc_value prog_1_method_6_code 2 (.int) 1 21 [.ref (ya Y 0), .int x1] σ (fun r τ => τ = σ ∧ K r) := by
  refine met_I [(0, .ref (ya Y 0)), (1, .int x1)] hY (by decide) (Nat.le_of_ble_eq_true rfl) rfl (fun X C hr => ?_)
  unfold w_Lc_value at h
  refine q_aload_n (pc := 0) C d_Lc_value_0 rfl 0 rfl ?_
  refine q_get (pc := 1) (c := 0) (ci := 6) (k := 0) (v := .ref (ya Y 1)) C rfl (by decide) (by decide) wd_230 rfl d_Lc_value_1 ?_
  refine q_iload_n (pc := 4) C d_Lc_value_4 rfl 1 rfl ?_
  refine q_callVIr (pc := 5) (st := []) (d := 1) C (m_Ho_hasTime hY rfl h) mi_Ho_hasTime rfl (by decide) rfl wd_402 rfl rfl (Nat.le_of_ble_eq_true rfl) (by decide) (by decide) d_Lc_value_5 (fun u5 h => ?_)
  obtain ⟨h2, h3⟩ := h
  refine q_if_eq (pc := 8) 23 C d_Lc_value_8 (by decide) (fun hc => ?_) (fun hc => ?_)
  · have h := h2 hc
    refine q_iconst (pc := 23) (v := -1) C d_Lc_value_23 (by decide) ?_
    exact q_iret (pc := 24) C hr d_Lc_value_24 ⟨rfl, h⟩
  have h := h3 hc
  refine q_aload_n (pc := 11) C d_Lc_value_11 rfl 0 rfl ?_
  refine q_get (pc := 12) (c := 0) (ci := 6) (k := 0) (v := .ref (ya Y 1)) C rfl (by decide) (by decide) wd_230 rfl d_Lc_value_12 ?_
  refine q_get (pc := 15) (c := 1) (ci := 2) (k := 3) (v := .ref (ya Y 5)) C rfl (by decide) (by decide) wd_98 rfl d_Lc_value_15 ?_
  refine q_iload_n (pc := 18) C d_Lc_value_18 rfl 1 rfl ?_
  obtain ⟨h1, h⟩ := h
  refine q_iald (pc := 19) (c := 5) C ⟨rfl, rfl⟩ h1 d_Lc_value_19 ?_
  refine q_goto (pc := 20) 24 C d_Lc_value_20 (by decide) ?_
  exact q_iret (pc := 24) C hr d_Lc_value_24 ⟨rfl, h⟩
theorem d_Lc_isMeterValue_0 : decode prog_1_method_37_code 0 = .ok (.iload_n 0, 1) := by decide +kernel
theorem d_Lc_isMeterValue_1 : decode prog_1_method_37_code 1 = .ok (.ifCond .lt 13, 3) := by decide +kernel
theorem d_Lc_isMeterValue_4 : decode prog_1_method_37_code 4 = .ok (.iload_n 0, 1) := by decide +kernel
theorem d_Lc_isMeterValue_5 : decode prog_1_method_37_code 5 = .ok (.bipush 99, 2) := by decide +kernel
theorem d_Lc_isMeterValue_7 : decode prog_1_method_37_code 7 = .ok (.if_icmp .gt 7, 3) := by decide +kernel
theorem d_Lc_isMeterValue_10 : decode prog_1_method_37_code 10 = .ok (.iconst 1, 1) := by decide +kernel
theorem d_Lc_isMeterValue_11 : decode prog_1_method_37_code 11 = .ok (.goto 4, 3) := by decide +kernel
theorem d_Lc_isMeterValue_14 : decode prog_1_method_37_code 14 = .ok (.iconst 0, 1) := by decide +kernel
theorem d_Lc_isMeterValue_15 : decode prog_1_method_37_code 15 = .ok (.ireturn, 1) := by decide +kernel
abbrev y_Lc_isMeterValue : MethodName := ⟨"LoadCycles", "isMeterValue", "(I)Z"⟩
theorem mi_Lc_isMeterValue : miS y_Lc_isMeterValue prog_1_method_37_code 1 (some .boolean) 1 := ⟨wd_411, wd_65, wd_412, by decide, by decide, by decide +kernel⟩
def w_Lc_isMeterValue (x0 : Int32) (σ : Sg) (K : Int32 → Prop) : Prop :=
  ((x0 < 0 → K (0 : Int32)) ∧ (¬ x0 < 0 → (((99 : Int32) < x0 → K (0 : Int32)) ∧ (¬ (99 : Int32) < x0 → K (1 : Int32)))))
set_option maxHeartbeats 4000000 in
theorem m_Lc_isMeterValue {Y : Yx} {x0 : Int32} {σ : Sg} {K : Int32 → Prop} (hY : YD Y)  (h : w_Lc_isMeterValue x0 σ K) : MetI Y y_Lc_isMeterValue prog_1_method_37_code 1 (.boolean) 0 0 [.int x0] σ (fun r τ => τ = σ ∧ K r) := by
  refine met_I [(0, .int x0)] hY (by decide) (Nat.le_of_ble_eq_true rfl) rfl (fun X C hr => ?_)
  unfold w_Lc_isMeterValue at h
  refine q_iload_n (pc := 0) C d_Lc_isMeterValue_0 rfl 0 rfl ?_
  obtain ⟨h3, h4⟩ := h
  refine q_if_lt (pc := 1) 14 C d_Lc_isMeterValue_1 (by decide) (fun hc => ?_) (fun hc => ?_)
  · have h := h3 hc
    refine q_iconst (pc := 14) (v := 0) C d_Lc_isMeterValue_14 (by decide) ?_
    exact q_zret (pc := 15) C hr d_Lc_isMeterValue_15 bz0 ⟨rfl, h⟩
  have h := h4 hc
  refine q_iload_n (pc := 4) C d_Lc_isMeterValue_4 rfl 0 rfl ?_
  refine q_bipush (pc := 5) (v := 99) C d_Lc_isMeterValue_5 (by decide) ?_
  obtain ⟨h1, h2⟩ := h
  refine q_icmp_gt (pc := 7) 14 C d_Lc_isMeterValue_7 (by decide) (fun hc => ?_) (fun hc => ?_)
  · have h := h1 hc
    refine q_iconst (pc := 14) (v := 0) C d_Lc_isMeterValue_14 (by decide) ?_
    exact q_zret (pc := 15) C hr d_Lc_isMeterValue_15 bz0 ⟨rfl, h⟩
  have h := h2 hc
  refine q_iconst (pc := 10) (v := 1) C d_Lc_isMeterValue_10 (by decide) ?_
  refine q_goto (pc := 11) 15 C d_Lc_isMeterValue_11 (by decide) ?_
  exact q_zret (pc := 15) C hr d_Lc_isMeterValue_15 bz1 ⟨rfl, h⟩
theorem d_Ho_allowsBase_0 : decode prog_4_method_16_code 0 = .ok (.iconst 0, 1) := by decide +kernel
theorem d_Ho_allowsBase_1 : decode prog_4_method_16_code 1 = .ok (.istore_n 2, 1) := by decide +kernel
theorem d_Ho_allowsBase_2 : decode prog_4_method_16_code 2 = .ok (.iload_n 2, 1) := by decide +kernel
theorem d_Ho_allowsBase_3 : decode prog_4_method_16_code 3 = .ok (.aload_n 0, 1) := by decide +kernel
theorem d_Ho_allowsBase_4 : decode prog_4_method_16_code 4 = .ok (.getfield 34, 3) := by decide +kernel
theorem d_Ho_allowsBase_7 : decode prog_4_method_16_code 7 = .ok (.if_icmp .ge 21, 3) := by decide +kernel
theorem d_Ho_allowsBase_10 : decode prog_4_method_16_code 10 = .ok (.aload_n 0, 1) := by decide +kernel
theorem d_Ho_allowsBase_11 : decode prog_4_method_16_code 11 = .ok (.getfield 21, 3) := by decide +kernel
theorem d_Ho_allowsBase_14 : decode prog_4_method_16_code 14 = .ok (.iload_n 2, 1) := by decide +kernel
theorem d_Ho_allowsBase_15 : decode prog_4_method_16_code 15 = .ok (.iaload, 1) := by decide +kernel
theorem d_Ho_allowsBase_16 : decode prog_4_method_16_code 16 = .ok (.iload_n 1, 1) := by decide +kernel
theorem d_Ho_allowsBase_17 : decode prog_4_method_16_code 17 = .ok (.if_icmp .ge 5, 3) := by decide +kernel
theorem d_Ho_allowsBase_20 : decode prog_4_method_16_code 20 = .ok (.iconst 0, 1) := by decide +kernel
theorem d_Ho_allowsBase_21 : decode prog_4_method_16_code 21 = .ok (.ireturn, 1) := by decide +kernel
theorem d_Ho_allowsBase_22 : decode prog_4_method_16_code 22 = .ok (.iinc 2 1, 3) := by decide +kernel
theorem d_Ho_allowsBase_25 : decode prog_4_method_16_code 25 = .ok (.goto (-23), 3) := by decide +kernel
theorem d_Ho_allowsBase_28 : decode prog_4_method_16_code 28 = .ok (.iconst 1, 1) := by decide +kernel
theorem d_Ho_allowsBase_29 : decode prog_4_method_16_code 29 = .ok (.ireturn, 1) := by decide +kernel
abbrev y_Ho_allowsBase : MethodName := ⟨"LoadCycles$House", "allowsBase", "(I)Z"⟩
theorem mi_Ho_allowsBase : miV y_Ho_allowsBase prog_4_method_16_code 3 (some .boolean) 1 := ⟨wd_414, wd_415, wd_66, wd_416, by decide, by decide, by decide +kernel⟩
def L_Ho_allowsBase_2 (o : Nat) (x1 : Int32) (σ : Sg) (K : Int32 → Prop) : Nat → Int32 → Prop
  | 0, _ => False
  | n + 1, v2 =>
    (((σ o 5) ≤ v2 → K (1 : Int32)) ∧ (¬ (σ o 5) ≤ v2 → (vp_in v2 20 ∧ ((x1 ≤ (σ (o + 4) v2.toNatClampNeg) → L_Ho_allowsBase_2 o x1 σ K n (v2 + (1 : Int32))) ∧ (¬ x1 ≤ (σ (o + 4) v2.toNatClampNeg) → K (0 : Int32))))))
theorem t_Ho_allowsBase_2 {X : Bx} {Y : Yx} {o : Nat} {x1 : Int32} {σ : Sg} {K : Int32 → Prop}  (hY : YD Y) (C : Cx X Y prog_4_method_16_code 3 "LoadCycles$House" 0 0) (hr : (xh X).sig.returnType = some .boolean) (ho : kd o = 2) : ∀ (n : Nat) (v2 : Int32), L_Ho_allowsBase_2 o x1 σ K n v2 → St X Y 3 (QI X Y (fun r τ => τ = σ ∧ K r)) 2 [(0, .ref (ya Y o)), (1, .int x1), (2, .int v2)] [] σ := by
  intro n
  induction n with
  | zero => intro v2 h; exact h.elim
  | succ n ih =>
    intro v2 h
    unfold L_Ho_allowsBase_2 at h
    refine q_iload_n (pc := 2) C d_Ho_allowsBase_2 rfl 2 rfl ?_
    refine q_aload_n (pc := 3) C d_Ho_allowsBase_3 rfl 0 rfl ?_
    refine q_get (pc := 4) (c := o) (ci := 2) (k := 5) (v := .int (σ o 5)) C ho (by decide) (by decide) wd_105 rfl d_Ho_allowsBase_4 ?_
    obtain ⟨h4, h5⟩ := h
    refine q_icmp_ge (pc := 7) 28 C d_Ho_allowsBase_7 (by decide) (fun hc => ?_) (fun hc => ?_)
    · have h := h4 hc
      refine q_iconst (pc := 28) (v := 1) C d_Ho_allowsBase_28 (by decide) ?_
      exact q_zret (pc := 29) C hr d_Ho_allowsBase_29 bz1 ⟨rfl, h⟩
    have h := h5 hc
    refine q_aload_n (pc := 10) C d_Ho_allowsBase_10 rfl 0 rfl ?_
    refine q_get (pc := 11) (c := o) (ci := 2) (k := 3) (v := .ref (ya Y (o + 4))) C ho (by decide) (by decide) wd_97 rfl d_Ho_allowsBase_11 ?_
    refine q_iload_n (pc := 14) C d_Ho_allowsBase_14 rfl 2 rfl ?_
    obtain ⟨h1, h⟩ := h
    refine q_iald (pc := 15) (c := (o + 4)) C (k2_4 ho) h1 d_Ho_allowsBase_15 ?_
    refine q_iload_n (pc := 16) C d_Ho_allowsBase_16 rfl 1 rfl ?_
    obtain ⟨h2, h3⟩ := h
    refine q_icmp_ge (pc := 17) 22 C d_Ho_allowsBase_17 (by decide) (fun hc => ?_) (fun hc => ?_)
    · have h := h2 hc
      refine q_iinc (pc := 22) (v2 + (1 : Int32)) [(2, .int (v2 + (1 : Int32))), (0, .ref (ya Y o)), (1, .int x1)] C d_Ho_allowsBase_22 2 rfl rfl (by decide) rfl ?_
      refine q_goto (pc := 25) 2 C d_Ho_allowsBase_25 (by decide) ?_
      refine q_sub [(0, .ref (ya Y o)), (1, .int x1), (2, .int (v2 + (1 : Int32)))] [1, 2, 0] rfl ?_
      exact ih (v2 + (1 : Int32)) h
    have h := h3 hc
    refine q_iconst (pc := 20) (v := 0) C d_Ho_allowsBase_20 (by decide) ?_
    exact q_zret (pc := 21) C hr d_Ho_allowsBase_21 bz0 ⟨rfl, h⟩
def w_Ho_allowsBase (o : Nat) (x1 : Int32) (σ : Sg) (K : Int32 → Prop) : Prop :=
  (∃ n6 : Nat, L_Ho_allowsBase_2 o x1 σ K n6 (0 : Int32))
set_option maxHeartbeats 4000000 in
theorem m_Ho_allowsBase {Y : Yx} {o : Nat} {x1 : Int32} {σ : Sg} {K : Int32 → Prop} (hY : YD Y) (ho : kd o = 2) (h : w_Ho_allowsBase o x1 σ K) : MetI Y y_Ho_allowsBase prog_4_method_16_code 3 (.boolean) 0 0 [.ref (ya Y o), .int x1] σ (fun r τ => τ = σ ∧ K r) := by
  refine met_I [(0, .ref (ya Y o)), (1, .int x1)] hY (by decide) (Nat.le_of_ble_eq_true rfl) rfl (fun X C hr => ?_)
  unfold w_Ho_allowsBase at h
  refine q_iconst (pc := 0) (v := 0) C d_Ho_allowsBase_0 (by decide) ?_
  refine q_istore_n (pc := 1) [(2, .int (0 : Int32)), (0, .ref (ya Y o)), (1, .int x1)] C d_Ho_allowsBase_1 rfl (by decide) rfl ?_
  obtain ⟨n6, h⟩ := h
  refine q_sub [(0, .ref (ya Y o)), (1, .int x1), (2, .int (0 : Int32))] [1, 2, 0] rfl ?_
  exact t_Ho_allowsBase_2 hY C hr ho n6 (0 : Int32) h
theorem d_Lc_base_0 : decode prog_1_method_7_code 0 = .ok (.iload_n 1, 1) := by decide +kernel
theorem d_Lc_base_1 : decode prog_1_method_7_code 1 = .ok (.invokestatic 163, 3) := by decide +kernel
theorem d_Lc_base_4 : decode prog_1_method_7_code 4 = .ok (.ifCond .ne 6, 3) := by decide +kernel
theorem d_Lc_base_7 : decode prog_1_method_7_code 7 = .ok (.bipush (-2), 2) := by decide +kernel
theorem d_Lc_base_9 : decode prog_1_method_7_code 9 = .ok (.ireturn, 1) := by decide +kernel
theorem d_Lc_base_10 : decode prog_1_method_7_code 10 = .ok (.aload_n 0, 1) := by decide +kernel
theorem d_Lc_base_11 : decode prog_1_method_7_code 11 = .ok (.invokevirtual 138, 3) := by decide +kernel
theorem d_Lc_base_14 : decode prog_1_method_7_code 14 = .ok (.ifCond .eq 14, 3) := by decide +kernel
theorem d_Lc_base_17 : decode prog_1_method_7_code 17 = .ok (.aload_n 0, 1) := by decide +kernel
theorem d_Lc_base_18 : decode prog_1_method_7_code 18 = .ok (.getfield 12, 3) := by decide +kernel
theorem d_Lc_base_21 : decode prog_1_method_7_code 21 = .ok (.iload_n 1, 1) := by decide +kernel
theorem d_Lc_base_22 : decode prog_1_method_7_code 22 = .ok (.invokevirtual 166, 3) := by decide +kernel
theorem d_Lc_base_25 : decode prog_1_method_7_code 25 = .ok (.ifCond .ne 6, 3) := by decide +kernel
theorem d_Lc_base_28 : decode prog_1_method_7_code 28 = .ok (.bipush (-3), 2) := by decide +kernel
theorem d_Lc_base_30 : decode prog_1_method_7_code 30 = .ok (.ireturn, 1) := by decide +kernel
theorem d_Lc_base_31 : decode prog_1_method_7_code 31 = .ok (.aload_n 0, 1) := by decide +kernel
theorem d_Lc_base_32 : decode prog_1_method_7_code 32 = .ok (.getfield 12, 3) := by decide +kernel
theorem d_Lc_base_35 : decode prog_1_method_7_code 35 = .ok (.getfield 145, 3) := by decide +kernel
theorem d_Lc_base_38 : decode prog_1_method_7_code 38 = .ok (.istore_n 2, 1) := by decide +kernel
theorem d_Lc_base_39 : decode prog_1_method_7_code 39 = .ok (.aload_n 0, 1) := by decide +kernel
theorem d_Lc_base_40 : decode prog_1_method_7_code 40 = .ok (.getfield 12, 3) := by decide +kernel
theorem d_Lc_base_43 : decode prog_1_method_7_code 43 = .ok (.iload_n 1, 1) := by decide +kernel
theorem d_Lc_base_44 : decode prog_1_method_7_code 44 = .ok (.putfield 145, 3) := by decide +kernel
theorem d_Lc_base_47 : decode prog_1_method_7_code 47 = .ok (.aload_n 0, 1) := by decide +kernel
theorem d_Lc_base_48 : decode prog_1_method_7_code 48 = .ok (.invokevirtual 102, 3) := by decide +kernel
theorem d_Lc_base_51 : decode prog_1_method_7_code 51 = .ok (.iload_n 2, 1) := by decide +kernel
theorem d_Lc_base_52 : decode prog_1_method_7_code 52 = .ok (.ireturn, 1) := by decide +kernel
abbrev y_Lc_base : MethodName := ⟨"LoadCycles", "base", "(I)I"⟩
theorem mi_Lc_base : miV y_Lc_base prog_1_method_7_code 3 (some .int) 1 := ⟨wd_407, wd_408, wd_65, wd_409, by decide, by decide, by decide +kernel⟩
def w_Lc_base (x1 : Int32) (σ : Sg) (K : Int32 → Sg → Prop) : Prop :=
  w_Lc_isMeterValue x1 σ (fun u1 => ((¬ u1 = 0 → w_Lc_hasHouse σ (fun u11 => ((u11 = 0 → K (-3 : Int32) σ) ∧ (¬ u11 = 0 → w_Ho_allowsBase 1 x1 σ (fun u22 => ((¬ u22 = 0 → (∀ y2_38 : Int32, y2_38 = (σ 1 6) → (∀ τ44 : Sg, τ44 = s2 σ 1 6 x1 → w_Lc_forgetBest τ44 (fun τ48 => K y2_38 τ48)))) ∧ (u22 = 0 → K (-3 : Int32) σ))))))) ∧ (u1 = 0 → K (-2 : Int32) σ)))
set_option maxHeartbeats 4000000 in
theorem m_Lc_base {Y : Yx} {x1 : Int32} {σ : Sg} {K : Int32 → Sg → Prop} (hY : YD Y)  (h : w_Lc_base x1 σ K) : MetI Y y_Lc_base prog_1_method_7_code 3 (.int) 2 41 [.ref (ya Y 0), .int x1] σ K := by
  refine met_I [(0, .ref (ya Y 0)), (1, .int x1)] hY (by decide) (Nat.le_of_ble_eq_true rfl) rfl (fun X C hr => ?_)
  unfold w_Lc_base at h
  refine q_iload_n (pc := 0) C d_Lc_base_0 rfl 1 rfl ?_
  refine q_callSIr (pc := 1) (st := []) C (m_Lc_isMeterValue hY h) mi_Lc_isMeterValue wd_410 rfl rfl (Nat.le_of_ble_eq_true rfl) (by decide) (by decide) d_Lc_base_1 (fun u1 h => ?_)
  obtain ⟨h5, h6⟩ := h
  refine q_if_ne (pc := 4) 10 C d_Lc_base_4 (by decide) (fun hc => ?_) (fun hc => ?_)
  · have h := h5 hc
    refine q_aload_n (pc := 10) C d_Lc_base_10 rfl 0 rfl ?_
    refine q_callVIr (pc := 11) (st := []) (d := 0) C (m_Lc_hasHouse hY h) mi_Lc_hasHouse rfl (by decide) rfl wd_393 rfl rfl (Nat.le_of_ble_eq_true rfl) (by decide) (by decide) d_Lc_base_11 (fun u11 h => ?_)
    obtain ⟨h3, h4⟩ := h
    refine q_if_eq (pc := 14) 28 C d_Lc_base_14 (by decide) (fun hc => ?_) (fun hc => ?_)
    · have h := h3 hc
      refine q_bipush (pc := 28) (v := -3) C d_Lc_base_28 (by decide) ?_
      exact q_iret (pc := 30) C hr d_Lc_base_30 h
    have h := h4 hc
    refine q_aload_n (pc := 17) C d_Lc_base_17 rfl 0 rfl ?_
    refine q_get (pc := 18) (c := 0) (ci := 6) (k := 0) (v := .ref (ya Y 1)) C rfl (by decide) (by decide) wd_230 rfl d_Lc_base_18 ?_
    refine q_iload_n (pc := 21) C d_Lc_base_21 rfl 1 rfl ?_
    refine q_callVIr (pc := 22) (st := []) (d := 1) C (m_Ho_allowsBase hY rfl h) mi_Ho_allowsBase rfl (by decide) rfl wd_413 rfl rfl (Nat.le_of_ble_eq_true rfl) (by decide) (by decide) d_Lc_base_22 (fun u22 h => ?_)
    obtain ⟨h1, h2⟩ := h
    refine q_if_ne (pc := 25) 31 C d_Lc_base_25 (by decide) (fun hc => ?_) (fun hc => ?_)
    · have h := h1 hc
      refine q_aload_n (pc := 31) C d_Lc_base_31 rfl 0 rfl ?_
      refine q_get (pc := 32) (c := 0) (ci := 6) (k := 0) (v := .ref (ya Y 1)) C rfl (by decide) (by decide) wd_230 rfl d_Lc_base_32 ?_
      refine q_get (pc := 35) (c := 1) (ci := 2) (k := 6) (v := .int (σ 1 6)) C rfl (by decide) (by decide) wd_110 rfl d_Lc_base_35 ?_
      refine q_nmi (fun y2_38 ey2_38 => ?_)
      replace h := h y2_38 ey2_38
      refine q_istore_n (pc := 38) [(2, .int y2_38), (0, .ref (ya Y 0)), (1, .int x1)] C d_Lc_base_38 rfl (by decide) rfl ?_
      refine q_aload_n (pc := 39) C d_Lc_base_39 rfl 1 rfl ?_
      refine q_get (pc := 40) (c := 0) (ci := 6) (k := 0) (v := .ref (ya Y 1)) C rfl (by decide) (by decide) wd_230 rfl d_Lc_base_40 ?_
      refine q_iload_n (pc := 43) C d_Lc_base_43 rfl 2 rfl ?_
      refine q_put (pc := 44) (c := 1) (ci := 2) (k := 6) C rfl (by decide) (by decide) wd_110 rfl rfl rfl fs_2_6 d_Lc_base_44 ?_
      refine q_nms (fun τ44 eτ44 => ?_)
      replace h := h τ44 eτ44
      refine q_aload_n (pc := 47) C d_Lc_base_47 rfl 1 rfl ?_
      refine q_callVV (pc := 48) (st := []) (d := 0) C (m_Lc_forgetBest hY h) mi_Lc_forgetBest rfl (by decide) rfl wd_345 rfl rfl (Nat.le_of_ble_eq_true rfl) (by decide) (by decide) d_Lc_base_48 (fun τ48 h => ?_)
      refine q_iload_n (pc := 51) C d_Lc_base_51 rfl 0 rfl ?_
      exact q_iret (pc := 52) C hr d_Lc_base_52 h
    have h := h2 hc
    refine q_bipush (pc := 28) (v := -3) C d_Lc_base_28 (by decide) ?_
    exact q_iret (pc := 30) C hr d_Lc_base_30 h
  have h := h6 hc
  refine q_bipush (pc := 7) (v := -2) C d_Lc_base_7 (by decide) ?_
  exact q_iret (pc := 9) C hr d_Lc_base_9 h
theorem d_Ho_stateAfter_0 : decode prog_4_method_12_code 0 = .ok (.iload_n 2, 1) := by decide +kernel
theorem d_Ho_stateAfter_1 : decode prog_4_method_12_code 1 = .ok (.aload_n 0, 1) := by decide +kernel
theorem d_Ho_stateAfter_2 : decode prog_4_method_12_code 2 = .ok (.getfield 15, 3) := by decide +kernel
theorem d_Ho_stateAfter_5 : decode prog_4_method_12_code 5 = .ok (.iload_n 1, 1) := by decide +kernel
theorem d_Ho_stateAfter_6 : decode prog_4_method_12_code 6 = .ok (.iaload, 1) := by decide +kernel
theorem d_Ho_stateAfter_7 : decode prog_4_method_12_code 7 = .ok (.if_icmp .ge 9, 3) := by decide +kernel
theorem d_Ho_stateAfter_10 : decode prog_4_method_12_code 10 = .ok (.iload_n 2, 1) := by decide +kernel
theorem d_Ho_stateAfter_11 : decode prog_4_method_12_code 11 = .ok (.iconst 1, 1) := by decide +kernel
theorem d_Ho_stateAfter_12 : decode prog_4_method_12_code 12 = .ok (.iadd, 1) := by decide +kernel
theorem d_Ho_stateAfter_13 : decode prog_4_method_12_code 13 = .ok (.goto 4, 3) := by decide +kernel
theorem d_Ho_stateAfter_16 : decode prog_4_method_12_code 16 = .ok (.iconst 0, 1) := by decide +kernel
theorem d_Ho_stateAfter_17 : decode prog_4_method_12_code 17 = .ok (.ireturn, 1) := by decide +kernel
abbrev y_Ho_stateAfter : MethodName := ⟨"LoadCycles$House", "stateAfter", "(II)I"⟩
theorem mi_Ho_stateAfter : miV y_Ho_stateAfter prog_4_method_12_code 3 (some .int) 2 := ⟨wd_439, wd_440, wd_66, wd_441, by decide, by decide, by decide +kernel⟩
def w_Ho_stateAfter (o : Nat) (x1 : Int32) (x2 : Int32) (σ : Sg) (K : Int32 → Prop) : Prop :=
  (vp_in x1 4 ∧ (((σ (o + 2) x1.toNatClampNeg) ≤ x2 → K (0 : Int32)) ∧ (¬ (σ (o + 2) x1.toNatClampNeg) ≤ x2 → K (x2 + (1 : Int32)))))
set_option maxHeartbeats 4000000 in
theorem m_Ho_stateAfter {Y : Yx} {o : Nat} {x1 : Int32} {x2 : Int32} {σ : Sg} {K : Int32 → Prop} (hY : YD Y) (ho : kd o = 2) (h : w_Ho_stateAfter o x1 x2 σ K) : MetI Y y_Ho_stateAfter prog_4_method_12_code 3 (.int) 0 0 [.ref (ya Y o), .int x1, .int x2] σ (fun r τ => τ = σ ∧ K r) := by
  refine met_I [(0, .ref (ya Y o)), (1, .int x1), (2, .int x2)] hY (by decide) (Nat.le_of_ble_eq_true rfl) rfl (fun X C hr => ?_)
  unfold w_Ho_stateAfter at h
  refine q_iload_n (pc := 0) C d_Ho_stateAfter_0 rfl 2 rfl ?_
  refine q_aload_n (pc := 1) C d_Ho_stateAfter_1 rfl 0 rfl ?_
  refine q_get (pc := 2) (c := o) (ci := 2) (k := 1) (v := .ref (ya Y (o + 2))) C ho (by decide) (by decide) wd_93 rfl d_Ho_stateAfter_2 ?_
  refine q_iload_n (pc := 5) C d_Ho_stateAfter_5 rfl 1 rfl ?_
  obtain ⟨h1, h⟩ := h
  refine q_iald (pc := 6) (c := (o + 2)) C (k2_2 ho) h1 d_Ho_stateAfter_6 ?_
  obtain ⟨h2, h3⟩ := h
  refine q_icmp_ge (pc := 7) 16 C d_Ho_stateAfter_7 (by decide) (fun hc => ?_) (fun hc => ?_)
  · have h := h2 hc
    refine q_iconst (pc := 16) (v := 0) C d_Ho_stateAfter_16 (by decide) ?_
    exact q_iret (pc := 17) C hr d_Ho_stateAfter_17 ⟨rfl, h⟩
  have h := h3 hc
  refine q_iload_n (pc := 10) C d_Ho_stateAfter_10 rfl 2 rfl ?_
  refine q_iconst (pc := 11) (v := 1) C d_Ho_stateAfter_11 (by decide) ?_
  refine q_iadd (pc := 12) C d_Ho_stateAfter_12 ?_
  refine q_goto (pc := 13) 17 C d_Ho_stateAfter_13 (by decide) ?_
  exact q_iret (pc := 17) C hr d_Ho_stateAfter_17 ⟨rfl, h⟩
theorem d_Un_repeatAfter_0 : decode prog_7_method_5_code 0 = .ok (.iload_n 1, 1) := by decide +kernel
theorem d_Un_repeatAfter_1 : decode prog_7_method_5_code 1 = .ok (.sipush 256, 3) := by decide +kernel
theorem d_Un_repeatAfter_4 : decode prog_7_method_5_code 4 = .ok (.imul, 1) := by decide +kernel
theorem d_Un_repeatAfter_5 : decode prog_7_method_5_code 5 = .ok (.istore 4, 2) := by decide +kernel
theorem d_Un_repeatAfter_7 : decode prog_7_method_5_code 7 = .ok (.iconst 0, 1) := by decide +kernel
theorem d_Un_repeatAfter_8 : decode prog_7_method_5_code 8 = .ok (.istore 5, 2) := by decide +kernel
theorem d_Un_repeatAfter_10 : decode prog_7_method_5_code 10 = .ok (.iload 5, 2) := by decide +kernel
theorem d_Un_repeatAfter_12 : decode prog_7_method_5_code 12 = .ok (.iload_n 3, 1) := by decide +kernel
theorem d_Un_repeatAfter_13 : decode prog_7_method_5_code 13 = .ok (.if_icmp .ge 33, 3) := by decide +kernel
theorem d_Un_repeatAfter_16 : decode prog_7_method_5_code 16 = .ok (.aload_n 0, 1) := by decide +kernel
theorem d_Un_repeatAfter_17 : decode prog_7_method_5_code 17 = .ok (.getfield 15, 3) := by decide +kernel
theorem d_Un_repeatAfter_20 : decode prog_7_method_5_code 20 = .ok (.iload 4, 2) := by decide +kernel
theorem d_Un_repeatAfter_22 : decode prog_7_method_5_code 22 = .ok (.iload_n 2, 1) := by decide +kernel
theorem d_Un_repeatAfter_23 : decode prog_7_method_5_code 23 = .ok (.iadd, 1) := by decide +kernel
theorem d_Un_repeatAfter_24 : decode prog_7_method_5_code 24 = .ok (.iload 5, 2) := by decide +kernel
theorem d_Un_repeatAfter_26 : decode prog_7_method_5_code 26 = .ok (.iadd, 1) := by decide +kernel
theorem d_Un_repeatAfter_27 : decode prog_7_method_5_code 27 = .ok (.iload_n 2, 1) := by decide +kernel
theorem d_Un_repeatAfter_28 : decode prog_7_method_5_code 28 = .ok (.aload_n 0, 1) := by decide +kernel
theorem d_Un_repeatAfter_29 : decode prog_7_method_5_code 29 = .ok (.getfield 15, 3) := by decide +kernel
theorem d_Un_repeatAfter_32 : decode prog_7_method_5_code 32 = .ok (.iload 4, 2) := by decide +kernel
theorem d_Un_repeatAfter_34 : decode prog_7_method_5_code 34 = .ok (.iload 5, 2) := by decide +kernel
theorem d_Un_repeatAfter_36 : decode prog_7_method_5_code 36 = .ok (.iadd, 1) := by decide +kernel
theorem d_Un_repeatAfter_37 : decode prog_7_method_5_code 37 = .ok (.iaload, 1) := by decide +kernel
theorem d_Un_repeatAfter_38 : decode prog_7_method_5_code 38 = .ok (.iadd, 1) := by decide +kernel
theorem d_Un_repeatAfter_39 : decode prog_7_method_5_code 39 = .ok (.iastore, 1) := by decide +kernel
theorem d_Un_repeatAfter_40 : decode prog_7_method_5_code 40 = .ok (.iinc 5 1, 3) := by decide +kernel
theorem d_Un_repeatAfter_43 : decode prog_7_method_5_code 43 = .ok (.goto (-33), 3) := by decide +kernel
theorem d_Un_repeatAfter_46 : decode prog_7_method_5_code 46 = .ok (.return_, 1) := by decide +kernel
abbrev y_Un_repeatAfter : MethodName := ⟨"LoadCycles$Unmixer", "repeatAfter", "(III)V"⟩
theorem mi_Un_repeatAfter : miV y_Un_repeatAfter prog_7_method_5_code 6 none 3 := ⟨wd_444, wd_11, wd_68, wd_445, by decide, by decide, by decide +kernel⟩
def L_Un_repeatAfter_10 (x1 : Int32) (x2 : Int32) (x3 : Int32) (v4 : Int32) (K : Sg → Prop) : Nat → Int32 → Sg → Prop
  | 0, _, _ => False
  | n + 1, v5, σ =>
    ((x3 ≤ v5 → K σ) ∧ (¬ x3 ≤ v5 → (vp_in (v4 + v5) 1024 ∧ (vp_in ((v4 + x2) + v5) 1024 ∧ (∀ τ39 : Sg, τ39 = s2 σ 24 ((v4 + x2) + v5).toNatClampNeg (x2 + (σ 24 (v4 + v5).toNatClampNeg)) → L_Un_repeatAfter_10 x1 x2 x3 v4 K n (v5 + (1 : Int32)) τ39)))))
theorem t_Un_repeatAfter_10 {X : Bx} {Y : Yx} {x1 : Int32} {x2 : Int32} {x3 : Int32} {v4 : Int32} {K : Sg → Prop}  (hY : YD Y) (C : Cx X Y prog_7_method_5_code 6 "LoadCycles$Unmixer" 0 0) (hr : (xh X).sig.returnType = none)  : ∀ (n : Nat) (v5 : Int32) (σ : Sg), L_Un_repeatAfter_10 x1 x2 x3 v4 K n v5 σ → St X Y 6 (QV X Y K) 10 [(0, .ref (ya Y 22)), (2, .int x2), (3, .int x3), (4, .int v4), (5, .int v5)] [] σ := by
  intro n
  induction n with
  | zero => intro v5 σ h; exact h.elim
  | succ n ih =>
    intro v5 σ h
    unfold L_Un_repeatAfter_10 at h
    refine q_iload (pc := 10) C d_Un_repeatAfter_10 4 rfl ?_
    refine q_iload_n (pc := 12) C d_Un_repeatAfter_12 rfl 2 rfl ?_
    obtain ⟨h3, h4⟩ := h
    refine q_icmp_ge (pc := 13) 46 C d_Un_repeatAfter_13 (by decide) (fun hc => ?_) (fun hc => ?_)
    · have h := h3 hc
      exact q_vret (pc := 46) C hr d_Un_repeatAfter_46 h
    have h := h4 hc
    refine q_aload_n (pc := 16) C d_Un_repeatAfter_16 rfl 0 rfl ?_
    refine q_get (pc := 17) (c := 22) (ci := 5) (k := 1) (v := .ref (ya Y 24)) C rfl (by decide) (by decide) wd_162 rfl d_Un_repeatAfter_17 ?_
    refine q_iload (pc := 20) C d_Un_repeatAfter_20 3 rfl ?_
    refine q_iload_n (pc := 22) C d_Un_repeatAfter_22 rfl 1 rfl ?_
    refine q_iadd (pc := 23) C d_Un_repeatAfter_23 ?_
    refine q_iload (pc := 24) C d_Un_repeatAfter_24 4 rfl ?_
    refine q_iadd (pc := 26) C d_Un_repeatAfter_26 ?_
    refine q_iload_n (pc := 27) C d_Un_repeatAfter_27 rfl 1 rfl ?_
    refine q_aload_n (pc := 28) C d_Un_repeatAfter_28 rfl 0 rfl ?_
    refine q_get (pc := 29) (c := 22) (ci := 5) (k := 1) (v := .ref (ya Y 24)) C rfl (by decide) (by decide) wd_162 rfl d_Un_repeatAfter_29 ?_
    refine q_iload (pc := 32) C d_Un_repeatAfter_32 3 rfl ?_
    refine q_iload (pc := 34) C d_Un_repeatAfter_34 4 rfl ?_
    refine q_iadd (pc := 36) C d_Un_repeatAfter_36 ?_
    obtain ⟨h1, h⟩ := h
    refine q_iald (pc := 37) (c := 24) C ⟨rfl, rfl⟩ h1 d_Un_repeatAfter_37 ?_
    refine q_iadd (pc := 38) C d_Un_repeatAfter_38 ?_
    obtain ⟨h2, h⟩ := h
    refine q_iast (pc := 39) (c := 24) C ⟨rfl, rfl⟩ h2 d_Un_repeatAfter_39 ?_
    refine q_nms (fun τ39 eτ39 => ?_)
    replace h := h τ39 eτ39
    refine q_iinc (pc := 40) (v5 + (1 : Int32)) [(5, .int (v5 + (1 : Int32))), (0, .ref (ya Y 22)), (2, .int x2), (3, .int x3), (4, .int v4)] C d_Un_repeatAfter_40 4 rfl rfl (by decide) rfl ?_
    refine q_goto (pc := 43) 10 C d_Un_repeatAfter_43 (by decide) ?_
    refine q_sub [(0, .ref (ya Y 22)), (2, .int x2), (3, .int x3), (4, .int v4), (5, .int (v5 + (1 : Int32)))] [1, 2, 3, 4, 0] rfl ?_
    exact ih (v5 + (1 : Int32)) τ39 h
def w_Un_repeatAfter (x1 : Int32) (x2 : Int32) (x3 : Int32) (σ : Sg) (K : Sg → Prop) : Prop :=
  (∀ y4_5 : Int32, y4_5 = (x1 * (256 : Int32)) → (∃ n5 : Nat, L_Un_repeatAfter_10 x1 x2 x3 y4_5 K n5 (0 : Int32) σ))
set_option maxHeartbeats 4000000 in
theorem m_Un_repeatAfter {Y : Yx} {x1 : Int32} {x2 : Int32} {x3 : Int32} {σ : Sg} {K : Sg → Prop} (hY : YD Y)  (h : w_Un_repeatAfter x1 x2 x3 σ K) : MetV Y y_Un_repeatAfter prog_7_method_5_code 6 0 0 [.ref (ya Y 22), .int x1, .int x2, .int x3] σ K := by
  refine met_V [(0, .ref (ya Y 22)), (1, .int x1), (2, .int x2), (3, .int x3)] hY (by decide) (Nat.le_of_ble_eq_true rfl) rfl (fun X C hr => ?_)
  unfold w_Un_repeatAfter at h
  refine q_iload_n (pc := 0) C d_Un_repeatAfter_0 rfl 1 rfl ?_
  refine q_sipush (pc := 1) (v := 256) C d_Un_repeatAfter_1 (by decide) ?_
  refine q_imul (pc := 4) C d_Un_repeatAfter_4 ?_
  refine q_nmi (fun y4_5 ey4_5 => ?_)
  replace h := h y4_5 ey4_5
  refine q_istore (pc := 5) [(4, .int y4_5), (0, .ref (ya Y 22)), (1, .int x1), (2, .int x2), (3, .int x3)] C d_Un_repeatAfter_5 (by decide) rfl ?_
  refine q_iconst (pc := 7) (v := 0) C d_Un_repeatAfter_7 (by decide) ?_
  refine q_istore (pc := 8) [(5, .int (0 : Int32)), (4, .int y4_5), (0, .ref (ya Y 22)), (1, .int x1), (2, .int x2), (3, .int x3)] C d_Un_repeatAfter_8 (by decide) rfl ?_
  obtain ⟨n5, h⟩ := h
  refine q_sub [(0, .ref (ya Y 22)), (2, .int x2), (3, .int x3), (4, .int y4_5), (5, .int (0 : Int32))] [2, 4, 5, 1, 0] rfl ?_
  exact t_Un_repeatAfter_10 hY C hr n5 (0 : Int32) σ h
theorem d_Un_listWith_0 : decode prog_7_method_4_code 0 = .ok (.aload_n 0, 1) := by decide +kernel
theorem d_Un_listWith_1 : decode prog_7_method_4_code 1 = .ok (.getfield 59, 3) := by decide +kernel
theorem d_Un_listWith_4 : decode prog_7_method_4_code 4 = .ok (.istore_n 3, 1) := by decide +kernel
theorem d_Un_listWith_5 : decode prog_7_method_4_code 5 = .ok (.iconst 0, 1) := by decide +kernel
theorem d_Un_listWith_6 : decode prog_7_method_4_code 6 = .ok (.istore 4, 2) := by decide +kernel
theorem d_Un_listWith_8 : decode prog_7_method_4_code 8 = .ok (.iload 4, 2) := by decide +kernel
theorem d_Un_listWith_10 : decode prog_7_method_4_code 10 = .ok (.aload_n 1, 1) := by decide +kernel
theorem d_Un_listWith_11 : decode prog_7_method_4_code 11 = .ok (.getfield 66, 3) := by decide +kernel
theorem d_Un_listWith_14 : decode prog_7_method_4_code 14 = .ok (.iload_n 2, 1) := by decide +kernel
theorem d_Un_listWith_15 : decode prog_7_method_4_code 15 = .ok (.iaload, 1) := by decide +kernel
theorem d_Un_listWith_16 : decode prog_7_method_4_code 16 = .ok (.if_icmp .gt 120, 3) := by decide +kernel
theorem d_Un_listWith_19 : decode prog_7_method_4_code 19 = .ok (.aload_n 1, 1) := by decide +kernel
theorem d_Un_listWith_20 : decode prog_7_method_4_code 20 = .ok (.iload_n 2, 1) := by decide +kernel
theorem d_Un_listWith_21 : decode prog_7_method_4_code 21 = .ok (.iload 4, 2) := by decide +kernel
theorem d_Un_listWith_23 : decode prog_7_method_4_code 23 = .ok (.invokevirtual 69, 3) := by decide +kernel
theorem d_Un_listWith_26 : decode prog_7_method_4_code 26 = .ok (.istore 5, 2) := by decide +kernel
theorem d_Un_listWith_28 : decode prog_7_method_4_code 28 = .ok (.iload 4, 2) := by decide +kernel
theorem d_Un_listWith_30 : decode prog_7_method_4_code 30 = .ok (.iload_n 3, 1) := by decide +kernel
theorem d_Un_listWith_31 : decode prog_7_method_4_code 31 = .ok (.imul, 1) := by decide +kernel
theorem d_Un_listWith_32 : decode prog_7_method_4_code 32 = .ok (.istore 6, 2) := by decide +kernel
theorem d_Un_listWith_34 : decode prog_7_method_4_code 34 = .ok (.aload_n 1, 1) := by decide +kernel
theorem d_Un_listWith_35 : decode prog_7_method_4_code 35 = .ok (.iload_n 2, 1) := by decide +kernel
theorem d_Un_listWith_36 : decode prog_7_method_4_code 36 = .ok (.iload 4, 2) := by decide +kernel
theorem d_Un_listWith_38 : decode prog_7_method_4_code 38 = .ok (.invokevirtual 73, 3) := by decide +kernel
theorem d_Un_listWith_41 : decode prog_7_method_4_code 41 = .ok (.iload_n 3, 1) := by decide +kernel
theorem d_Un_listWith_42 : decode prog_7_method_4_code 42 = .ok (.imul, 1) := by decide +kernel
theorem d_Un_listWith_43 : decode prog_7_method_4_code 43 = .ok (.istore 7, 2) := by decide +kernel
theorem d_Un_listWith_45 : decode prog_7_method_4_code 45 = .ok (.iconst 0, 1) := by decide +kernel
theorem d_Un_listWith_46 : decode prog_7_method_4_code 46 = .ok (.istore 8, 2) := by decide +kernel
theorem d_Un_listWith_48 : decode prog_7_method_4_code 48 = .ok (.iload 8, 2) := by decide +kernel
theorem d_Un_listWith_50 : decode prog_7_method_4_code 50 = .ok (.iload_n 3, 1) := by decide +kernel
theorem d_Un_listWith_51 : decode prog_7_method_4_code 51 = .ok (.if_icmp .ge 50, 3) := by decide +kernel
theorem d_Un_listWith_54 : decode prog_7_method_4_code 54 = .ok (.aload_n 0, 1) := by decide +kernel
theorem d_Un_listWith_55 : decode prog_7_method_4_code 55 = .ok (.getfield 9, 3) := by decide +kernel
theorem d_Un_listWith_58 : decode prog_7_method_4_code 58 = .ok (.iload 6, 2) := by decide +kernel
theorem d_Un_listWith_60 : decode prog_7_method_4_code 60 = .ok (.iload 8, 2) := by decide +kernel
theorem d_Un_listWith_62 : decode prog_7_method_4_code 62 = .ok (.iadd, 1) := by decide +kernel
theorem d_Un_listWith_63 : decode prog_7_method_4_code 63 = .ok (.aload_n 0, 1) := by decide +kernel
theorem d_Un_listWith_64 : decode prog_7_method_4_code 64 = .ok (.getfield 9, 3) := by decide +kernel
theorem d_Un_listWith_67 : decode prog_7_method_4_code 67 = .ok (.iload 8, 2) := by decide +kernel
theorem d_Un_listWith_69 : decode prog_7_method_4_code 69 = .ok (.iaload, 1) := by decide +kernel
theorem d_Un_listWith_70 : decode prog_7_method_4_code 70 = .ok (.iload 5, 2) := by decide +kernel
theorem d_Un_listWith_72 : decode prog_7_method_4_code 72 = .ok (.iadd, 1) := by decide +kernel
theorem d_Un_listWith_73 : decode prog_7_method_4_code 73 = .ok (.iastore, 1) := by decide +kernel
theorem d_Un_listWith_74 : decode prog_7_method_4_code 74 = .ok (.aload_n 0, 1) := by decide +kernel
theorem d_Un_listWith_75 : decode prog_7_method_4_code 75 = .ok (.getfield 15, 3) := by decide +kernel
theorem d_Un_listWith_78 : decode prog_7_method_4_code 78 = .ok (.iload_n 2, 1) := by decide +kernel
theorem d_Un_listWith_79 : decode prog_7_method_4_code 79 = .ok (.sipush 256, 3) := by decide +kernel
theorem d_Un_listWith_82 : decode prog_7_method_4_code 82 = .ok (.imul, 1) := by decide +kernel
theorem d_Un_listWith_83 : decode prog_7_method_4_code 83 = .ok (.iload 6, 2) := by decide +kernel
theorem d_Un_listWith_85 : decode prog_7_method_4_code 85 = .ok (.iadd, 1) := by decide +kernel
theorem d_Un_listWith_86 : decode prog_7_method_4_code 86 = .ok (.iload 8, 2) := by decide +kernel
theorem d_Un_listWith_88 : decode prog_7_method_4_code 88 = .ok (.iadd, 1) := by decide +kernel
theorem d_Un_listWith_89 : decode prog_7_method_4_code 89 = .ok (.iload 7, 2) := by decide +kernel
theorem d_Un_listWith_91 : decode prog_7_method_4_code 91 = .ok (.iload 8, 2) := by decide +kernel
theorem d_Un_listWith_93 : decode prog_7_method_4_code 93 = .ok (.iadd, 1) := by decide +kernel
theorem d_Un_listWith_94 : decode prog_7_method_4_code 94 = .ok (.iastore, 1) := by decide +kernel
theorem d_Un_listWith_95 : decode prog_7_method_4_code 95 = .ok (.iinc 8 1, 3) := by decide +kernel
theorem d_Un_listWith_98 : decode prog_7_method_4_code 98 = .ok (.goto (-50), 3) := by decide +kernel
theorem d_Un_listWith_101 : decode prog_7_method_4_code 101 = .ok (.iload_n 2, 1) := by decide +kernel
theorem d_Un_listWith_102 : decode prog_7_method_4_code 102 = .ok (.iconst 1, 1) := by decide +kernel
theorem d_Un_listWith_103 : decode prog_7_method_4_code 103 = .ok (.iadd, 1) := by decide +kernel
theorem d_Un_listWith_104 : decode prog_7_method_4_code 104 = .ok (.istore 8, 2) := by decide +kernel
theorem d_Un_listWith_106 : decode prog_7_method_4_code 106 = .ok (.iload 8, 2) := by decide +kernel
theorem d_Un_listWith_108 : decode prog_7_method_4_code 108 = .ok (.aload_n 1, 1) := by decide +kernel
theorem d_Un_listWith_109 : decode prog_7_method_4_code 109 = .ok (.getfield 52, 3) := by decide +kernel
theorem d_Un_listWith_112 : decode prog_7_method_4_code 112 = .ok (.if_icmp .ge 18, 3) := by decide +kernel
theorem d_Un_listWith_115 : decode prog_7_method_4_code 115 = .ok (.aload_n 0, 1) := by decide +kernel
theorem d_Un_listWith_116 : decode prog_7_method_4_code 116 = .ok (.iload 8, 2) := by decide +kernel
theorem d_Un_listWith_118 : decode prog_7_method_4_code 118 = .ok (.iload 6, 2) := by decide +kernel
theorem d_Un_listWith_120 : decode prog_7_method_4_code 120 = .ok (.iload_n 3, 1) := by decide +kernel
theorem d_Un_listWith_121 : decode prog_7_method_4_code 121 = .ok (.invokevirtual 76, 3) := by decide +kernel
theorem d_Un_listWith_124 : decode prog_7_method_4_code 124 = .ok (.iinc 8 1, 3) := by decide +kernel
theorem d_Un_listWith_127 : decode prog_7_method_4_code 127 = .ok (.goto (-21), 3) := by decide +kernel
theorem d_Un_listWith_130 : decode prog_7_method_4_code 130 = .ok (.iinc 4 1, 3) := by decide +kernel
theorem d_Un_listWith_133 : decode prog_7_method_4_code 133 = .ok (.goto (-125), 3) := by decide +kernel
theorem d_Un_listWith_136 : decode prog_7_method_4_code 136 = .ok (.aload_n 0, 1) := by decide +kernel
theorem d_Un_listWith_137 : decode prog_7_method_4_code 137 = .ok (.iload_n 3, 1) := by decide +kernel
theorem d_Un_listWith_138 : decode prog_7_method_4_code 138 = .ok (.aload_n 1, 1) := by decide +kernel
theorem d_Un_listWith_139 : decode prog_7_method_4_code 139 = .ok (.getfield 66, 3) := by decide +kernel
theorem d_Un_listWith_142 : decode prog_7_method_4_code 142 = .ok (.iload_n 2, 1) := by decide +kernel
theorem d_Un_listWith_143 : decode prog_7_method_4_code 143 = .ok (.iaload, 1) := by decide +kernel
theorem d_Un_listWith_144 : decode prog_7_method_4_code 144 = .ok (.iconst 1, 1) := by decide +kernel
theorem d_Un_listWith_145 : decode prog_7_method_4_code 145 = .ok (.iadd, 1) := by decide +kernel
theorem d_Un_listWith_146 : decode prog_7_method_4_code 146 = .ok (.imul, 1) := by decide +kernel
theorem d_Un_listWith_147 : decode prog_7_method_4_code 147 = .ok (.putfield 59, 3) := by decide +kernel
theorem d_Un_listWith_150 : decode prog_7_method_4_code 150 = .ok (.return_, 1) := by decide +kernel
abbrev y_Un_listWith : MethodName := ⟨"LoadCycles$Unmixer", "listWith", "(LLoadCycles$House;I)V"⟩
theorem mi_Un_listWith : miV y_Un_listWith prog_7_method_4_code 9 none 2 := ⟨wd_435, wd_10, wd_68, wd_436, by decide, by decide, by decide +kernel⟩
def L_Un_listWith_106 (o1 : Nat) (x2 : Int32) (v3 : Int32) (v4 : Int32) (v6 : Int32) (K : Sg → Prop) (r8 : Int32 → Sg → Prop) : Nat → Int32 → Sg → Prop
  | 0, _, _ => False
  | n + 1, v8, σ =>
    (((σ o1 4) ≤ v8 → r8 (v4 + (1 : Int32)) σ) ∧ (¬ (σ o1 4) ≤ v8 → w_Un_repeatAfter v8 v6 v3 σ (fun τ121 => L_Un_listWith_106 o1 x2 v3 v4 v6 K r8 n (v8 + (1 : Int32)) τ121)))
theorem t_Un_listWith_106 {X : Bx} {Y : Yx} {o1 : Nat} {x2 : Int32} {v3 : Int32} {v4 : Int32} {v6 : Int32} {K : Sg → Prop} {r8 : Int32 → Sg → Prop} (hY : YD Y) (C : Cx X Y prog_7_method_4_code 9 "LoadCycles$Unmixer" 1 25) (hr : (xh X).sig.returnType = none) (ho1 : kd o1 = 2) (H8 : ∀ (v4 : Int32) (σ : Sg), r8 v4 σ → St X Y 9 (QV X Y K) 8 [(0, .ref (ya Y 22)), (1, .ref (ya Y o1)), (2, .int x2), (3, .int v3), (4, .int v4)] [] σ) : ∀ (n : Nat) (v8 : Int32) (σ : Sg), L_Un_listWith_106 o1 x2 v3 v4 v6 K r8 n v8 σ → St X Y 9 (QV X Y K) 106 [(0, .ref (ya Y 22)), (1, .ref (ya Y o1)), (2, .int x2), (3, .int v3), (4, .int v4), (6, .int v6), (8, .int v8)] [] σ := by
  intro n
  induction n with
  | zero => intro v8 σ h; exact h.elim
  | succ n ih =>
    intro v8 σ h
    unfold L_Un_listWith_106 at h
    refine q_iload (pc := 106) C d_Un_listWith_106 6 rfl ?_
    refine q_aload_n (pc := 108) C d_Un_listWith_108 rfl 1 rfl ?_
    refine q_get (pc := 109) (c := o1) (ci := 2) (k := 4) (v := .int (σ o1 4)) C ho1 (by decide) (by decide) wd_101 rfl d_Un_listWith_109 ?_
    obtain ⟨h3, h4⟩ := h
    refine q_icmp_ge (pc := 112) 130 C d_Un_listWith_112 (by decide) (fun hc => ?_) (fun hc => ?_)
    · have h := h3 hc
      refine q_iinc (pc := 130) (v4 + (1 : Int32)) [(4, .int (v4 + (1 : Int32))), (0, .ref (ya Y 22)), (1, .ref (ya Y o1)), (2, .int x2), (3, .int v3), (6, .int v6), (8, .int v8)] C d_Un_listWith_130 4 rfl rfl (by decide) rfl ?_
      refine q_goto (pc := 133) 8 C d_Un_listWith_133 (by decide) ?_
      refine q_sub [(0, .ref (ya Y 22)), (1, .ref (ya Y o1)), (2, .int x2), (3, .int v3), (4, .int (v4 + (1 : Int32)))] [1, 2, 3, 4, 0] rfl ?_
      exact H8 (v4 + (1 : Int32)) σ h
    have h := h4 hc
    refine q_aload_n (pc := 115) C d_Un_listWith_115 rfl 0 rfl ?_
    refine q_iload (pc := 116) C d_Un_listWith_116 6 rfl ?_
    refine q_iload (pc := 118) C d_Un_listWith_118 5 rfl ?_
    refine q_iload_n (pc := 120) C d_Un_listWith_120 rfl 3 rfl ?_
    refine q_callVV (pc := 121) (st := []) (d := 22) C (m_Un_repeatAfter hY h) mi_Un_repeatAfter rfl (by decide) rfl wd_442 rfl rfl (Nat.le_of_ble_eq_true rfl) (by decide) (by decide) d_Un_listWith_121 (fun τ121 h => ?_)
    refine q_iinc (pc := 124) (v8 + (1 : Int32)) [(8, .int (v8 + (1 : Int32))), (0, .ref (ya Y 22)), (1, .ref (ya Y o1)), (2, .int x2), (3, .int v3), (4, .int v4), (6, .int v6)] C d_Un_listWith_124 6 rfl rfl (by decide) rfl ?_
    refine q_goto (pc := 127) 106 C d_Un_listWith_127 (by decide) ?_
    refine q_sub [(0, .ref (ya Y 22)), (1, .ref (ya Y o1)), (2, .int x2), (3, .int v3), (4, .int v4), (6, .int v6), (8, .int (v8 + (1 : Int32)))] [1, 2, 3, 4, 5, 6, 0] rfl ?_
    exact ih (v8 + (1 : Int32)) τ121 h
def L_Un_listWith_48 (o1 : Nat) (x2 : Int32) (v3 : Int32) (v4 : Int32) (v5 : Int32) (v6 : Int32) (v7 : Int32) (K : Sg → Prop) (r8 : Int32 → Sg → Prop) : Nat → Int32 → Sg → Prop
  | 0, _, _ => False
  | n + 1, v8, σ =>
    ((v3 ≤ v8 → (∀ y8_104 : Int32, y8_104 = (x2 + (1 : Int32)) → (∃ n5 : Nat, L_Un_listWith_106 o1 x2 v3 v4 v6 K r8 n5 y8_104 σ))) ∧ (¬ v3 ≤ v8 → (vp_in v8 256 ∧ (vp_in (v6 + v8) 256 ∧ (∀ τ73 : Sg, τ73 = s2 σ 23 (v6 + v8).toNatClampNeg ((σ 23 v8.toNatClampNeg) + v5) → (vp_in (((x2 * (256 : Int32)) + v6) + v8) 1024 ∧ (∀ τ94 : Sg, τ94 = s2 τ73 24 (((x2 * (256 : Int32)) + v6) + v8).toNatClampNeg (v7 + v8) → L_Un_listWith_48 o1 x2 v3 v4 v5 v6 v7 K r8 n (v8 + (1 : Int32)) τ94)))))))
theorem t_Un_listWith_48 {X : Bx} {Y : Yx} {o1 : Nat} {x2 : Int32} {v3 : Int32} {v4 : Int32} {v5 : Int32} {v6 : Int32} {v7 : Int32} {K : Sg → Prop} {r8 : Int32 → Sg → Prop} (hY : YD Y) (C : Cx X Y prog_7_method_4_code 9 "LoadCycles$Unmixer" 1 25) (hr : (xh X).sig.returnType = none) (ho1 : kd o1 = 2) (H8 : ∀ (v4 : Int32) (σ : Sg), r8 v4 σ → St X Y 9 (QV X Y K) 8 [(0, .ref (ya Y 22)), (1, .ref (ya Y o1)), (2, .int x2), (3, .int v3), (4, .int v4)] [] σ) : ∀ (n : Nat) (v8 : Int32) (σ : Sg), L_Un_listWith_48 o1 x2 v3 v4 v5 v6 v7 K r8 n v8 σ → St X Y 9 (QV X Y K) 48 [(0, .ref (ya Y 22)), (1, .ref (ya Y o1)), (2, .int x2), (3, .int v3), (4, .int v4), (5, .int v5), (6, .int v6), (7, .int v7), (8, .int v8)] [] σ := by
  intro n
  induction n with
  | zero => intro v8 σ h; exact h.elim
  | succ n ih =>
    intro v8 σ h
    unfold L_Un_listWith_48 at h
    refine q_iload (pc := 48) C d_Un_listWith_48 8 rfl ?_
    refine q_iload_n (pc := 50) C d_Un_listWith_50 rfl 3 rfl ?_
    obtain ⟨h9, h10⟩ := h
    refine q_icmp_ge (pc := 51) 101 C d_Un_listWith_51 (by decide) (fun hc => ?_) (fun hc => ?_)
    · have h := h9 hc
      refine q_iload_n (pc := 101) C d_Un_listWith_101 rfl 2 rfl ?_
      refine q_iconst (pc := 102) (v := 1) C d_Un_listWith_102 (by decide) ?_
      refine q_iadd (pc := 103) C d_Un_listWith_103 ?_
      refine q_nmi (fun y8_104 ey8_104 => ?_)
      replace h := h y8_104 ey8_104
      refine q_istore (pc := 104) [(8, .int y8_104), (0, .ref (ya Y 22)), (1, .ref (ya Y o1)), (2, .int x2), (3, .int v3), (4, .int v4), (5, .int v5), (6, .int v6), (7, .int v7)] C d_Un_listWith_104 (by decide) rfl ?_
      obtain ⟨n5, h⟩ := h
      refine q_sub [(0, .ref (ya Y 22)), (1, .ref (ya Y o1)), (2, .int x2), (3, .int v3), (4, .int v4), (6, .int v6), (8, .int y8_104)] [1, 2, 3, 4, 5, 7, 0] rfl ?_
      exact t_Un_listWith_106 hY C hr ho1 H8 n5 y8_104 σ h
    have h := h10 hc
    refine q_aload_n (pc := 54) C d_Un_listWith_54 rfl 0 rfl ?_
    refine q_get (pc := 55) (c := 22) (ci := 5) (k := 0) (v := .ref (ya Y 23)) C rfl (by decide) (by decide) wd_161 rfl d_Un_listWith_55 ?_
    refine q_iload (pc := 58) C d_Un_listWith_58 6 rfl ?_
    refine q_iload (pc := 60) C d_Un_listWith_60 8 rfl ?_
    refine q_iadd (pc := 62) C d_Un_listWith_62 ?_
    refine q_aload_n (pc := 63) C d_Un_listWith_63 rfl 0 rfl ?_
    refine q_get (pc := 64) (c := 22) (ci := 5) (k := 0) (v := .ref (ya Y 23)) C rfl (by decide) (by decide) wd_161 rfl d_Un_listWith_64 ?_
    refine q_iload (pc := 67) C d_Un_listWith_67 8 rfl ?_
    obtain ⟨h6, h⟩ := h
    refine q_iald (pc := 69) (c := 23) C ⟨rfl, rfl⟩ h6 d_Un_listWith_69 ?_
    refine q_iload (pc := 70) C d_Un_listWith_70 5 rfl ?_
    refine q_iadd (pc := 72) C d_Un_listWith_72 ?_
    obtain ⟨h7, h⟩ := h
    refine q_iast (pc := 73) (c := 23) C ⟨rfl, rfl⟩ h7 d_Un_listWith_73 ?_
    refine q_nms (fun τ73 eτ73 => ?_)
    replace h := h τ73 eτ73
    refine q_aload_n (pc := 74) C d_Un_listWith_74 rfl 0 rfl ?_
    refine q_get (pc := 75) (c := 22) (ci := 5) (k := 1) (v := .ref (ya Y 24)) C rfl (by decide) (by decide) wd_162 rfl d_Un_listWith_75 ?_
    refine q_iload_n (pc := 78) C d_Un_listWith_78 rfl 2 rfl ?_
    refine q_sipush (pc := 79) (v := 256) C d_Un_listWith_79 (by decide) ?_
    refine q_imul (pc := 82) C d_Un_listWith_82 ?_
    refine q_iload (pc := 83) C d_Un_listWith_83 6 rfl ?_
    refine q_iadd (pc := 85) C d_Un_listWith_85 ?_
    refine q_iload (pc := 86) C d_Un_listWith_86 8 rfl ?_
    refine q_iadd (pc := 88) C d_Un_listWith_88 ?_
    refine q_iload (pc := 89) C d_Un_listWith_89 7 rfl ?_
    refine q_iload (pc := 91) C d_Un_listWith_91 8 rfl ?_
    refine q_iadd (pc := 93) C d_Un_listWith_93 ?_
    obtain ⟨h8, h⟩ := h
    refine q_iast (pc := 94) (c := 24) C ⟨rfl, rfl⟩ h8 d_Un_listWith_94 ?_
    refine q_nms (fun τ94 eτ94 => ?_)
    replace h := h τ94 eτ94
    refine q_iinc (pc := 95) (v8 + (1 : Int32)) [(8, .int (v8 + (1 : Int32))), (0, .ref (ya Y 22)), (1, .ref (ya Y o1)), (2, .int x2), (3, .int v3), (4, .int v4), (5, .int v5), (6, .int v6), (7, .int v7)] C d_Un_listWith_95 8 rfl rfl (by decide) rfl ?_
    refine q_goto (pc := 98) 48 C d_Un_listWith_98 (by decide) ?_
    refine q_sub [(0, .ref (ya Y 22)), (1, .ref (ya Y o1)), (2, .int x2), (3, .int v3), (4, .int v4), (5, .int v5), (6, .int v6), (7, .int v7), (8, .int (v8 + (1 : Int32)))] [1, 2, 3, 4, 5, 6, 7, 8, 0] rfl ?_
    exact ih (v8 + (1 : Int32)) τ94 h
def L_Un_listWith_8 (o1 : Nat) (x2 : Int32) (v3 : Int32) (K : Sg → Prop) : Nat → Int32 → Sg → Prop
  | 0, _, _ => False
  | n + 1, v4, σ =>
    (vp_in x2 4 ∧ (((σ (o1 + 2) x2.toNatClampNeg) < v4 → (vp_in x2 4 ∧ (∀ τ147 : Sg, τ147 = s2 σ 22 5 (v3 * ((σ (o1 + 2) x2.toNatClampNeg) + (1 : Int32))) → K τ147))) ∧ (¬ (σ (o1 + 2) x2.toNatClampNeg) < v4 → w_Ho_powerIn o1 x2 v4 σ (fun u23 => (∀ y6_32 : Int32, y6_32 = (v4 * v3) → w_Ho_stateAfter o1 x2 v4 σ (fun u38 => (∀ y7_43 : Int32, y7_43 = (u38 * v3) → (∃ n11 : Nat, L_Un_listWith_48 o1 x2 v3 v4 u23 y6_32 y7_43 K (fun a0 a1 => L_Un_listWith_8 o1 x2 v3 K n a0 a1) n11 (0 : Int32) σ))))))))
theorem t_Un_listWith_8 {X : Bx} {Y : Yx} {o1 : Nat} {x2 : Int32} {v3 : Int32} {K : Sg → Prop}  (hY : YD Y) (C : Cx X Y prog_7_method_4_code 9 "LoadCycles$Unmixer" 1 25) (hr : (xh X).sig.returnType = none) (ho1 : kd o1 = 2) : ∀ (n : Nat) (v4 : Int32) (σ : Sg), L_Un_listWith_8 o1 x2 v3 K n v4 σ → St X Y 9 (QV X Y K) 8 [(0, .ref (ya Y 22)), (1, .ref (ya Y o1)), (2, .int x2), (3, .int v3), (4, .int v4)] [] σ := by
  intro n
  induction n with
  | zero => intro v4 σ h; exact h.elim
  | succ n ih =>
    intro v4 σ h
    unfold L_Un_listWith_8 at h
    refine q_iload (pc := 8) C d_Un_listWith_8 4 rfl ?_
    refine q_aload_n (pc := 10) C d_Un_listWith_10 rfl 1 rfl ?_
    refine q_get (pc := 11) (c := o1) (ci := 2) (k := 1) (v := .ref (ya Y (o1 + 2))) C ho1 (by decide) (by decide) wd_95 rfl d_Un_listWith_11 ?_
    refine q_iload_n (pc := 14) C d_Un_listWith_14 rfl 2 rfl ?_
    obtain ⟨h1, h⟩ := h
    refine q_iald (pc := 15) (c := (o1 + 2)) C (k2_2 ho1) h1 d_Un_listWith_15 ?_
    obtain ⟨h12, h13⟩ := h
    refine q_icmp_gt (pc := 16) 136 C d_Un_listWith_16 (by decide) (fun hc => ?_) (fun hc => ?_)
    · have h := h12 hc
      refine q_aload_n (pc := 136) C d_Un_listWith_136 rfl 0 rfl ?_
      refine q_iload_n (pc := 137) C d_Un_listWith_137 rfl 3 rfl ?_
      refine q_aload_n (pc := 138) C d_Un_listWith_138 rfl 1 rfl ?_
      refine q_get (pc := 139) (c := o1) (ci := 2) (k := 1) (v := .ref (ya Y (o1 + 2))) C ho1 (by decide) (by decide) wd_95 rfl d_Un_listWith_139 ?_
      refine q_iload_n (pc := 142) C d_Un_listWith_142 rfl 2 rfl ?_
      obtain ⟨h2, h⟩ := h
      refine q_iald (pc := 143) (c := (o1 + 2)) C (k2_2 ho1) h2 d_Un_listWith_143 ?_
      refine q_iconst (pc := 144) (v := 1) C d_Un_listWith_144 (by decide) ?_
      refine q_iadd (pc := 145) C d_Un_listWith_145 ?_
      refine q_imul (pc := 146) C d_Un_listWith_146 ?_
      refine q_put (pc := 147) (c := 22) (ci := 5) (k := 5) C rfl (by decide) (by decide) wd_166 rfl rfl rfl fs_5_5 d_Un_listWith_147 ?_
      refine q_nms (fun τ147 eτ147 => ?_)
      replace h := h τ147 eτ147
      exact q_vret (pc := 150) C hr d_Un_listWith_150 h
    have h := h13 hc
    refine q_aload_n (pc := 19) C d_Un_listWith_19 rfl 1 rfl ?_
    refine q_iload_n (pc := 20) C d_Un_listWith_20 rfl 2 rfl ?_
    refine q_iload (pc := 21) C d_Un_listWith_21 4 rfl ?_
    refine q_callVIr (pc := 23) (st := []) (d := o1) C (m_Ho_powerIn hY ho1 h) mi_Ho_powerIn ho1 (by decide) rfl wd_437 rfl rfl (Nat.le_of_ble_eq_true rfl) (by decide) (by decide) d_Un_listWith_23 (fun u23 h => ?_)
    refine q_istore (pc := 26) [(5, .int u23), (0, .ref (ya Y 22)), (1, .ref (ya Y o1)), (2, .int x2), (3, .int v3), (4, .int v4)] C d_Un_listWith_26 (by decide) rfl ?_
    refine q_iload (pc := 28) C d_Un_listWith_28 5 rfl ?_
    refine q_iload_n (pc := 30) C d_Un_listWith_30 rfl 4 rfl ?_
    refine q_imul (pc := 31) C d_Un_listWith_31 ?_
    refine q_nmi (fun y6_32 ey6_32 => ?_)
    replace h := h y6_32 ey6_32
    refine q_istore (pc := 32) [(6, .int y6_32), (5, .int u23), (0, .ref (ya Y 22)), (1, .ref (ya Y o1)), (2, .int x2), (3, .int v3), (4, .int v4)] C d_Un_listWith_32 (by decide) rfl ?_
    refine q_aload_n (pc := 34) C d_Un_listWith_34 rfl 3 rfl ?_
    refine q_iload_n (pc := 35) C d_Un_listWith_35 rfl 4 rfl ?_
    refine q_iload (pc := 36) C d_Un_listWith_36 6 rfl ?_
    refine q_callVIr (pc := 38) (st := []) (d := o1) C (m_Ho_stateAfter hY ho1 h) mi_Ho_stateAfter ho1 (by decide) rfl wd_438 rfl rfl (Nat.le_of_ble_eq_true rfl) (by decide) (by decide) d_Un_listWith_38 (fun u38 h => ?_)
    refine q_iload_n (pc := 41) C d_Un_listWith_41 rfl 5 rfl ?_
    refine q_imul (pc := 42) C d_Un_listWith_42 ?_
    refine q_nmi (fun y7_43 ey7_43 => ?_)
    replace h := h y7_43 ey7_43
    refine q_istore (pc := 43) [(7, .int y7_43), (6, .int y6_32), (5, .int u23), (0, .ref (ya Y 22)), (1, .ref (ya Y o1)), (2, .int x2), (3, .int v3), (4, .int v4)] C d_Un_listWith_43 (by decide) rfl ?_
    refine q_iconst (pc := 45) (v := 0) C d_Un_listWith_45 (by decide) ?_
    refine q_istore (pc := 46) [(8, .int (0 : Int32)), (7, .int y7_43), (6, .int y6_32), (5, .int u23), (0, .ref (ya Y 22)), (1, .ref (ya Y o1)), (2, .int x2), (3, .int v3), (4, .int v4)] C d_Un_listWith_46 (by decide) rfl ?_
    obtain ⟨n11, h⟩ := h
    refine q_sub [(0, .ref (ya Y 22)), (1, .ref (ya Y o1)), (2, .int x2), (3, .int v3), (4, .int v4), (5, .int u23), (6, .int y6_32), (7, .int y7_43), (8, .int (0 : Int32))] [4, 5, 6, 7, 8, 3, 2, 1, 0] rfl ?_
    exact t_Un_listWith_48 hY C hr ho1 ih n11 (0 : Int32) σ h
def w_Un_listWith (o1 : Nat) (x2 : Int32) (σ : Sg) (K : Sg → Prop) : Prop :=
  (∀ y3_4 : Int32, y3_4 = (σ 22 5) → (∃ n14 : Nat, L_Un_listWith_8 o1 x2 y3_4 K n14 (0 : Int32) σ))
set_option maxHeartbeats 4000000 in
theorem m_Un_listWith {Y : Yx} {o1 : Nat} {x2 : Int32} {σ : Sg} {K : Sg → Prop} (hY : YD Y) (ho1 : kd o1 = 2) (h : w_Un_listWith o1 x2 σ K) : MetV Y y_Un_listWith prog_7_method_4_code 9 1 25 [.ref (ya Y 22), .ref (ya Y o1), .int x2] σ K := by
  refine met_V [(0, .ref (ya Y 22)), (1, .ref (ya Y o1)), (2, .int x2)] hY (by decide) (Nat.le_of_ble_eq_true rfl) rfl (fun X C hr => ?_)
  unfold w_Un_listWith at h
  refine q_aload_n (pc := 0) C d_Un_listWith_0 rfl 0 rfl ?_
  refine q_get (pc := 1) (c := 22) (ci := 5) (k := 5) (v := .int (σ 22 5)) C rfl (by decide) (by decide) wd_166 rfl d_Un_listWith_1 ?_
  refine q_nmi (fun y3_4 ey3_4 => ?_)
  replace h := h y3_4 ey3_4
  refine q_istore_n (pc := 4) [(3, .int y3_4), (0, .ref (ya Y 22)), (1, .ref (ya Y o1)), (2, .int x2)] C d_Un_listWith_4 rfl (by decide) rfl ?_
  refine q_iconst (pc := 5) (v := 0) C d_Un_listWith_5 (by decide) ?_
  refine q_istore (pc := 6) [(4, .int (0 : Int32)), (3, .int y3_4), (0, .ref (ya Y 22)), (1, .ref (ya Y o1)), (2, .int x2)] C d_Un_listWith_6 (by decide) rfl ?_
  obtain ⟨n14, h⟩ := h
  refine q_sub [(0, .ref (ya Y 22)), (1, .ref (ya Y o1)), (2, .int x2), (3, .int y3_4), (4, .int (0 : Int32))] [2, 3, 4, 1, 0] rfl ?_
  exact t_Un_listWith_8 hY C hr ho1 n14 (0 : Int32) σ h
theorem d_Un_listMixes_0 : decode prog_7_method_3_code 0 = .ok (.aload_n 0, 1) := by decide +kernel
theorem d_Un_listMixes_1 : decode prog_7_method_3_code 1 = .ok (.getfield 9, 3) := by decide +kernel
theorem d_Un_listMixes_4 : decode prog_7_method_3_code 4 = .ok (.iconst 0, 1) := by decide +kernel
theorem d_Un_listMixes_5 : decode prog_7_method_3_code 5 = .ok (.iconst 0, 1) := by decide +kernel
theorem d_Un_listMixes_6 : decode prog_7_method_3_code 6 = .ok (.iastore, 1) := by decide +kernel
theorem d_Un_listMixes_7 : decode prog_7_method_3_code 7 = .ok (.aload_n 0, 1) := by decide +kernel
theorem d_Un_listMixes_8 : decode prog_7_method_3_code 8 = .ok (.iconst 1, 1) := by decide +kernel
theorem d_Un_listMixes_9 : decode prog_7_method_3_code 9 = .ok (.putfield 59, 3) := by decide +kernel
theorem d_Un_listMixes_12 : decode prog_7_method_3_code 12 = .ok (.aload_n 1, 1) := by decide +kernel
theorem d_Un_listMixes_13 : decode prog_7_method_3_code 13 = .ok (.getfield 52, 3) := by decide +kernel
theorem d_Un_listMixes_16 : decode prog_7_method_3_code 16 = .ok (.iconst 1, 1) := by decide +kernel
theorem d_Un_listMixes_17 : decode prog_7_method_3_code 17 = .ok (.isub, 1) := by decide +kernel
theorem d_Un_listMixes_18 : decode prog_7_method_3_code 18 = .ok (.istore_n 2, 1) := by decide +kernel
theorem d_Un_listMixes_19 : decode prog_7_method_3_code 19 = .ok (.iload_n 2, 1) := by decide +kernel
theorem d_Un_listMixes_20 : decode prog_7_method_3_code 20 = .ok (.ifCond .lt 15, 3) := by decide +kernel
theorem d_Un_listMixes_23 : decode prog_7_method_3_code 23 = .ok (.aload_n 0, 1) := by decide +kernel
theorem d_Un_listMixes_24 : decode prog_7_method_3_code 24 = .ok (.aload_n 1, 1) := by decide +kernel
theorem d_Un_listMixes_25 : decode prog_7_method_3_code 25 = .ok (.iload_n 2, 1) := by decide +kernel
theorem d_Un_listMixes_26 : decode prog_7_method_3_code 26 = .ok (.invokevirtual 62, 3) := by decide +kernel
theorem d_Un_listMixes_29 : decode prog_7_method_3_code 29 = .ok (.iinc 2 (-1), 3) := by decide +kernel
theorem d_Un_listMixes_32 : decode prog_7_method_3_code 32 = .ok (.goto (-13), 3) := by decide +kernel
theorem d_Un_listMixes_35 : decode prog_7_method_3_code 35 = .ok (.return_, 1) := by decide +kernel
abbrev y_Un_listMixes : MethodName := ⟨"LoadCycles$Unmixer", "listMixes", "(LLoadCycles$House;)V"⟩
theorem mi_Un_listMixes : miV y_Un_listMixes prog_7_method_3_code 3 none 1 := ⟨wd_431, wd_9, wd_68, wd_432, by decide, by decide, by decide +kernel⟩
def L_Un_listMixes_19 (o1 : Nat) (K : Sg → Prop) : Nat → Int32 → Sg → Prop
  | 0, _, _ => False
  | n + 1, v2, σ =>
    ((v2 < 0 → K σ) ∧ (¬ v2 < 0 → w_Un_listWith o1 v2 σ (fun τ26 => L_Un_listMixes_19 o1 K n (v2 + (-1 : Int32)) τ26)))
theorem t_Un_listMixes_19 {X : Bx} {Y : Yx} {o1 : Nat} {K : Sg → Prop}  (hY : YD Y) (C : Cx X Y prog_7_method_3_code 3 "LoadCycles$Unmixer" 2 53) (hr : (xh X).sig.returnType = none) (ho1 : kd o1 = 2) : ∀ (n : Nat) (v2 : Int32) (σ : Sg), L_Un_listMixes_19 o1 K n v2 σ → St X Y 3 (QV X Y K) 19 [(0, .ref (ya Y 22)), (1, .ref (ya Y o1)), (2, .int v2)] [] σ := by
  intro n
  induction n with
  | zero => intro v2 σ h; exact h.elim
  | succ n ih =>
    intro v2 σ h
    unfold L_Un_listMixes_19 at h
    refine q_iload_n (pc := 19) C d_Un_listMixes_19 rfl 2 rfl ?_
    obtain ⟨h2, h3⟩ := h
    refine q_if_lt (pc := 20) 35 C d_Un_listMixes_20 (by decide) (fun hc => ?_) (fun hc => ?_)
    · have h := h2 hc
      exact q_vret (pc := 35) C hr d_Un_listMixes_35 h
    have h := h3 hc
    refine q_aload_n (pc := 23) C d_Un_listMixes_23 rfl 0 rfl ?_
    refine q_aload_n (pc := 24) C d_Un_listMixes_24 rfl 1 rfl ?_
    refine q_iload_n (pc := 25) C d_Un_listMixes_25 rfl 2 rfl ?_
    refine q_callVV (pc := 26) (st := []) (d := 22) C (m_Un_listWith hY ho1 h) mi_Un_listWith rfl (by decide) rfl wd_433 rfl rfl (Nat.le_of_ble_eq_true rfl) (by decide) (by decide) d_Un_listMixes_26 (fun τ26 h => ?_)
    refine q_iinc (pc := 29) (v2 + (-1 : Int32)) [(2, .int (v2 + (-1 : Int32))), (0, .ref (ya Y 22)), (1, .ref (ya Y o1))] C d_Un_listMixes_29 2 rfl rfl (by decide) rfl ?_
    refine q_goto (pc := 32) 19 C d_Un_listMixes_32 (by decide) ?_
    refine q_sub [(0, .ref (ya Y 22)), (1, .ref (ya Y o1)), (2, .int (v2 + (-1 : Int32)))] [1, 2, 0] rfl ?_
    exact ih (v2 + (-1 : Int32)) τ26 h
def w_Un_listMixes (o1 : Nat) (σ : Sg) (K : Sg → Prop) : Prop :=
  (vp_in (0 : Int32) 256 ∧ (∀ τ6 : Sg, τ6 = s2 σ 23 (0 : Int32).toNatClampNeg (0 : Int32) → (∀ τ9 : Sg, τ9 = s2 τ6 22 5 (1 : Int32) → (∀ y2_18 : Int32, y2_18 = ((τ9 o1 4) - (1 : Int32)) → (∃ n4 : Nat, L_Un_listMixes_19 o1 K n4 y2_18 τ9)))))
set_option maxHeartbeats 4000000 in
theorem m_Un_listMixes {Y : Yx} {o1 : Nat} {σ : Sg} {K : Sg → Prop} (hY : YD Y) (ho1 : kd o1 = 2) (h : w_Un_listMixes o1 σ K) : MetV Y y_Un_listMixes prog_7_method_3_code 3 2 53 [.ref (ya Y 22), .ref (ya Y o1)] σ K := by
  refine met_V [(0, .ref (ya Y 22)), (1, .ref (ya Y o1))] hY (by decide) (Nat.le_of_ble_eq_true rfl) rfl (fun X C hr => ?_)
  unfold w_Un_listMixes at h
  refine q_aload_n (pc := 0) C d_Un_listMixes_0 rfl 0 rfl ?_
  refine q_get (pc := 1) (c := 22) (ci := 5) (k := 0) (v := .ref (ya Y 23)) C rfl (by decide) (by decide) wd_161 rfl d_Un_listMixes_1 ?_
  refine q_iconst (pc := 4) (v := 0) C d_Un_listMixes_4 (by decide) ?_
  refine q_iconst (pc := 5) (v := 0) C d_Un_listMixes_5 (by decide) ?_
  obtain ⟨h1, h⟩ := h
  refine q_iast (pc := 6) (c := 23) C ⟨rfl, rfl⟩ h1 d_Un_listMixes_6 ?_
  refine q_nms (fun τ6 eτ6 => ?_)
  replace h := h τ6 eτ6
  refine q_aload_n (pc := 7) C d_Un_listMixes_7 rfl 0 rfl ?_
  refine q_iconst (pc := 8) (v := 1) C d_Un_listMixes_8 (by decide) ?_
  refine q_put (pc := 9) (c := 22) (ci := 5) (k := 5) C rfl (by decide) (by decide) wd_166 rfl rfl rfl fs_5_5 d_Un_listMixes_9 ?_
  refine q_nms (fun τ9 eτ9 => ?_)
  replace h := h τ9 eτ9
  refine q_aload_n (pc := 12) C d_Un_listMixes_12 rfl 1 rfl ?_
  refine q_get (pc := 13) (c := o1) (ci := 2) (k := 4) (v := .int (τ9 o1 4)) C ho1 (by decide) (by decide) wd_101 rfl d_Un_listMixes_13 ?_
  refine q_iconst (pc := 16) (v := 1) C d_Un_listMixes_16 (by decide) ?_
  refine q_isub (pc := 17) C d_Un_listMixes_17 ?_
  refine q_nmi (fun y2_18 ey2_18 => ?_)
  replace h := h y2_18 ey2_18
  refine q_istore_n (pc := 18) [(2, .int y2_18), (0, .ref (ya Y 22)), (1, .ref (ya Y o1))] C d_Un_listMixes_18 rfl (by decide) rfl ?_
  obtain ⟨n4, h⟩ := h
  refine q_sub [(0, .ref (ya Y 22)), (1, .ref (ya Y o1)), (2, .int y2_18)] [1, 2, 0] rfl ?_
  exact t_Un_listMixes_19 hY C hr ho1 n4 y2_18 τ9 h
theorem d_Ja_fill_0 : decode prog_13_method_103_code 0 = .ok (.iconst 0, 1) := by decide +kernel
theorem d_Ja_fill_1 : decode prog_13_method_103_code 1 = .ok (.istore_n 2, 1) := by decide +kernel
theorem d_Ja_fill_2 : decode prog_13_method_103_code 2 = .ok (.aload_n 0, 1) := by decide +kernel
theorem d_Ja_fill_3 : decode prog_13_method_103_code 3 = .ok (.arraylength, 1) := by decide +kernel
theorem d_Ja_fill_4 : decode prog_13_method_103_code 4 = .ok (.istore_n 3, 1) := by decide +kernel
theorem d_Ja_fill_5 : decode prog_13_method_103_code 5 = .ok (.iload_n 2, 1) := by decide +kernel
theorem d_Ja_fill_6 : decode prog_13_method_103_code 6 = .ok (.iload_n 3, 1) := by decide +kernel
theorem d_Ja_fill_7 : decode prog_13_method_103_code 7 = .ok (.if_icmp .ge 13, 3) := by decide +kernel
theorem d_Ja_fill_10 : decode prog_13_method_103_code 10 = .ok (.aload_n 0, 1) := by decide +kernel
theorem d_Ja_fill_11 : decode prog_13_method_103_code 11 = .ok (.iload_n 2, 1) := by decide +kernel
theorem d_Ja_fill_12 : decode prog_13_method_103_code 12 = .ok (.iload_n 1, 1) := by decide +kernel
theorem d_Ja_fill_13 : decode prog_13_method_103_code 13 = .ok (.iastore, 1) := by decide +kernel
theorem d_Ja_fill_14 : decode prog_13_method_103_code 14 = .ok (.iinc 2 1, 3) := by decide +kernel
theorem d_Ja_fill_17 : decode prog_13_method_103_code 17 = .ok (.goto (-12), 3) := by decide +kernel
theorem d_Ja_fill_20 : decode prog_13_method_103_code 20 = .ok (.return_, 1) := by decide +kernel
abbrev y_Ja_fill : MethodName := ⟨"java/util/Arrays", "fill", "([II)V"⟩
theorem mi_Ja_fill : miS y_Ja_fill prog_13_method_103_code 4 none 2 := ⟨wd_451, wd_74, wd_452, by decide, by decide, by decide +kernel⟩
def L_Ja_fill_5 (o0 : Nat) (x1 : Int32) (v3 : Int32) (K : Sg → Prop) : Nat → Int32 → Sg → Prop
  | 0, _, _ => False
  | n + 1, v2, σ =>
    ((v3 ≤ v2 → K σ) ∧ (¬ v3 ≤ v2 → (vp_in v2 (ln o0) ∧ (∀ τ13 : Sg, τ13 = s2 σ o0 v2.toNatClampNeg x1 → L_Ja_fill_5 o0 x1 v3 K n (v2 + (1 : Int32)) τ13))))
theorem t_Ja_fill_5 {X : Bx} {Y : Yx} {o0 : Nat} {x1 : Int32} {v3 : Int32} {K : Sg → Prop}  (hY : YD Y) (C : Cx X Y prog_13_method_103_code 4 "java/util/Arrays" 0 0) (hr : (xh X).sig.returnType = none) (ho0 : ia o0 (ln o0)) : ∀ (n : Nat) (v2 : Int32) (σ : Sg), L_Ja_fill_5 o0 x1 v3 K n v2 σ → St X Y 4 (QV X Y K) 5 [(0, .ref (ya Y o0)), (1, .int x1), (2, .int v2), (3, .int v3)] [] σ := by
  intro n
  induction n with
  | zero => intro v2 σ h; exact h.elim
  | succ n ih =>
    intro v2 σ h
    unfold L_Ja_fill_5 at h
    refine q_iload_n (pc := 5) C d_Ja_fill_5 rfl 2 rfl ?_
    refine q_iload_n (pc := 6) C d_Ja_fill_6 rfl 3 rfl ?_
    obtain ⟨h2, h3⟩ := h
    refine q_icmp_ge (pc := 7) 20 C d_Ja_fill_7 (by decide) (fun hc => ?_) (fun hc => ?_)
    · have h := h2 hc
      exact q_vret (pc := 20) C hr d_Ja_fill_20 h
    have h := h3 hc
    refine q_aload_n (pc := 10) C d_Ja_fill_10 rfl 0 rfl ?_
    refine q_iload_n (pc := 11) C d_Ja_fill_11 rfl 2 rfl ?_
    refine q_iload_n (pc := 12) C d_Ja_fill_12 rfl 1 rfl ?_
    obtain ⟨h1, h⟩ := h
    refine q_iast (pc := 13) (c := o0) C ho0 h1 d_Ja_fill_13 ?_
    refine q_nms (fun τ13 eτ13 => ?_)
    replace h := h τ13 eτ13
    refine q_iinc (pc := 14) (v2 + (1 : Int32)) [(2, .int (v2 + (1 : Int32))), (0, .ref (ya Y o0)), (1, .int x1), (3, .int v3)] C d_Ja_fill_14 2 rfl rfl (by decide) rfl ?_
    refine q_goto (pc := 17) 5 C d_Ja_fill_17 (by decide) ?_
    refine q_sub [(0, .ref (ya Y o0)), (1, .int x1), (2, .int (v2 + (1 : Int32))), (3, .int v3)] [1, 2, 0, 3] rfl ?_
    exact ih (v2 + (1 : Int32)) τ13 h
def w_Ja_fill (o0 : Nat) (x1 : Int32) (σ : Sg) (K : Sg → Prop) : Prop :=
  (∀ y3_4 : Int32, y3_4 = (Int32.ofNat (ln o0)) → (∃ n4 : Nat, L_Ja_fill_5 o0 x1 y3_4 K n4 (0 : Int32) σ))
set_option maxHeartbeats 4000000 in
theorem m_Ja_fill {Y : Yx} {o0 : Nat} {x1 : Int32} {σ : Sg} {K : Sg → Prop} (hY : YD Y) (ho0 : ia o0 (ln o0)) (h : w_Ja_fill o0 x1 σ K) : MetV Y y_Ja_fill prog_13_method_103_code 4 0 0 [.ref (ya Y o0), .int x1] σ K := by
  refine met_V [(0, .ref (ya Y o0)), (1, .int x1)] hY (by decide) (Nat.le_of_ble_eq_true rfl) rfl (fun X C hr => ?_)
  unfold w_Ja_fill at h
  refine q_iconst (pc := 0) (v := 0) C d_Ja_fill_0 (by decide) ?_
  refine q_istore_n (pc := 1) [(2, .int (0 : Int32)), (0, .ref (ya Y o0)), (1, .int x1)] C d_Ja_fill_1 rfl (by decide) rfl ?_
  refine q_aload_n (pc := 2) C d_Ja_fill_2 rfl 1 rfl ?_
  refine q_alenI (pc := 3) (c := o0) (Int32.ofNat (ln o0)) C ho0 rfl d_Ja_fill_3 ?_
  refine q_nmi (fun y3_4 ey3_4 => ?_)
  replace h := h y3_4 ey3_4
  refine q_istore_n (pc := 4) [(3, .int y3_4), (2, .int (0 : Int32)), (0, .ref (ya Y o0)), (1, .int x1)] C d_Ja_fill_4 rfl (by decide) rfl ?_
  obtain ⟨n4, h⟩ := h
  refine q_sub [(0, .ref (ya Y o0)), (1, .int x1), (2, .int (0 : Int32)), (3, .int y3_4)] [2, 3, 1, 0] rfl ?_
  exact t_Ja_fill_5 hY C hr ho0 n4 (0 : Int32) σ h
theorem d_Un_letGoOn_0 : decode prog_7_method_7_code 0 = .ok (.iload_n 1, 1) := by decide +kernel
theorem d_Un_letGoOn_1 : decode prog_7_method_7_code 1 = .ok (.sipush 256, 3) := by decide +kernel
theorem d_Un_letGoOn_4 : decode prog_7_method_7_code 4 = .ok (.imul, 1) := by decide +kernel
theorem d_Un_letGoOn_5 : decode prog_7_method_7_code 5 = .ok (.istore_n 2, 1) := by decide +kernel
theorem d_Un_letGoOn_6 : decode prog_7_method_7_code 6 = .ok (.iconst 0, 1) := by decide +kernel
theorem d_Un_letGoOn_7 : decode prog_7_method_7_code 7 = .ok (.istore_n 3, 1) := by decide +kernel
theorem d_Un_letGoOn_8 : decode prog_7_method_7_code 8 = .ok (.iload_n 3, 1) := by decide +kernel
theorem d_Un_letGoOn_9 : decode prog_7_method_7_code 9 = .ok (.aload_n 0, 1) := by decide +kernel
theorem d_Un_letGoOn_10 : decode prog_7_method_7_code 10 = .ok (.getfield 59, 3) := by decide +kernel
theorem d_Un_letGoOn_13 : decode prog_7_method_7_code 13 = .ok (.if_icmp .ge 39, 3) := by decide +kernel
theorem d_Un_letGoOn_16 : decode prog_7_method_7_code 16 = .ok (.aload_n 0, 1) := by decide +kernel
theorem d_Un_letGoOn_17 : decode prog_7_method_7_code 17 = .ok (.getfield 24, 3) := by decide +kernel
theorem d_Un_letGoOn_20 : decode prog_7_method_7_code 20 = .ok (.iload_n 3, 1) := by decide +kernel
theorem d_Un_letGoOn_21 : decode prog_7_method_7_code 21 = .ok (.aload_n 0, 1) := by decide +kernel
theorem d_Un_letGoOn_22 : decode prog_7_method_7_code 22 = .ok (.getfield 21, 3) := by decide +kernel
theorem d_Un_letGoOn_25 : decode prog_7_method_7_code 25 = .ok (.iload_n 3, 1) := by decide +kernel
theorem d_Un_letGoOn_26 : decode prog_7_method_7_code 26 = .ok (.iaload, 1) := by decide +kernel
theorem d_Un_letGoOn_27 : decode prog_7_method_7_code 27 = .ok (.aload_n 0, 1) := by decide +kernel
theorem d_Un_letGoOn_28 : decode prog_7_method_7_code 28 = .ok (.getfield 21, 3) := by decide +kernel
theorem d_Un_letGoOn_31 : decode prog_7_method_7_code 31 = .ok (.aload_n 0, 1) := by decide +kernel
theorem d_Un_letGoOn_32 : decode prog_7_method_7_code 32 = .ok (.getfield 15, 3) := by decide +kernel
theorem d_Un_letGoOn_35 : decode prog_7_method_7_code 35 = .ok (.iload_n 2, 1) := by decide +kernel
theorem d_Un_letGoOn_36 : decode prog_7_method_7_code 36 = .ok (.iload_n 3, 1) := by decide +kernel
theorem d_Un_letGoOn_37 : decode prog_7_method_7_code 37 = .ok (.iadd, 1) := by decide +kernel
theorem d_Un_letGoOn_38 : decode prog_7_method_7_code 38 = .ok (.iaload, 1) := by decide +kernel
theorem d_Un_letGoOn_39 : decode prog_7_method_7_code 39 = .ok (.iaload, 1) := by decide +kernel
theorem d_Un_letGoOn_40 : decode prog_7_method_7_code 40 = .ok (.iconst 1, 1) := by decide +kernel
theorem d_Un_letGoOn_41 : decode prog_7_method_7_code 41 = .ok (.iadd, 1) := by decide +kernel
theorem d_Un_letGoOn_42 : decode prog_7_method_7_code 42 = .ok (.invokestatic 103, 3) := by decide +kernel
theorem d_Un_letGoOn_45 : decode prog_7_method_7_code 45 = .ok (.iastore, 1) := by decide +kernel
theorem d_Un_letGoOn_46 : decode prog_7_method_7_code 46 = .ok (.iinc 3 1, 3) := by decide +kernel
theorem d_Un_letGoOn_49 : decode prog_7_method_7_code 49 = .ok (.goto (-41), 3) := by decide +kernel
theorem d_Un_letGoOn_52 : decode prog_7_method_7_code 52 = .ok (.aload_n 0, 1) := by decide +kernel
theorem d_Un_letGoOn_53 : decode prog_7_method_7_code 53 = .ok (.getfield 24, 3) := by decide +kernel
theorem d_Un_letGoOn_56 : decode prog_7_method_7_code 56 = .ok (.astore_n 3, 1) := by decide +kernel
theorem d_Un_letGoOn_57 : decode prog_7_method_7_code 57 = .ok (.aload_n 0, 1) := by decide +kernel
theorem d_Un_letGoOn_58 : decode prog_7_method_7_code 58 = .ok (.aload_n 0, 1) := by decide +kernel
theorem d_Un_letGoOn_59 : decode prog_7_method_7_code 59 = .ok (.getfield 21, 3) := by decide +kernel
theorem d_Un_letGoOn_62 : decode prog_7_method_7_code 62 = .ok (.putfield 24, 3) := by decide +kernel
theorem d_Un_letGoOn_65 : decode prog_7_method_7_code 65 = .ok (.aload_n 0, 1) := by decide +kernel
theorem d_Un_letGoOn_66 : decode prog_7_method_7_code 66 = .ok (.aload_n 3, 1) := by decide +kernel
theorem d_Un_letGoOn_67 : decode prog_7_method_7_code 67 = .ok (.putfield 21, 3) := by decide +kernel
theorem d_Un_letGoOn_70 : decode prog_7_method_7_code 70 = .ok (.return_, 1) := by decide +kernel
abbrev y_Un_letGoOn : MethodName := ⟨"LoadCycles$Unmixer", "letGoOn", "(I)V"⟩
theorem mi_Un_letGoOn : miV y_Un_letGoOn prog_7_method_7_code 4 none 1 := ⟨wd_457, wd_13, wd_68, wd_458, by decide, by decide, by decide +kernel⟩
def L_Un_letGoOn_8 (x1 : Int32) (v2 : Int32) (K : Sg → Prop) : Nat → Int32 → Sg → Prop
  | 0, _, _ => False
  | n + 1, v3, σ =>
    (((σ 22 5) ≤ v3 → (ia (σ 22 4).toNatClampNeg 256 ∧ (ia (σ 22 3).toNatClampNeg 256 ∧ (∀ τ62 : Sg, τ62 = s2 σ 22 4 (nI (σ 22 3).toNatClampNeg) → (∀ τ67 : Sg, τ67 = s2 τ62 22 3 (nI (σ 22 4).toNatClampNeg) → K τ67))))) ∧ (¬ (σ 22 5) ≤ v3 → (ia (σ 22 4).toNatClampNeg 256 ∧ (ia (σ 22 3).toNatClampNeg 256 ∧ (vp_in v3 256 ∧ (ia (σ 22 3).toNatClampNeg 256 ∧ (vp_in (v2 + v3) 1024 ∧ (vp_in (σ 24 (v2 + v3).toNatClampNeg) 256 ∧ (vp_in v3 256 ∧ (∀ τ45 : Sg, τ45 = s2 σ (σ 22 4).toNatClampNeg v3.toNatClampNeg (if ((σ (σ 22 3).toNatClampNeg (σ 24 (v2 + v3).toNatClampNeg).toNatClampNeg) + (1 : Int32)) < (σ (σ 22 3).toNatClampNeg v3.toNatClampNeg) then ((σ (σ 22 3).toNatClampNeg (σ 24 (v2 + v3).toNatClampNeg).toNatClampNeg) + (1 : Int32)) else (σ (σ 22 3).toNatClampNeg v3.toNatClampNeg)) → L_Un_letGoOn_8 x1 v2 K n (v3 + (1 : Int32)) τ45))))))))))
theorem t_Un_letGoOn_8 {X : Bx} {Y : Yx} {x1 : Int32} {v2 : Int32} {K : Sg → Prop}  (hY : YD Y) (C : Cx X Y prog_7_method_7_code 4 "LoadCycles$Unmixer" 1 24) (hr : (xh X).sig.returnType = none)  : ∀ (n : Nat) (v3 : Int32) (σ : Sg), L_Un_letGoOn_8 x1 v2 K n v3 σ → St X Y 4 (QV X Y K) 8 [(0, .ref (ya Y 22)), (2, .int v2), (3, .int v3)] [] σ := by
  intro n
  induction n with
  | zero => intro v3 σ h; exact h.elim
  | succ n ih =>
    intro v3 σ h
    unfold L_Un_letGoOn_8 at h
    refine q_iload_n (pc := 8) C d_Un_letGoOn_8 rfl 2 rfl ?_
    refine q_aload_n (pc := 9) C d_Un_letGoOn_9 rfl 0 rfl ?_
    refine q_get (pc := 10) (c := 22) (ci := 5) (k := 5) (v := .int (σ 22 5)) C rfl (by decide) (by decide) wd_166 rfl d_Un_letGoOn_10 ?_
    obtain ⟨h10, h11⟩ := h
    refine q_icmp_ge (pc := 13) 52 C d_Un_letGoOn_13 (by decide) (fun hc => ?_) (fun hc => ?_)
    · have h := h10 hc
      refine q_aload_n (pc := 52) C d_Un_letGoOn_52 rfl 0 rfl ?_
      obtain ⟨h1, h⟩ := h
      refine q_get (pc := 53) (c := 22) (ci := 5) (k := 4) (v := .ref (ya Y (σ 22 4).toNatClampNeg)) C rfl (by decide) (by decide) wd_165 rfl d_Un_letGoOn_53 ?_
      refine q_astore_n (pc := 56) [(3, .ref (ya Y (σ 22 4).toNatClampNeg)), (0, .ref (ya Y 22)), (2, .int v2)] C d_Un_letGoOn_56 rfl (by decide) rfl ?_
      refine q_aload_n (pc := 57) C d_Un_letGoOn_57 rfl 1 rfl ?_
      refine q_aload_n (pc := 58) C d_Un_letGoOn_58 rfl 1 rfl ?_
      obtain ⟨h2, h⟩ := h
      refine q_get (pc := 59) (c := 22) (ci := 5) (k := 3) (v := .ref (ya Y (σ 22 3).toNatClampNeg)) C rfl (by decide) (by decide) wd_164 rfl d_Un_letGoOn_59 ?_
      refine q_putR (pc := 62) (c := 22) (ci := 5) (k := 4) C rfl (by decide) (by decide) wd_165 rfl rfl (ia.lt h2) (fr_5_4 (ia.lt h2)) d_Un_letGoOn_62 ?_
      refine q_nms (fun τ62 eτ62 => ?_)
      replace h := h τ62 eτ62
      refine q_aload_n (pc := 65) C d_Un_letGoOn_65 rfl 1 rfl ?_
      refine q_aload_n (pc := 66) C d_Un_letGoOn_66 rfl 0 rfl ?_
      refine q_putR (pc := 67) (c := 22) (ci := 5) (k := 3) C rfl (by decide) (by decide) wd_164 rfl rfl (ia.lt h1) (fr_5_3 (ia.lt h1)) d_Un_letGoOn_67 ?_
      refine q_nms (fun τ67 eτ67 => ?_)
      replace h := h τ67 eτ67
      exact q_vret (pc := 70) C hr d_Un_letGoOn_70 h
    have h := h11 hc
    refine q_aload_n (pc := 16) C d_Un_letGoOn_16 rfl 0 rfl ?_
    obtain ⟨h3, h⟩ := h
    refine q_get (pc := 17) (c := 22) (ci := 5) (k := 4) (v := .ref (ya Y (σ 22 4).toNatClampNeg)) C rfl (by decide) (by decide) wd_165 rfl d_Un_letGoOn_17 ?_
    refine q_iload_n (pc := 20) C d_Un_letGoOn_20 rfl 2 rfl ?_
    refine q_aload_n (pc := 21) C d_Un_letGoOn_21 rfl 0 rfl ?_
    obtain ⟨h4, h⟩ := h
    refine q_get (pc := 22) (c := 22) (ci := 5) (k := 3) (v := .ref (ya Y (σ 22 3).toNatClampNeg)) C rfl (by decide) (by decide) wd_164 rfl d_Un_letGoOn_22 ?_
    refine q_iload_n (pc := 25) C d_Un_letGoOn_25 rfl 2 rfl ?_
    obtain ⟨h5, h⟩ := h
    refine q_iald (pc := 26) (c := (σ 22 3).toNatClampNeg) C h4 h5 d_Un_letGoOn_26 ?_
    refine q_aload_n (pc := 27) C d_Un_letGoOn_27 rfl 0 rfl ?_
    obtain ⟨h6, h⟩ := h
    refine q_get (pc := 28) (c := 22) (ci := 5) (k := 3) (v := .ref (ya Y (σ 22 3).toNatClampNeg)) C rfl (by decide) (by decide) wd_164 rfl d_Un_letGoOn_28 ?_
    refine q_aload_n (pc := 31) C d_Un_letGoOn_31 rfl 0 rfl ?_
    refine q_get (pc := 32) (c := 22) (ci := 5) (k := 1) (v := .ref (ya Y 24)) C rfl (by decide) (by decide) wd_162 rfl d_Un_letGoOn_32 ?_
    refine q_iload_n (pc := 35) C d_Un_letGoOn_35 rfl 1 rfl ?_
    refine q_iload_n (pc := 36) C d_Un_letGoOn_36 rfl 2 rfl ?_
    refine q_iadd (pc := 37) C d_Un_letGoOn_37 ?_
    obtain ⟨h7, h⟩ := h
    refine q_iald (pc := 38) (c := 24) C ⟨rfl, rfl⟩ h7 d_Un_letGoOn_38 ?_
    obtain ⟨h8, h⟩ := h
    refine q_iald (pc := 39) (c := (σ 22 3).toNatClampNeg) C h6 h8 d_Un_letGoOn_39 ?_
    refine q_iconst (pc := 40) (v := 1) C d_Un_letGoOn_40 (by decide) ?_
    refine q_iadd (pc := 41) C d_Un_letGoOn_41 ?_
    refine q_mmin (pc := 42) (st := [.int v3, .ref (ya Y (σ 22 4).toNatClampNeg)]) C wd_459 wd_460 wd_75 wd_461 (by decide) (Nat.le_of_ble_eq_true rfl) d_Un_letGoOn_42 ?_
    obtain ⟨h9, h⟩ := h
    refine q_iast (pc := 45) (c := (σ 22 4).toNatClampNeg) C h3 h9 d_Un_letGoOn_45 ?_
    refine q_nms (fun τ45 eτ45 => ?_)
    replace h := h τ45 eτ45
    refine q_iinc (pc := 46) (v3 + (1 : Int32)) [(3, .int (v3 + (1 : Int32))), (0, .ref (ya Y 22)), (2, .int v2)] C d_Un_letGoOn_46 2 rfl rfl (by decide) rfl ?_
    refine q_goto (pc := 49) 8 C d_Un_letGoOn_49 (by decide) ?_
    refine q_sub [(0, .ref (ya Y 22)), (2, .int v2), (3, .int (v3 + (1 : Int32)))] [1, 2, 0] rfl ?_
    exact ih (v3 + (1 : Int32)) τ45 h
def w_Un_letGoOn (x1 : Int32) (σ : Sg) (K : Sg → Prop) : Prop :=
  (∀ y2_5 : Int32, y2_5 = (x1 * (256 : Int32)) → (∃ n12 : Nat, L_Un_letGoOn_8 x1 y2_5 K n12 (0 : Int32) σ))
set_option maxHeartbeats 4000000 in
theorem m_Un_letGoOn {Y : Yx} {x1 : Int32} {σ : Sg} {K : Sg → Prop} (hY : YD Y)  (h : w_Un_letGoOn x1 σ K) : MetV Y y_Un_letGoOn prog_7_method_7_code 4 1 24 [.ref (ya Y 22), .int x1] σ K := by
  refine met_V [(0, .ref (ya Y 22)), (1, .int x1)] hY (by decide) (Nat.le_of_ble_eq_true rfl) rfl (fun X C hr => ?_)
  unfold w_Un_letGoOn at h
  refine q_iload_n (pc := 0) C d_Un_letGoOn_0 rfl 1 rfl ?_
  refine q_sipush (pc := 1) (v := 256) C d_Un_letGoOn_1 (by decide) ?_
  refine q_imul (pc := 4) C d_Un_letGoOn_4 ?_
  refine q_nmi (fun y2_5 ey2_5 => ?_)
  replace h := h y2_5 ey2_5
  refine q_istore_n (pc := 5) [(2, .int y2_5), (0, .ref (ya Y 22)), (1, .int x1)] C d_Un_letGoOn_5 rfl (by decide) rfl ?_
  refine q_iconst (pc := 6) (v := 0) C d_Un_letGoOn_6 (by decide) ?_
  refine q_istore_n (pc := 7) [(3, .int (0 : Int32)), (2, .int y2_5), (0, .ref (ya Y 22)), (1, .int x1)] C d_Un_letGoOn_7 rfl (by decide) rfl ?_
  obtain ⟨n12, h⟩ := h
  refine q_sub [(0, .ref (ya Y 22)), (2, .int y2_5), (3, .int (0 : Int32))] [2, 1, 0] rfl ?_
  exact t_Un_letGoOn_8 hY C hr n12 (0 : Int32) σ h
