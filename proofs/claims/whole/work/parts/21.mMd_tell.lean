theorem d_Md_tell_0 : decode prog_9_method_71_code 0 = .ok (.aload_n 0, 1) := by decide +kernel
theorem d_Md_tell_1 : decode prog_9_method_71_code 1 = .ok (.iload_n 1, 1) := by decide +kernel
theorem d_Md_tell_2 : decode prog_9_method_71_code 2 = .ok (.invokevirtual 147, 3) := by decide +kernel
theorem d_Md_tell_5 : decode prog_9_method_71_code 5 = .ok (.ifCond .ne 5, 3) := by decide +kernel
theorem d_Md_tell_8 : decode prog_9_method_71_code 8 = .ok (.iconst (-1), 1) := by decide +kernel
theorem d_Md_tell_9 : decode prog_9_method_71_code 9 = .ok (.ireturn, 1) := by decide +kernel
theorem d_Md_tell_10 : decode prog_9_method_71_code 10 = .ok (.aload_n 0, 1) := by decide +kernel
theorem d_Md_tell_11 : decode prog_9_method_71_code 11 = .ok (.getfield 22, 3) := by decide +kernel
theorem d_Md_tell_14 : decode prog_9_method_71_code 14 = .ok (.iload_n 1, 1) := by decide +kernel
theorem d_Md_tell_15 : decode prog_9_method_71_code 15 = .ok (.iaload, 1) := by decide +kernel
theorem d_Md_tell_16 : decode prog_9_method_71_code 16 = .ok (.istore_n 2, 1) := by decide +kernel
theorem d_Md_tell_17 : decode prog_9_method_71_code 17 = .ok (.aload_n 0, 1) := by decide +kernel
theorem d_Md_tell_18 : decode prog_9_method_71_code 18 = .ok (.getfield 19, 3) := by decide +kernel
theorem d_Md_tell_21 : decode prog_9_method_71_code 21 = .ok (.iload_n 1, 1) := by decide +kernel
theorem d_Md_tell_22 : decode prog_9_method_71_code 22 = .ok (.iaload, 1) := by decide +kernel
theorem d_Md_tell_23 : decode prog_9_method_71_code 23 = .ok (.lookupswitch 67 #[(1, 25), (2, 40)], 25) := by decide +kernel
theorem d_Md_tell_48 : decode prog_9_method_71_code 48 = .ok (.aload_n 0, 1) := by decide +kernel
theorem d_Md_tell_49 : decode prog_9_method_71_code 49 = .ok (.iconst 2, 1) := by decide +kernel
theorem d_Md_tell_50 : decode prog_9_method_71_code 50 = .ok (.invokevirtual 284, 3) := by decide +kernel
theorem d_Md_tell_53 : decode prog_9_method_71_code 53 = .ok (.aload_n 0, 1) := by decide +kernel
theorem d_Md_tell_54 : decode prog_9_method_71_code 54 = .ok (.iconst 1, 1) := by decide +kernel
theorem d_Md_tell_55 : decode prog_9_method_71_code 55 = .ok (.invokevirtual 284, 3) := by decide +kernel
theorem d_Md_tell_58 : decode prog_9_method_71_code 58 = .ok (.iload_n 2, 1) := by decide +kernel
theorem d_Md_tell_59 : decode prog_9_method_71_code 59 = .ok (.bipush 100, 2) := by decide +kernel
theorem d_Md_tell_61 : decode prog_9_method_71_code 61 = .ok (.iadd, 1) := by decide +kernel
theorem d_Md_tell_62 : decode prog_9_method_71_code 62 = .ok (.ireturn, 1) := by decide +kernel
theorem d_Md_tell_63 : decode prog_9_method_71_code 63 = .ok (.aload_n 0, 1) := by decide +kernel
theorem d_Md_tell_64 : decode prog_9_method_71_code 64 = .ok (.iconst 3, 1) := by decide +kernel
theorem d_Md_tell_65 : decode prog_9_method_71_code 65 = .ok (.invokevirtual 284, 3) := by decide +kernel
theorem d_Md_tell_68 : decode prog_9_method_71_code 68 = .ok (.aload_n 0, 1) := by decide +kernel
theorem d_Md_tell_69 : decode prog_9_method_71_code 69 = .ok (.iconst 2, 1) := by decide +kernel
theorem d_Md_tell_70 : decode prog_9_method_71_code 70 = .ok (.invokevirtual 284, 3) := by decide +kernel
theorem d_Md_tell_73 : decode prog_9_method_71_code 73 = .ok (.aload_n 0, 1) := by decide +kernel
theorem d_Md_tell_74 : decode prog_9_method_71_code 74 = .ok (.iconst 1, 1) := by decide +kernel
theorem d_Md_tell_75 : decode prog_9_method_71_code 75 = .ok (.invokevirtual 284, 3) := by decide +kernel
theorem d_Md_tell_78 : decode prog_9_method_71_code 78 = .ok (.aload_n 0, 1) := by decide +kernel
theorem d_Md_tell_79 : decode prog_9_method_71_code 79 = .ok (.iconst 1, 1) := by decide +kernel
theorem d_Md_tell_80 : decode prog_9_method_71_code 80 = .ok (.invokevirtual 284, 3) := by decide +kernel
theorem d_Md_tell_83 : decode prog_9_method_71_code 83 = .ok (.iconst 2, 1) := by decide +kernel
theorem d_Md_tell_84 : decode prog_9_method_71_code 84 = .ok (.iload_n 2, 1) := by decide +kernel
theorem d_Md_tell_85 : decode prog_9_method_71_code 85 = .ok (.imul, 1) := by decide +kernel
theorem d_Md_tell_86 : decode prog_9_method_71_code 86 = .ok (.bipush 100, 2) := by decide +kernel
theorem d_Md_tell_88 : decode prog_9_method_71_code 88 = .ok (.iadd, 1) := by decide +kernel
theorem d_Md_tell_89 : decode prog_9_method_71_code 89 = .ok (.ireturn, 1) := by decide +kernel
theorem d_Md_tell_90 : decode prog_9_method_71_code 90 = .ok (.aload_n 0, 1) := by decide +kernel
theorem d_Md_tell_91 : decode prog_9_method_71_code 91 = .ok (.iconst 1, 1) := by decide +kernel
theorem d_Md_tell_92 : decode prog_9_method_71_code 92 = .ok (.invokevirtual 284, 3) := by decide +kernel
theorem d_Md_tell_95 : decode prog_9_method_71_code 95 = .ok (.iload_n 2, 1) := by decide +kernel
theorem d_Md_tell_96 : decode prog_9_method_71_code 96 = .ok (.ireturn, 1) := by decide +kernel
abbrev y_Md_tell : MethodName := ⟨"LoadCyclesModel", "tell", "(I)I"⟩
theorem mi_Md_tell : miV y_Md_tell prog_9_method_71_code 3 (some .int) 1 := ⟨wd_1113, wd_1114, wd_72, wd_1115, by decide, by decide, by decide +kernel⟩
def w_Md_tell (x1 : Int32) (σ : Sg) (K : Int32 → Sg → Prop) : Prop :=
  w_Md_isAppliance x1 σ (fun u2 => ((¬ u2 = 0 → (vp_in x1 4 ∧ (∀ y2_16 : Int32, y2_16 = (σ 48 x1.toNatClampNeg) → (vp_in x1 4 ∧ (((σ 47 x1.toNatClampNeg) = (1 : Int32) → w_Md_begins (2 : Int32) σ (fun τ50 => w_Md_begins (1 : Int32) τ50 (fun τ55 => K (y2_16 + (100 : Int32)) τ55))) ∧ ((σ 47 x1.toNatClampNeg) = (2 : Int32) → w_Md_begins (3 : Int32) σ (fun τ65 => w_Md_begins (2 : Int32) τ65 (fun τ70 => w_Md_begins (1 : Int32) τ70 (fun τ75 => w_Md_begins (1 : Int32) τ75 (fun τ80 => K (((2 : Int32) * y2_16) + (100 : Int32)) τ80))))) ∧ (¬ (σ 47 x1.toNatClampNeg) = (1 : Int32) → ¬ (σ 47 x1.toNatClampNeg) = (2 : Int32) → w_Md_begins (1 : Int32) σ (fun τ92 => K y2_16 τ92))))))) ∧ (u2 = 0 → K (-1 : Int32) σ)))
set_option maxHeartbeats 4000000 in
theorem m_Md_tell {Y : Yx} {x1 : Int32} {σ : Sg} {K : Int32 → Sg → Prop} (hY : YD Y)  (h : w_Md_tell x1 σ K) : MetI Y y_Md_tell prog_9_method_71_code 3 (.int) 2 46 [.ref (ya Y 43), .int x1] σ K := by
  refine met_I [(0, .ref (ya Y 43)), (1, .int x1)] hY (by decide) (Nat.le_of_ble_eq_true rfl) rfl (fun X C hr => ?_)
  unfold w_Md_tell at h
  refine q_aload_n (pc := 0) C d_Md_tell_0 rfl 0 rfl ?_
  refine q_iload_n (pc := 1) C d_Md_tell_1 rfl 1 rfl ?_
  refine q_callVIr (pc := 2) (st := []) (d := 43) C (m_Md_isAppliance hY h) mi_Md_isAppliance rfl (by decide) rfl wd_877 rfl rfl (Nat.le_of_ble_eq_true rfl) (by decide) (by decide) d_Md_tell_2 (fun u2 h => ?_)
  obtain ⟨h8, h9⟩ := h
  refine q_if_ne (pc := 5) 10 C d_Md_tell_5 (by decide) (fun hc => ?_) (fun hc => ?_)
  · have h := h8 hc
    refine q_aload_n (pc := 10) C d_Md_tell_10 rfl 0 rfl ?_
    refine q_get (pc := 11) (c := 43) (ci := 7) (k := 7) (v := .ref (ya Y 48)) C rfl (by decide) (by decide) wd_740 rfl d_Md_tell_11 ?_
    refine q_iload_n (pc := 14) C d_Md_tell_14 rfl 1 rfl ?_
    obtain ⟨h1, h⟩ := h
    refine q_iald (pc := 15) (c := 48) C ⟨rfl, rfl⟩ h1 d_Md_tell_15 ?_
    refine q_nmi (fun y2_16 ey2_16 => ?_)
    replace h := h y2_16 ey2_16
    refine q_istore_n (pc := 16) [(2, .int y2_16), (0, .ref (ya Y 43)), (1, .int x1)] C d_Md_tell_16 rfl (by decide) rfl ?_
    refine q_aload_n (pc := 17) C d_Md_tell_17 rfl 1 rfl ?_
    refine q_get (pc := 18) (c := 43) (ci := 7) (k := 6) (v := .ref (ya Y 47)) C rfl (by decide) (by decide) wd_739 rfl d_Md_tell_18 ?_
    refine q_iload_n (pc := 21) C d_Md_tell_21 rfl 2 rfl ?_
    obtain ⟨h2, h⟩ := h
    refine q_iald (pc := 22) (c := 47) C ⟨rfl, rfl⟩ h2 d_Md_tell_22 ?_
    obtain ⟨h4, h6, h7⟩ := h
    by_cases h3 : (σ 47 x1.toNatClampNeg) = (1 : Int32)
    · refine q_lookupK (pc := 23) 48 (k := 1) (off := 25) C h3 (by decide) d_Md_tell_23 (by decide) (by decide) (by decide) ?_
      have h := h4 h3
      refine q_aload_n (pc := 48) C d_Md_tell_48 rfl 1 rfl ?_
      refine q_iconst (pc := 49) (v := 2) C d_Md_tell_49 (by decide) ?_
      refine q_callVV (pc := 50) (st := []) (d := 43) C (m_Md_begins hY h) mi_Md_begins rfl (by decide) rfl wd_1116 rfl rfl (Nat.le_of_ble_eq_true rfl) (by decide) (by decide) d_Md_tell_50 (fun τ50 h => ?_)
      refine q_aload_n (pc := 53) C d_Md_tell_53 rfl 1 rfl ?_
      refine q_iconst (pc := 54) (v := 1) C d_Md_tell_54 (by decide) ?_
      refine q_callVV (pc := 55) (st := []) (d := 43) C (m_Md_begins hY h) mi_Md_begins rfl (by decide) rfl wd_1116 rfl rfl (Nat.le_of_ble_eq_true rfl) (by decide) (by decide) d_Md_tell_55 (fun τ55 h => ?_)
      refine q_iload_n (pc := 58) C d_Md_tell_58 rfl 0 rfl ?_
      refine q_bipush (pc := 59) (v := 100) C d_Md_tell_59 (by decide) ?_
      refine q_iadd (pc := 61) C d_Md_tell_61 ?_
      exact q_iret (pc := 62) C hr d_Md_tell_62 h
    by_cases h5 : (σ 47 x1.toNatClampNeg) = (2 : Int32)
    · refine q_lookupK (pc := 23) 63 (k := 2) (off := 40) C h5 (by decide) d_Md_tell_23 (by decide) (by decide) (by decide) ?_
      have h := h6 h5
      refine q_aload_n (pc := 63) C d_Md_tell_63 rfl 1 rfl ?_
      refine q_iconst (pc := 64) (v := 3) C d_Md_tell_64 (by decide) ?_
      refine q_callVV (pc := 65) (st := []) (d := 43) C (m_Md_begins hY h) mi_Md_begins rfl (by decide) rfl wd_1116 rfl rfl (Nat.le_of_ble_eq_true rfl) (by decide) (by decide) d_Md_tell_65 (fun τ65 h => ?_)
      refine q_aload_n (pc := 68) C d_Md_tell_68 rfl 1 rfl ?_
      refine q_iconst (pc := 69) (v := 2) C d_Md_tell_69 (by decide) ?_
      refine q_callVV (pc := 70) (st := []) (d := 43) C (m_Md_begins hY h) mi_Md_begins rfl (by decide) rfl wd_1116 rfl rfl (Nat.le_of_ble_eq_true rfl) (by decide) (by decide) d_Md_tell_70 (fun τ70 h => ?_)
      refine q_aload_n (pc := 73) C d_Md_tell_73 rfl 1 rfl ?_
      refine q_iconst (pc := 74) (v := 1) C d_Md_tell_74 (by decide) ?_
      refine q_callVV (pc := 75) (st := []) (d := 43) C (m_Md_begins hY h) mi_Md_begins rfl (by decide) rfl wd_1116 rfl rfl (Nat.le_of_ble_eq_true rfl) (by decide) (by decide) d_Md_tell_75 (fun τ75 h => ?_)
      refine q_aload_n (pc := 78) C d_Md_tell_78 rfl 1 rfl ?_
      refine q_iconst (pc := 79) (v := 1) C d_Md_tell_79 (by decide) ?_
      refine q_callVV (pc := 80) (st := []) (d := 43) C (m_Md_begins hY h) mi_Md_begins rfl (by decide) rfl wd_1116 rfl rfl (Nat.le_of_ble_eq_true rfl) (by decide) (by decide) d_Md_tell_80 (fun τ80 h => ?_)
      refine q_iconst (pc := 83) (v := 2) C d_Md_tell_83 (by decide) ?_
      refine q_iload_n (pc := 84) C d_Md_tell_84 rfl 0 rfl ?_
      refine q_imul (pc := 85) C d_Md_tell_85 ?_
      refine q_bipush (pc := 86) (v := 100) C d_Md_tell_86 (by decide) ?_
      refine q_iadd (pc := 88) C d_Md_tell_88 ?_
      exact q_iret (pc := 89) C hr d_Md_tell_89 h
    refine q_lookup (pc := 23) 90 (off := 67) C d_Md_tell_23 (by decide) (by show Op.lookupswitch.offset [(1, 25), (2, 40)] 67 _ = _; rw [Op.lookupswitch.offset_cons, if_neg (Ne.symm (sw_ne (k := 1) rfl h3)), Op.lookupswitch.offset_cons, if_neg (Ne.symm (sw_ne (k := 2) rfl h5))]; rfl) (by decide) ?_
    have h := h7 h3 h5
    refine q_aload_n (pc := 90) C d_Md_tell_90 rfl 1 rfl ?_
    refine q_iconst (pc := 91) (v := 1) C d_Md_tell_91 (by decide) ?_
    refine q_callVV (pc := 92) (st := []) (d := 43) C (m_Md_begins hY h) mi_Md_begins rfl (by decide) rfl wd_1116 rfl rfl (Nat.le_of_ble_eq_true rfl) (by decide) (by decide) d_Md_tell_92 (fun τ92 h => ?_)
    refine q_iload_n (pc := 95) C d_Md_tell_95 rfl 0 rfl ?_
    exact q_iret (pc := 96) C hr d_Md_tell_96 h
  have h := h9 hc
  refine q_iconst (pc := 8) (v := -1) C d_Md_tell_8 (by decide) ?_
  exact q_iret (pc := 9) C hr d_Md_tell_9 h
theorem d_Md_metered_0 : decode prog_9_method_72_code 0 = .ok (.aload_n 0, 1) := by decide +kernel
theorem d_Md_metered_1 : decode prog_9_method_72_code 1 = .ok (.iload_n 1, 1) := by decide +kernel
theorem d_Md_metered_2 : decode prog_9_method_72_code 2 = .ok (.invokevirtual 147, 3) := by decide +kernel
theorem d_Md_metered_5 : decode prog_9_method_72_code 5 = .ok (.ifCond .ne 5, 3) := by decide +kernel
theorem d_Md_metered_8 : decode prog_9_method_72_code 8 = .ok (.iconst (-1), 1) := by decide +kernel
theorem d_Md_metered_9 : decode prog_9_method_72_code 9 = .ok (.ireturn, 1) := by decide +kernel
theorem d_Md_metered_10 : decode prog_9_method_72_code 10 = .ok (.aload_n 0, 1) := by decide +kernel
theorem d_Md_metered_11 : decode prog_9_method_72_code 11 = .ok (.aload_n 0, 1) := by decide +kernel
theorem d_Md_metered_12 : decode prog_9_method_72_code 12 = .ok (.getfield 19, 3) := by decide +kernel
theorem d_Md_metered_15 : decode prog_9_method_72_code 15 = .ok (.iload_n 1, 1) := by decide +kernel
theorem d_Md_metered_16 : decode prog_9_method_72_code 16 = .ok (.iaload, 1) := by decide +kernel
theorem d_Md_metered_17 : decode prog_9_method_72_code 17 = .ok (.iconst 2, 1) := by decide +kernel
theorem d_Md_metered_18 : decode prog_9_method_72_code 18 = .ok (.if_icmp .ne 7, 3) := by decide +kernel
theorem d_Md_metered_21 : decode prog_9_method_72_code 21 = .ok (.iconst 5, 1) := by decide +kernel
theorem d_Md_metered_22 : decode prog_9_method_72_code 22 = .ok (.goto 4, 3) := by decide +kernel
theorem d_Md_metered_25 : decode prog_9_method_72_code 25 = .ok (.iconst 4, 1) := by decide +kernel
theorem d_Md_metered_26 : decode prog_9_method_72_code 26 = .ok (.invokevirtual 284, 3) := by decide +kernel
theorem d_Md_metered_29 : decode prog_9_method_72_code 29 = .ok (.aload_n 0, 1) := by decide +kernel
theorem d_Md_metered_30 : decode prog_9_method_72_code 30 = .ok (.getfield 19, 3) := by decide +kernel
theorem d_Md_metered_33 : decode prog_9_method_72_code 33 = .ok (.iload_n 1, 1) := by decide +kernel
theorem d_Md_metered_34 : decode prog_9_method_72_code 34 = .ok (.iaload, 1) := by decide +kernel
theorem d_Md_metered_35 : decode prog_9_method_72_code 35 = .ok (.iconst 2, 1) := by decide +kernel
theorem d_Md_metered_36 : decode prog_9_method_72_code 36 = .ok (.if_icmp .ne 8, 3) := by decide +kernel
theorem d_Md_metered_39 : decode prog_9_method_72_code 39 = .ok (.bipush 90, 2) := by decide +kernel
theorem d_Md_metered_41 : decode prog_9_method_72_code 41 = .ok (.goto 33, 3) := by decide +kernel
theorem d_Md_metered_44 : decode prog_9_method_72_code 44 = .ok (.aload_n 0, 1) := by decide +kernel
theorem d_Md_metered_45 : decode prog_9_method_72_code 45 = .ok (.getfield 25, 3) := by decide +kernel
theorem d_Md_metered_48 : decode prog_9_method_72_code 48 = .ok (.iconst 3, 1) := by decide +kernel
theorem d_Md_metered_49 : decode prog_9_method_72_code 49 = .ok (.iload_n 1, 1) := by decide +kernel
theorem d_Md_metered_50 : decode prog_9_method_72_code 50 = .ok (.imul, 1) := by decide +kernel
theorem d_Md_metered_51 : decode prog_9_method_72_code 51 = .ok (.iaload, 1) := by decide +kernel
theorem d_Md_metered_52 : decode prog_9_method_72_code 52 = .ok (.aload_n 0, 1) := by decide +kernel
theorem d_Md_metered_53 : decode prog_9_method_72_code 53 = .ok (.getfield 25, 3) := by decide +kernel
theorem d_Md_metered_56 : decode prog_9_method_72_code 56 = .ok (.iconst 3, 1) := by decide +kernel
theorem d_Md_metered_57 : decode prog_9_method_72_code 57 = .ok (.iload_n 1, 1) := by decide +kernel
theorem d_Md_metered_58 : decode prog_9_method_72_code 58 = .ok (.imul, 1) := by decide +kernel
theorem d_Md_metered_59 : decode prog_9_method_72_code 59 = .ok (.iconst 1, 1) := by decide +kernel
theorem d_Md_metered_60 : decode prog_9_method_72_code 60 = .ok (.iadd, 1) := by decide +kernel
theorem d_Md_metered_61 : decode prog_9_method_72_code 61 = .ok (.iaload, 1) := by decide +kernel
theorem d_Md_metered_62 : decode prog_9_method_72_code 62 = .ok (.iadd, 1) := by decide +kernel
theorem d_Md_metered_63 : decode prog_9_method_72_code 63 = .ok (.aload_n 0, 1) := by decide +kernel
theorem d_Md_metered_64 : decode prog_9_method_72_code 64 = .ok (.getfield 25, 3) := by decide +kernel
theorem d_Md_metered_67 : decode prog_9_method_72_code 67 = .ok (.iconst 3, 1) := by decide +kernel
theorem d_Md_metered_68 : decode prog_9_method_72_code 68 = .ok (.iload_n 1, 1) := by decide +kernel
theorem d_Md_metered_69 : decode prog_9_method_72_code 69 = .ok (.imul, 1) := by decide +kernel
theorem d_Md_metered_70 : decode prog_9_method_72_code 70 = .ok (.iconst 2, 1) := by decide +kernel
theorem d_Md_metered_71 : decode prog_9_method_72_code 71 = .ok (.iadd, 1) := by decide +kernel
theorem d_Md_metered_72 : decode prog_9_method_72_code 72 = .ok (.iaload, 1) := by decide +kernel
theorem d_Md_metered_73 : decode prog_9_method_72_code 73 = .ok (.iadd, 1) := by decide +kernel
theorem d_Md_metered_74 : decode prog_9_method_72_code 74 = .ok (.ireturn, 1) := by decide +kernel
abbrev y_Md_metered : MethodName := ⟨"LoadCyclesModel", "metered", "(I)I"⟩
theorem mi_Md_metered : miV y_Md_metered prog_9_method_72_code 2 (some .int) 1 := ⟨wd_1121, wd_1122, wd_72, wd_1123, by decide, by decide, by decide +kernel⟩
def B_Md_metered_26 (x1 : Int32) (K : Int32 → Sg → Prop) (vs0 : Int32) (σ : Sg) : Prop :=
  w_Md_begins vs0 σ (fun τ26 => (vp_in x1 4 ∧ ((¬ (τ26 47 x1.toNatClampNeg) = (2 : Int32) → (vp_in ((3 : Int32) * x1) 12 ∧ (vp_in (((3 : Int32) * x1) + (1 : Int32)) 12 ∧ (vp_in (((3 : Int32) * x1) + (2 : Int32)) 12 ∧ K (((τ26 49 ((3 : Int32) * x1).toNatClampNeg) + (τ26 49 (((3 : Int32) * x1) + (1 : Int32)).toNatClampNeg)) + (τ26 49 (((3 : Int32) * x1) + (2 : Int32)).toNatClampNeg)) τ26)))) ∧ ((τ26 47 x1.toNatClampNeg) = (2 : Int32) → K (90 : Int32) τ26))))
theorem t_Md_metered_26 {X : Bx} {Y : Yx} {x1 : Int32} {vs0 : Int32} {K : Int32 → Sg → Prop}  (hY : YD Y) (C : Cx X Y prog_9_method_72_code 2 "LoadCyclesModel" 2 46) (hr : (xh X).sig.returnType = some .int)   {σ : Sg} (h : B_Md_metered_26 x1 K vs0 σ) : St X Y 2 (QI X Y K) 26 [(0, .ref (ya Y 43)), (1, .int x1)] [.int vs0, .ref (ya Y 43)] σ := by
  unfold B_Md_metered_26 at h
  refine q_callVV (pc := 26) (st := []) (d := 43) C (m_Md_begins hY h) mi_Md_begins rfl (by decide) rfl wd_1116 rfl rfl (Nat.le_of_ble_eq_true rfl) (by decide) (by decide) d_Md_metered_26 (fun τ26 h => ?_)
  refine q_aload_n (pc := 29) C d_Md_metered_29 rfl 0 rfl ?_
  refine q_get (pc := 30) (c := 43) (ci := 7) (k := 6) (v := .ref (ya Y 47)) C rfl (by decide) (by decide) wd_739 rfl d_Md_metered_30 ?_
  refine q_iload_n (pc := 33) C d_Md_metered_33 rfl 1 rfl ?_
  obtain ⟨h2, h⟩ := h
  refine q_iald (pc := 34) (c := 47) C ⟨rfl, rfl⟩ h2 d_Md_metered_34 ?_
  refine q_iconst (pc := 35) (v := 2) C d_Md_metered_35 (by decide) ?_
  obtain ⟨h6, h7⟩ := h
  refine q_icmp_ne (pc := 36) 44 C d_Md_metered_36 (by decide) (fun hc => ?_) (fun hc => ?_)
  · have h := h6 hc
    refine q_aload_n (pc := 44) C d_Md_metered_44 rfl 0 rfl ?_
    refine q_get (pc := 45) (c := 43) (ci := 7) (k := 8) (v := .ref (ya Y 49)) C rfl (by decide) (by decide) wd_741 rfl d_Md_metered_45 ?_
    refine q_iconst (pc := 48) (v := 3) C d_Md_metered_48 (by decide) ?_
    refine q_iload_n (pc := 49) C d_Md_metered_49 rfl 1 rfl ?_
    refine q_imul (pc := 50) C d_Md_metered_50 ?_
    obtain ⟨h3, h⟩ := h
    refine q_iald (pc := 51) (c := 49) C ⟨rfl, rfl⟩ h3 d_Md_metered_51 ?_
    refine q_aload_n (pc := 52) C d_Md_metered_52 rfl 0 rfl ?_
    refine q_get (pc := 53) (c := 43) (ci := 7) (k := 8) (v := .ref (ya Y 49)) C rfl (by decide) (by decide) wd_741 rfl d_Md_metered_53 ?_
    refine q_iconst (pc := 56) (v := 3) C d_Md_metered_56 (by decide) ?_
    refine q_iload_n (pc := 57) C d_Md_metered_57 rfl 1 rfl ?_
    refine q_imul (pc := 58) C d_Md_metered_58 ?_
    refine q_iconst (pc := 59) (v := 1) C d_Md_metered_59 (by decide) ?_
    refine q_iadd (pc := 60) C d_Md_metered_60 ?_
    obtain ⟨h4, h⟩ := h
    refine q_iald (pc := 61) (c := 49) C ⟨rfl, rfl⟩ h4 d_Md_metered_61 ?_
    refine q_iadd (pc := 62) C d_Md_metered_62 ?_
    refine q_aload_n (pc := 63) C d_Md_metered_63 rfl 0 rfl ?_
    refine q_get (pc := 64) (c := 43) (ci := 7) (k := 8) (v := .ref (ya Y 49)) C rfl (by decide) (by decide) wd_741 rfl d_Md_metered_64 ?_
    refine q_iconst (pc := 67) (v := 3) C d_Md_metered_67 (by decide) ?_
    refine q_iload_n (pc := 68) C d_Md_metered_68 rfl 1 rfl ?_
    refine q_imul (pc := 69) C d_Md_metered_69 ?_
    refine q_iconst (pc := 70) (v := 2) C d_Md_metered_70 (by decide) ?_
    refine q_iadd (pc := 71) C d_Md_metered_71 ?_
    obtain ⟨h5, h⟩ := h
    refine q_iald (pc := 72) (c := 49) C ⟨rfl, rfl⟩ h5 d_Md_metered_72 ?_
    refine q_iadd (pc := 73) C d_Md_metered_73 ?_
    exact q_iret (pc := 74) C hr d_Md_metered_74 h
  have h := h7 hc
  refine q_bipush (pc := 39) (v := 90) C d_Md_metered_39 (by decide) ?_
  refine q_goto (pc := 41) 74 C d_Md_metered_41 (by decide) ?_
  exact q_iret (pc := 74) C hr d_Md_metered_74 h
def w_Md_metered (x1 : Int32) (σ : Sg) (K : Int32 → Sg → Prop) : Prop :=
  w_Md_isAppliance x1 σ (fun u2 => ((¬ u2 = 0 → (vp_in x1 4 ∧ ((¬ (σ 47 x1.toNatClampNeg) = (2 : Int32) → B_Md_metered_26 x1 K (4 : Int32) σ) ∧ ((σ 47 x1.toNatClampNeg) = (2 : Int32) → B_Md_metered_26 x1 K (5 : Int32) σ)))) ∧ (u2 = 0 → K (-1 : Int32) σ)))
set_option maxHeartbeats 4000000 in
theorem m_Md_metered {Y : Yx} {x1 : Int32} {σ : Sg} {K : Int32 → Sg → Prop} (hY : YD Y)  (h : w_Md_metered x1 σ K) : MetI Y y_Md_metered prog_9_method_72_code 2 (.int) 2 46 [.ref (ya Y 43), .int x1] σ K := by
  refine met_I [(0, .ref (ya Y 43)), (1, .int x1)] hY (by decide) (Nat.le_of_ble_eq_true rfl) rfl (fun X C hr => ?_)
  unfold w_Md_metered at h
  refine q_aload_n (pc := 0) C d_Md_metered_0 rfl 0 rfl ?_
  refine q_iload_n (pc := 1) C d_Md_metered_1 rfl 1 rfl ?_
  refine q_callVIr (pc := 2) (st := []) (d := 43) C (m_Md_isAppliance hY h) mi_Md_isAppliance rfl (by decide) rfl wd_877 rfl rfl (Nat.le_of_ble_eq_true rfl) (by decide) (by decide) d_Md_metered_2 (fun u2 h => ?_)
  obtain ⟨h10, h11⟩ := h
  refine q_if_ne (pc := 5) 10 C d_Md_metered_5 (by decide) (fun hc => ?_) (fun hc => ?_)
  · have h := h10 hc
    refine q_aload_n (pc := 10) C d_Md_metered_10 rfl 0 rfl ?_
    refine q_aload_n (pc := 11) C d_Md_metered_11 rfl 0 rfl ?_
    refine q_get (pc := 12) (c := 43) (ci := 7) (k := 6) (v := .ref (ya Y 47)) C rfl (by decide) (by decide) wd_739 rfl d_Md_metered_12 ?_
    refine q_iload_n (pc := 15) C d_Md_metered_15 rfl 1 rfl ?_
    obtain ⟨h1, h⟩ := h
    refine q_iald (pc := 16) (c := 47) C ⟨rfl, rfl⟩ h1 d_Md_metered_16 ?_
    refine q_iconst (pc := 17) (v := 2) C d_Md_metered_17 (by decide) ?_
    obtain ⟨h8, h9⟩ := h
    refine q_icmp_ne (pc := 18) 25 C d_Md_metered_18 (by decide) (fun hc => ?_) (fun hc => ?_)
    · have h := h8 hc
      refine q_iconst (pc := 25) (v := 4) C d_Md_metered_25 (by decide) ?_
      exact t_Md_metered_26 hY C hr h
    have h := h9 hc
    refine q_iconst (pc := 21) (v := 5) C d_Md_metered_21 (by decide) ?_
    refine q_goto (pc := 22) 26 C d_Md_metered_22 (by decide) ?_
    exact t_Md_metered_26 hY C hr h
  have h := h11 hc
  refine q_iconst (pc := 8) (v := -1) C d_Md_metered_8 (by decide) ?_
  exact q_iret (pc := 9) C hr d_Md_metered_9 h
theorem d_Md_as_0 : decode prog_9_method_73_code 0 = .ok (.aload_n 0, 1) := by decide +kernel
theorem d_Md_as_1 : decode prog_9_method_73_code 1 = .ok (.iconst 0, 1) := by decide +kernel
theorem d_Md_as_2 : decode prog_9_method_73_code 2 = .ok (.putfield 79, 3) := by decide +kernel
theorem d_Md_as_5 : decode prog_9_method_73_code 5 = .ok (.aload_n 0, 1) := by decide +kernel
theorem d_Md_as_6 : decode prog_9_method_73_code 6 = .ok (.iload_n 1, 1) := by decide +kernel
theorem d_Md_as_7 : decode prog_9_method_73_code 7 = .ok (.invokevirtual 147, 3) := by decide +kernel
theorem d_Md_as_10 : decode prog_9_method_73_code 10 = .ok (.ifCond .ne 5, 3) := by decide +kernel
theorem d_Md_as_13 : decode prog_9_method_73_code 13 = .ok (.iconst (-1), 1) := by decide +kernel
theorem d_Md_as_14 : decode prog_9_method_73_code 14 = .ok (.ireturn, 1) := by decide +kernel
theorem d_Md_as_15 : decode prog_9_method_73_code 15 = .ok (.iload_n 2, 1) := by decide +kernel
theorem d_Md_as_16 : decode prog_9_method_73_code 16 = .ok (.i2l, 1) := by decide +kernel
theorem d_Md_as_17 : decode prog_9_method_73_code 17 = .ok (.lconst 0, 1) := by decide +kernel
theorem d_Md_as_18 : decode prog_9_method_73_code 18 = .ok (.ldc2_w 91, 3) := by decide +kernel
theorem d_Md_as_21 : decode prog_9_method_73_code 21 = .ok (.invokestatic 87, 3) := by decide +kernel
theorem d_Md_as_24 : decode prog_9_method_73_code 24 = .ok (.ifCond .ne 6, 3) := by decide +kernel
theorem d_Md_as_27 : decode prog_9_method_73_code 27 = .ok (.bipush (-2), 2) := by decide +kernel
theorem d_Md_as_29 : decode prog_9_method_73_code 29 = .ok (.ireturn, 1) := by decide +kernel
theorem d_Md_as_30 : decode prog_9_method_73_code 30 = .ok (.aload_n 0, 1) := by decide +kernel
theorem d_Md_as_31 : decode prog_9_method_73_code 31 = .ok (.getfield 19, 3) := by decide +kernel
theorem d_Md_as_34 : decode prog_9_method_73_code 34 = .ok (.iload_n 1, 1) := by decide +kernel
theorem d_Md_as_35 : decode prog_9_method_73_code 35 = .ok (.iaload, 1) := by decide +kernel
theorem d_Md_as_36 : decode prog_9_method_73_code 36 = .ok (.iload_n 2, 1) := by decide +kernel
theorem d_Md_as_37 : decode prog_9_method_73_code 37 = .ok (.if_icmp .lt 7, 3) := by decide +kernel
theorem d_Md_as_40 : decode prog_9_method_73_code 40 = .ok (.iconst 1, 1) := by decide +kernel
theorem d_Md_as_41 : decode prog_9_method_73_code 41 = .ok (.goto 8, 3) := by decide +kernel
theorem d_Md_as_44 : decode prog_9_method_73_code 44 = .ok (.aload_n 0, 1) := by decide +kernel
theorem d_Md_as_45 : decode prog_9_method_73_code 45 = .ok (.iconst 2, 1) := by decide +kernel
theorem d_Md_as_46 : decode prog_9_method_73_code 46 = .ok (.invokevirtual 131, 3) := by decide +kernel
theorem d_Md_as_49 : decode prog_9_method_73_code 49 = .ok (.ireturn, 1) := by decide +kernel
abbrev y_Md_as : MethodName := ⟨"LoadCyclesModel", "as", "(II)I"⟩
theorem mi_Md_as : miV y_Md_as prog_9_method_73_code 3 (some .int) 2 := ⟨wd_1125, wd_1126, wd_72, wd_1127, by decide, by decide, by decide +kernel⟩
def w_Md_as (x1 : Int32) (x2 : Int32) (σ : Sg) (K : Int32 → Sg → Prop) : Prop :=
  (∀ τ2 : Sg, τ2 = s2 σ 43 0 (0 : Int32) → w_Md_isAppliance x1 τ2 (fun u7 => ((¬ u7 = 0 → w_Md_within (x2.toInt64) (0 : Int64) (2 : Int64) τ2 (fun u21 => ((¬ u21 = 0 → (vp_in x1 4 ∧ (((τ2 47 x1.toNatClampNeg) < x2 → w_Md_fails (2 : Int32) τ2 (fun u46 τ46 => K u46 τ46)) ∧ (¬ (τ2 47 x1.toNatClampNeg) < x2 → K (1 : Int32) τ2)))) ∧ (u21 = 0 → K (-2 : Int32) τ2)))) ∧ (u7 = 0 → K (-1 : Int32) τ2))))
set_option maxHeartbeats 4000000 in
theorem m_Md_as {Y : Yx} {x1 : Int32} {x2 : Int32} {σ : Sg} {K : Int32 → Sg → Prop} (hY : YD Y)  (h : w_Md_as x1 x2 σ K) : MetI Y y_Md_as prog_9_method_73_code 3 (.int) 2 46 [.ref (ya Y 43), .int x1, .int x2] σ K := by
  refine met_I [(0, .ref (ya Y 43)), (1, .int x1), (2, .int x2)] hY (by decide) (Nat.le_of_ble_eq_true rfl) rfl (fun X C hr => ?_)
  unfold w_Md_as at h
  refine q_aload_n (pc := 0) C d_Md_as_0 rfl 0 rfl ?_
  refine q_iconst (pc := 1) (v := 0) C d_Md_as_1 (by decide) ?_
  refine q_put (pc := 2) (c := 43) (ci := 7) (k := 0) C rfl (by decide) (by decide) wd_733 rfl rfl rfl fs_7_0 d_Md_as_2 ?_
  refine q_nms (fun τ2 eτ2 => ?_)
  replace h := h τ2 eτ2
  refine q_aload_n (pc := 5) C d_Md_as_5 rfl 0 rfl ?_
  refine q_iload_n (pc := 6) C d_Md_as_6 rfl 1 rfl ?_
  refine q_callVIr (pc := 7) (st := []) (d := 43) C (m_Md_isAppliance hY h) mi_Md_isAppliance rfl (by decide) rfl wd_877 rfl rfl (Nat.le_of_ble_eq_true rfl) (by decide) (by decide) d_Md_as_7 (fun u7 h => ?_)
  obtain ⟨h6, h7⟩ := h
  refine q_if_ne (pc := 10) 15 C d_Md_as_10 (by decide) (fun hc => ?_) (fun hc => ?_)
  · have h := h6 hc
    refine q_iload_n (pc := 15) C d_Md_as_15 rfl 2 rfl ?_
    refine q_i2l (pc := 16) C d_Md_as_16 ?_
    refine q_lconst (pc := 17) (v := 0) C d_Md_as_17 (by decide) ?_
    refine q_ldc2 (pc := 18) C wd_847 d_Md_as_18 ?_
    refine q_callSIr (pc := 21) (st := []) C (m_Md_within hY h) mi_Md_within wd_841 rfl rfl (Nat.le_of_ble_eq_true rfl) (by decide) (by decide) d_Md_as_21 (fun u21 h => ?_)
    obtain ⟨h4, h5⟩ := h
    refine q_if_ne (pc := 24) 30 C d_Md_as_24 (by decide) (fun hc => ?_) (fun hc => ?_)
    · have h := h4 hc
      refine q_aload_n (pc := 30) C d_Md_as_30 rfl 0 rfl ?_
      refine q_get (pc := 31) (c := 43) (ci := 7) (k := 6) (v := .ref (ya Y 47)) C rfl (by decide) (by decide) wd_739 rfl d_Md_as_31 ?_
      refine q_iload_n (pc := 34) C d_Md_as_34 rfl 1 rfl ?_
      obtain ⟨h1, h⟩ := h
      refine q_iald (pc := 35) (c := 47) C ⟨rfl, rfl⟩ h1 d_Md_as_35 ?_
      refine q_iload_n (pc := 36) C d_Md_as_36 rfl 2 rfl ?_
      obtain ⟨h2, h3⟩ := h
      refine q_icmp_lt (pc := 37) 44 C d_Md_as_37 (by decide) (fun hc => ?_) (fun hc => ?_)
      · have h := h2 hc
        refine q_aload_n (pc := 44) C d_Md_as_44 rfl 0 rfl ?_
        refine q_iconst (pc := 45) (v := 2) C d_Md_as_45 (by decide) ?_
        refine q_callVI (pc := 46) (st := []) (d := 43) C (m_Md_fails hY h) mi_Md_fails rfl (by decide) rfl wd_852 rfl rfl (Nat.le_of_ble_eq_true rfl) (by decide) (by decide) d_Md_as_46 (fun u46 τ46 h => ?_)
        exact q_iret (pc := 49) C hr d_Md_as_49 h
      have h := h3 hc
      refine q_iconst (pc := 40) (v := 1) C d_Md_as_40 (by decide) ?_
      refine q_goto (pc := 41) 49 C d_Md_as_41 (by decide) ?_
      exact q_iret (pc := 49) C hr d_Md_as_49 h
    have h := h5 hc
    refine q_bipush (pc := 27) (v := -2) C d_Md_as_27 (by decide) ?_
    exact q_iret (pc := 29) C hr d_Md_as_29 h
  have h := h7 hc
  refine q_iconst (pc := 13) (v := -1) C d_Md_as_13 (by decide) ?_
  exact q_iret (pc := 14) C hr d_Md_as_14 h
theorem d_Md_trace_0 : decode prog_9_method_74_code 0 = .ok (.aload_n 0, 1) := by decide +kernel
theorem d_Md_trace_1 : decode prog_9_method_74_code 1 = .ok (.getfield 281, 3) := by decide +kernel
theorem d_Md_trace_4 : decode prog_9_method_74_code 4 = .ok (.ireturn, 1) := by decide +kernel
abbrev y_Md_trace : MethodName := ⟨"LoadCyclesModel", "trace", "()I"⟩
theorem mi_Md_trace : miV y_Md_trace prog_9_method_74_code 1 (some .int) 0 := ⟨wd_1129, wd_1130, wd_72, wd_1131, by decide, by decide, by decide +kernel⟩
def w_Md_trace  (σ : Sg) (K : Int32 → Prop) : Prop :=
  K (σ 43 1)
set_option maxHeartbeats 4000000 in
theorem m_Md_trace {Y : Yx}  {σ : Sg} {K : Int32 → Prop} (hY : YD Y)  (h : w_Md_trace σ K) : MetI Y y_Md_trace prog_9_method_74_code 1 (.int) 0 0 [.ref (ya Y 43)] σ (fun r τ => τ = σ ∧ K r) := by
  refine met_I [(0, .ref (ya Y 43))] hY (by decide) (Nat.le_of_ble_eq_true rfl) rfl (fun X C hr => ?_)
  unfold w_Md_trace at h
  refine q_aload_n (pc := 0) C d_Md_trace_0 rfl 0 rfl ?_
  refine q_get (pc := 1) (c := 43) (ci := 7) (k := 1) (v := .int (σ 43 1)) C rfl (by decide) (by decide) wd_734 rfl d_Md_trace_1 ?_
  exact q_iret (pc := 4) C hr d_Md_trace_4 ⟨rfl, h⟩
theorem d_Md_fault_0 : decode prog_9_method_75_code 0 = .ok (.aload_n 0, 1) := by decide +kernel
theorem d_Md_fault_1 : decode prog_9_method_75_code 1 = .ok (.getfield 79, 3) := by decide +kernel
theorem d_Md_fault_4 : decode prog_9_method_75_code 4 = .ok (.ireturn, 1) := by decide +kernel
abbrev y_Md_fault : MethodName := ⟨"LoadCyclesModel", "fault", "()I"⟩
theorem mi_Md_fault : miV y_Md_fault prog_9_method_75_code 1 (some .int) 0 := ⟨wd_1133, wd_1134, wd_72, wd_1135, by decide, by decide, by decide +kernel⟩
def w_Md_fault  (σ : Sg) (K : Int32 → Prop) : Prop :=
  K (σ 43 0)
set_option maxHeartbeats 4000000 in
theorem m_Md_fault {Y : Yx}  {σ : Sg} {K : Int32 → Prop} (hY : YD Y)  (h : w_Md_fault σ K) : MetI Y y_Md_fault prog_9_method_75_code 1 (.int) 0 0 [.ref (ya Y 43)] σ (fun r τ => τ = σ ∧ K r) := by
  refine met_I [(0, .ref (ya Y 43))] hY (by decide) (Nat.le_of_ble_eq_true rfl) rfl (fun X C hr => ?_)
  unfold w_Md_fault at h
  refine q_aload_n (pc := 0) C d_Md_fault_0 rfl 0 rfl ?_
  refine q_get (pc := 1) (c := 43) (ci := 7) (k := 0) (v := .int (σ 43 0)) C rfl (by decide) (by decide) wd_733 rfl d_Md_fault_1 ?_
  exact q_iret (pc := 4) C hr d_Md_fault_4 ⟨rfl, h⟩
theorem d_Md_many_0 : decode prog_9_method_76_code 0 = .ok (.iload_n 1, 1) := by decide +kernel
theorem d_Md_many_1 : decode prog_9_method_76_code 1 = .ok (.tableswitch 83 0 4 #[35, 40, 45, 73, 78], 35) := by decide +kernel
theorem d_Md_many_36 : decode prog_9_method_76_code 36 = .ok (.aload_n 0, 1) := by decide +kernel
theorem d_Md_many_37 : decode prog_9_method_76_code 37 = .ok (.getfield 93, 3) := by decide +kernel
theorem d_Md_many_40 : decode prog_9_method_76_code 40 = .ok (.ireturn, 1) := by decide +kernel
theorem d_Md_many_41 : decode prog_9_method_76_code 41 = .ok (.aload_n 0, 1) := by decide +kernel
theorem d_Md_many_42 : decode prog_9_method_76_code 42 = .ok (.getfield 96, 3) := by decide +kernel
theorem d_Md_many_45 : decode prog_9_method_76_code 45 = .ok (.ireturn, 1) := by decide +kernel
theorem d_Md_many_46 : decode prog_9_method_76_code 46 = .ok (.aload_n 0, 1) := by decide +kernel
theorem d_Md_many_47 : decode prog_9_method_76_code 47 = .ok (.getfield 22, 3) := by decide +kernel
theorem d_Md_many_50 : decode prog_9_method_76_code 50 = .ok (.iconst 0, 1) := by decide +kernel
theorem d_Md_many_51 : decode prog_9_method_76_code 51 = .ok (.iaload, 1) := by decide +kernel
theorem d_Md_many_52 : decode prog_9_method_76_code 52 = .ok (.aload_n 0, 1) := by decide +kernel
theorem d_Md_many_53 : decode prog_9_method_76_code 53 = .ok (.getfield 22, 3) := by decide +kernel
theorem d_Md_many_56 : decode prog_9_method_76_code 56 = .ok (.iconst 1, 1) := by decide +kernel
theorem d_Md_many_57 : decode prog_9_method_76_code 57 = .ok (.iaload, 1) := by decide +kernel
theorem d_Md_many_58 : decode prog_9_method_76_code 58 = .ok (.iadd, 1) := by decide +kernel
theorem d_Md_many_59 : decode prog_9_method_76_code 59 = .ok (.aload_n 0, 1) := by decide +kernel
theorem d_Md_many_60 : decode prog_9_method_76_code 60 = .ok (.getfield 22, 3) := by decide +kernel
theorem d_Md_many_63 : decode prog_9_method_76_code 63 = .ok (.iconst 2, 1) := by decide +kernel
theorem d_Md_many_64 : decode prog_9_method_76_code 64 = .ok (.iaload, 1) := by decide +kernel
theorem d_Md_many_65 : decode prog_9_method_76_code 65 = .ok (.iadd, 1) := by decide +kernel
theorem d_Md_many_66 : decode prog_9_method_76_code 66 = .ok (.aload_n 0, 1) := by decide +kernel
theorem d_Md_many_67 : decode prog_9_method_76_code 67 = .ok (.getfield 22, 3) := by decide +kernel
theorem d_Md_many_70 : decode prog_9_method_76_code 70 = .ok (.iconst 3, 1) := by decide +kernel
theorem d_Md_many_71 : decode prog_9_method_76_code 71 = .ok (.iaload, 1) := by decide +kernel
theorem d_Md_many_72 : decode prog_9_method_76_code 72 = .ok (.iadd, 1) := by decide +kernel
theorem d_Md_many_73 : decode prog_9_method_76_code 73 = .ok (.ireturn, 1) := by decide +kernel
theorem d_Md_many_74 : decode prog_9_method_76_code 74 = .ok (.aload_n 0, 1) := by decide +kernel
theorem d_Md_many_75 : decode prog_9_method_76_code 75 = .ok (.getfield 137, 3) := by decide +kernel
theorem d_Md_many_78 : decode prog_9_method_76_code 78 = .ok (.ireturn, 1) := by decide +kernel
theorem d_Md_many_79 : decode prog_9_method_76_code 79 = .ok (.aload_n 0, 1) := by decide +kernel
theorem d_Md_many_80 : decode prog_9_method_76_code 80 = .ok (.getfield 140, 3) := by decide +kernel
theorem d_Md_many_83 : decode prog_9_method_76_code 83 = .ok (.ireturn, 1) := by decide +kernel
theorem d_Md_many_84 : decode prog_9_method_76_code 84 = .ok (.bipush (-2), 2) := by decide +kernel
theorem d_Md_many_86 : decode prog_9_method_76_code 86 = .ok (.ireturn, 1) := by decide +kernel
abbrev y_Md_many : MethodName := ⟨"LoadCyclesModel", "many", "(I)I"⟩
theorem mi_Md_many : miV y_Md_many prog_9_method_76_code 2 (some .int) 1 := ⟨wd_1137, wd_1138, wd_72, wd_1139, by decide, by decide, by decide +kernel⟩
def w_Md_many (x1 : Int32) (σ : Sg) (K : Int32 → Prop) : Prop :=
  ((x1 = (0 : Int32) → K (σ 43 5)) ∧ (x1 = (1 : Int32) → K (σ 43 9)) ∧ (x1 = (2 : Int32) → (vp_in (0 : Int32) 4 ∧ (vp_in (1 : Int32) 4 ∧ (vp_in (2 : Int32) 4 ∧ (vp_in (3 : Int32) 4 ∧ K ((((σ 48 (0 : Int32).toNatClampNeg) + (σ 48 (1 : Int32).toNatClampNeg)) + (σ 48 (2 : Int32).toNatClampNeg)) + (σ 48 (3 : Int32).toNatClampNeg))))))) ∧ (x1 = (3 : Int32) → K (σ 43 11)) ∧ (x1 = (4 : Int32) → K (σ 43 30)) ∧ (¬ x1 = (0 : Int32) → ¬ x1 = (1 : Int32) → ¬ x1 = (2 : Int32) → ¬ x1 = (3 : Int32) → ¬ x1 = (4 : Int32) → K (-2 : Int32)))
set_option maxHeartbeats 4000000 in
theorem m_Md_many {Y : Yx} {x1 : Int32} {σ : Sg} {K : Int32 → Prop} (hY : YD Y)  (h : w_Md_many x1 σ K) : MetI Y y_Md_many prog_9_method_76_code 2 (.int) 0 0 [.ref (ya Y 43), .int x1] σ (fun r τ => τ = σ ∧ K r) := by
  refine met_I [(0, .ref (ya Y 43)), (1, .int x1)] hY (by decide) (Nat.le_of_ble_eq_true rfl) rfl (fun X C hr => ?_)
  unfold w_Md_many at h
  refine q_iload_n (pc := 0) C d_Md_many_0 rfl 1 rfl ?_
  obtain ⟨h2, h4, h10, h12, h14, h15⟩ := h
  by_cases h1 : x1 = (0 : Int32)
  · refine q_tableK (pc := 1) 36 (k := 0) (off := 35) C h1 (by decide) d_Md_many_1 (by decide) (by decide) (by decide) (by decide) ?_
    have h := h2 h1
    refine q_aload_n (pc := 36) C d_Md_many_36 rfl 0 rfl ?_
    refine q_get (pc := 37) (c := 43) (ci := 7) (k := 5) (v := .int (σ 43 5)) C rfl (by decide) (by decide) wd_738 rfl d_Md_many_37 ?_
    exact q_iret (pc := 40) C hr d_Md_many_40 ⟨rfl, h⟩
  by_cases h3 : x1 = (1 : Int32)
  · refine q_tableK (pc := 1) 41 (k := 1) (off := 40) C h3 (by decide) d_Md_many_1 (by decide) (by decide) (by decide) (by decide) ?_
    have h := h4 h3
    refine q_aload_n (pc := 41) C d_Md_many_41 rfl 0 rfl ?_
    refine q_get (pc := 42) (c := 43) (ci := 7) (k := 9) (v := .int (σ 43 9)) C rfl (by decide) (by decide) wd_742 rfl d_Md_many_42 ?_
    exact q_iret (pc := 45) C hr d_Md_many_45 ⟨rfl, h⟩
  by_cases h9 : x1 = (2 : Int32)
  · refine q_tableK (pc := 1) 46 (k := 2) (off := 45) C h9 (by decide) d_Md_many_1 (by decide) (by decide) (by decide) (by decide) ?_
    have h := h10 h9
    refine q_aload_n (pc := 46) C d_Md_many_46 rfl 0 rfl ?_
    refine q_get (pc := 47) (c := 43) (ci := 7) (k := 7) (v := .ref (ya Y 48)) C rfl (by decide) (by decide) wd_740 rfl d_Md_many_47 ?_
    refine q_iconst (pc := 50) (v := 0) C d_Md_many_50 (by decide) ?_
    obtain ⟨h5, h⟩ := h
    refine q_iald (pc := 51) (c := 48) C ⟨rfl, rfl⟩ h5 d_Md_many_51 ?_
    refine q_aload_n (pc := 52) C d_Md_many_52 rfl 0 rfl ?_
    refine q_get (pc := 53) (c := 43) (ci := 7) (k := 7) (v := .ref (ya Y 48)) C rfl (by decide) (by decide) wd_740 rfl d_Md_many_53 ?_
    refine q_iconst (pc := 56) (v := 1) C d_Md_many_56 (by decide) ?_
    obtain ⟨h6, h⟩ := h
    refine q_iald (pc := 57) (c := 48) C ⟨rfl, rfl⟩ h6 d_Md_many_57 ?_
    refine q_iadd (pc := 58) C d_Md_many_58 ?_
    refine q_aload_n (pc := 59) C d_Md_many_59 rfl 0 rfl ?_
    refine q_get (pc := 60) (c := 43) (ci := 7) (k := 7) (v := .ref (ya Y 48)) C rfl (by decide) (by decide) wd_740 rfl d_Md_many_60 ?_
    refine q_iconst (pc := 63) (v := 2) C d_Md_many_63 (by decide) ?_
    obtain ⟨h7, h⟩ := h
    refine q_iald (pc := 64) (c := 48) C ⟨rfl, rfl⟩ h7 d_Md_many_64 ?_
    refine q_iadd (pc := 65) C d_Md_many_65 ?_
    refine q_aload_n (pc := 66) C d_Md_many_66 rfl 0 rfl ?_
    refine q_get (pc := 67) (c := 43) (ci := 7) (k := 7) (v := .ref (ya Y 48)) C rfl (by decide) (by decide) wd_740 rfl d_Md_many_67 ?_
    refine q_iconst (pc := 70) (v := 3) C d_Md_many_70 (by decide) ?_
    obtain ⟨h8, h⟩ := h
    refine q_iald (pc := 71) (c := 48) C ⟨rfl, rfl⟩ h8 d_Md_many_71 ?_
    refine q_iadd (pc := 72) C d_Md_many_72 ?_
    exact q_iret (pc := 73) C hr d_Md_many_73 ⟨rfl, h⟩
  by_cases h11 : x1 = (3 : Int32)
  · refine q_tableK (pc := 1) 74 (k := 3) (off := 73) C h11 (by decide) d_Md_many_1 (by decide) (by decide) (by decide) (by decide) ?_
    have h := h12 h11
    refine q_aload_n (pc := 74) C d_Md_many_74 rfl 0 rfl ?_
    refine q_get (pc := 75) (c := 43) (ci := 7) (k := 11) (v := .int (σ 43 11)) C rfl (by decide) (by decide) wd_744 rfl d_Md_many_75 ?_
    exact q_iret (pc := 78) C hr d_Md_many_78 ⟨rfl, h⟩
  by_cases h13 : x1 = (4 : Int32)
  · refine q_tableK (pc := 1) 79 (k := 4) (off := 78) C h13 (by decide) d_Md_many_1 (by decide) (by decide) (by decide) (by decide) ?_
    have h := h14 h13
    refine q_aload_n (pc := 79) C d_Md_many_79 rfl 0 rfl ?_
    refine q_get (pc := 80) (c := 43) (ci := 7) (k := 30) (v := .int (σ 43 30)) C rfl (by decide) (by decide) wd_763 rfl d_Md_many_80 ?_
    exact q_iret (pc := 83) C hr d_Md_many_83 ⟨rfl, h⟩
  refine q_tableOut (pc := 1) 84 C d_Md_many_1 (by have g0 := sw_ne (k := 0) rfl h1; have g1 := sw_ne (k := 1) rfl h3; have g2 := sw_ne (k := 2) rfl h9; have g3 := sw_ne (k := 3) rfl h11; have g4 := sw_ne (k := 4) rfl h13; omega) (by decide) ?_
  have h := h15 h1 h3 h9 h11 h13
  refine q_bipush (pc := 84) (v := -2) C d_Md_many_84 (by decide) ?_
  exact q_iret (pc := 86) C hr d_Md_many_86 ⟨rfl, h⟩
