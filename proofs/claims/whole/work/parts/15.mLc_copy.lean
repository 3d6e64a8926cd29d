theorem d_Lc_copy_0 : decode prog_1_method_27_code 0 = .ok (.aload_n 0, 1) := by decide +kernel
theorem d_Lc_copy_1 : decode prog_1_method_27_code 1 = .ok (.iconst 0, 1) := by decide +kernel
theorem d_Lc_copy_2 : decode prog_1_method_27_code 2 = .ok (.putfield 66, 3) := by decide +kernel
theorem d_Lc_copy_5 : decode prog_1_method_27_code 5 = .ok (.iload_n 1, 1) := by decide +kernel
theorem d_Lc_copy_6 : decode prog_1_method_27_code 6 = .ok (.invokestatic 70, 3) := by decide +kernel
theorem d_Lc_copy_9 : decode prog_1_method_27_code 9 = .ok (.ifCond .eq 10, 3) := by decide +kernel
theorem d_Lc_copy_12 : decode prog_1_method_27_code 12 = .ok (.iload_n 3, 1) := by decide +kernel
theorem d_Lc_copy_13 : decode prog_1_method_27_code 13 = .ok (.invokestatic 70, 3) := by decide +kernel
theorem d_Lc_copy_16 : decode prog_1_method_27_code 16 = .ok (.ifCond .ne 5, 3) := by decide +kernel
theorem d_Lc_copy_19 : decode prog_1_method_27_code 19 = .ok (.iconst (-1), 1) := by decide +kernel
theorem d_Lc_copy_20 : decode prog_1_method_27_code 20 = .ok (.ireturn, 1) := by decide +kernel
theorem d_Lc_copy_21 : decode prog_1_method_27_code 21 = .ok (.aload_n 0, 1) := by decide +kernel
theorem d_Lc_copy_22 : decode prog_1_method_27_code 22 = .ok (.getfield 54, 3) := by decide +kernel
theorem d_Lc_copy_25 : decode prog_1_method_27_code 25 = .ok (.iload_n 1, 1) := by decide +kernel
theorem d_Lc_copy_26 : decode prog_1_method_27_code 26 = .ok (.aaload, 1) := by decide +kernel
theorem d_Lc_copy_27 : decode prog_1_method_27_code 27 = .ok (.astore 6, 2) := by decide +kernel
theorem d_Lc_copy_29 : decode prog_1_method_27_code 29 = .ok (.aload_n 0, 1) := by decide +kernel
theorem d_Lc_copy_30 : decode prog_1_method_27_code 30 = .ok (.getfield 54, 3) := by decide +kernel
theorem d_Lc_copy_33 : decode prog_1_method_27_code 33 = .ok (.iload_n 3, 1) := by decide +kernel
theorem d_Lc_copy_34 : decode prog_1_method_27_code 34 = .ok (.aaload, 1) := by decide +kernel
theorem d_Lc_copy_35 : decode prog_1_method_27_code 35 = .ok (.astore 7, 2) := by decide +kernel
theorem d_Lc_copy_37 : decode prog_1_method_27_code 37 = .ok (.aload 6, 2) := by decide +kernel
theorem d_Lc_copy_39 : decode prog_1_method_27_code 39 = .ok (.invokevirtual 230, 3) := by decide +kernel
theorem d_Lc_copy_42 : decode prog_1_method_27_code 42 = .ok (.ifCond .eq 11, 3) := by decide +kernel
theorem d_Lc_copy_45 : decode prog_1_method_27_code 45 = .ok (.aload 7, 2) := by decide +kernel
theorem d_Lc_copy_47 : decode prog_1_method_27_code 47 = .ok (.invokevirtual 230, 3) := by decide +kernel
theorem d_Lc_copy_50 : decode prog_1_method_27_code 50 = .ok (.ifCond .ne 9, 3) := by decide +kernel
theorem d_Lc_copy_53 : decode prog_1_method_27_code 53 = .ok (.aload_n 0, 1) := by decide +kernel
theorem d_Lc_copy_54 : decode prog_1_method_27_code 54 = .ok (.iconst 1, 1) := by decide +kernel
theorem d_Lc_copy_55 : decode prog_1_method_27_code 55 = .ok (.invokevirtual 85, 3) := by decide +kernel
theorem d_Lc_copy_58 : decode prog_1_method_27_code 58 = .ok (.ireturn, 1) := by decide +kernel
theorem d_Lc_copy_59 : decode prog_1_method_27_code 59 = .ok (.aload 6, 2) := by decide +kernel
theorem d_Lc_copy_61 : decode prog_1_method_27_code 61 = .ok (.getfield 239, 3) := by decide +kernel
theorem d_Lc_copy_64 : decode prog_1_method_27_code 64 = .ok (.aload 7, 2) := by decide +kernel
theorem d_Lc_copy_66 : decode prog_1_method_27_code 66 = .ok (.getfield 239, 3) := by decide +kernel
theorem d_Lc_copy_69 : decode prog_1_method_27_code 69 = .ok (.if_icmp .eq 9, 3) := by decide +kernel
theorem d_Lc_copy_72 : decode prog_1_method_27_code 72 = .ok (.aload_n 0, 1) := by decide +kernel
theorem d_Lc_copy_73 : decode prog_1_method_27_code 73 = .ok (.iconst 2, 1) := by decide +kernel
theorem d_Lc_copy_74 : decode prog_1_method_27_code 74 = .ok (.invokevirtual 85, 3) := by decide +kernel
theorem d_Lc_copy_77 : decode prog_1_method_27_code 77 = .ok (.ireturn, 1) := by decide +kernel
theorem d_Lc_copy_78 : decode prog_1_method_27_code 78 = .ok (.aload 6, 2) := by decide +kernel
theorem d_Lc_copy_80 : decode prog_1_method_27_code 80 = .ok (.iload_n 2, 1) := by decide +kernel
theorem d_Lc_copy_81 : decode prog_1_method_27_code 81 = .ok (.iload 5, 2) := by decide +kernel
theorem d_Lc_copy_83 : decode prog_1_method_27_code 83 = .ok (.invokevirtual 81, 3) := by decide +kernel
theorem d_Lc_copy_86 : decode prog_1_method_27_code 86 = .ok (.ifCond .eq 15, 3) := by decide +kernel
theorem d_Lc_copy_89 : decode prog_1_method_27_code 89 = .ok (.aload 7, 2) := by decide +kernel
theorem d_Lc_copy_91 : decode prog_1_method_27_code 91 = .ok (.iload 4, 2) := by decide +kernel
theorem d_Lc_copy_93 : decode prog_1_method_27_code 93 = .ok (.iload 5, 2) := by decide +kernel
theorem d_Lc_copy_95 : decode prog_1_method_27_code 95 = .ok (.invokevirtual 81, 3) := by decide +kernel
theorem d_Lc_copy_98 : decode prog_1_method_27_code 98 = .ok (.ifCond .ne 9, 3) := by decide +kernel
theorem d_Lc_copy_101 : decode prog_1_method_27_code 101 = .ok (.aload_n 0, 1) := by decide +kernel
theorem d_Lc_copy_102 : decode prog_1_method_27_code 102 = .ok (.iconst 3, 1) := by decide +kernel
theorem d_Lc_copy_103 : decode prog_1_method_27_code 103 = .ok (.invokevirtual 85, 3) := by decide +kernel
theorem d_Lc_copy_106 : decode prog_1_method_27_code 106 = .ok (.ireturn, 1) := by decide +kernel
theorem d_Lc_copy_107 : decode prog_1_method_27_code 107 = .ok (.aload 6, 2) := by decide +kernel
theorem d_Lc_copy_109 : decode prog_1_method_27_code 109 = .ok (.getfield 142, 3) := by decide +kernel
theorem d_Lc_copy_112 : decode prog_1_method_27_code 112 = .ok (.iload_n 2, 1) := by decide +kernel
theorem d_Lc_copy_113 : decode prog_1_method_27_code 113 = .ok (.aload 7, 2) := by decide +kernel
theorem d_Lc_copy_115 : decode prog_1_method_27_code 115 = .ok (.getfield 142, 3) := by decide +kernel
theorem d_Lc_copy_118 : decode prog_1_method_27_code 118 = .ok (.iload 4, 2) := by decide +kernel
theorem d_Lc_copy_120 : decode prog_1_method_27_code 120 = .ok (.iload 5, 2) := by decide +kernel
theorem d_Lc_copy_122 : decode prog_1_method_27_code 122 = .ok (.invokestatic 151, 3) := by decide +kernel
theorem d_Lc_copy_125 : decode prog_1_method_27_code 125 = .ok (.iload 5, 2) := by decide +kernel
theorem d_Lc_copy_127 : decode prog_1_method_27_code 127 = .ok (.ireturn, 1) := by decide +kernel
abbrev y_Lc_copy : MethodName := ⟨"LoadCycles", "copy", "(IIIII)I"⟩
theorem mi_Lc_copy : miV y_Lc_copy prog_1_method_27_code 8 (some .int) 5 := ⟨wd_672, wd_673, wd_65, wd_674, by decide, by decide, by decide +kernel⟩
def B_Lc_copy_53 (x1 : Int32) (x2 : Int32) (x3 : Int32) (x4 : Int32) (x5 : Int32) (K : Int32 → Sg → Prop)  (σ : Sg) : Prop :=
  w_Lc_faulted (1 : Int32) σ (fun u55 τ55 => K u55 τ55)
theorem t_Lc_copy_53 {X : Bx} {Y : Yx} {x1 : Int32} {x2 : Int32} {x3 : Int32} {x4 : Int32} {x5 : Int32} {K : Int32 → Sg → Prop}  (hY : YD Y) (C : Cx X Y prog_1_method_27_code 8 "LoadCycles" 1 60) (hr : (xh X).sig.returnType = some .int)   {σ : Sg} (h : B_Lc_copy_53 x1 x2 x3 x4 x5 K σ) : St X Y 8 (QI X Y K) 53 [(0, .ref (ya Y 0))] [] σ := by
  unfold B_Lc_copy_53 at h
  refine q_aload_n (pc := 53) C d_Lc_copy_53 rfl 0 rfl ?_
  refine q_iconst (pc := 54) (v := 1) C d_Lc_copy_54 (by decide) ?_
  refine q_callVI (pc := 55) (st := []) (d := 0) C (m_Lc_faulted hY h) mi_Lc_faulted rfl (by decide) rfl wd_295 rfl rfl (Nat.le_of_ble_eq_true rfl) (by decide) (by decide) d_Lc_copy_55 (fun u55 τ55 h => ?_)
  exact q_iret (pc := 58) C hr d_Lc_copy_58 h
def B_Lc_copy_101 (x1 : Int32) (x2 : Int32) (x3 : Int32) (x4 : Int32) (x5 : Int32) (K : Int32 → Sg → Prop)  (σ : Sg) : Prop :=
  w_Lc_faulted (3 : Int32) σ (fun u103 τ103 => K u103 τ103)
theorem t_Lc_copy_101 {X : Bx} {Y : Yx} {x1 : Int32} {x2 : Int32} {x3 : Int32} {x4 : Int32} {x5 : Int32} {K : Int32 → Sg → Prop}  (hY : YD Y) (C : Cx X Y prog_1_method_27_code 8 "LoadCycles" 1 60) (hr : (xh X).sig.returnType = some .int)   {σ : Sg} (h : B_Lc_copy_101 x1 x2 x3 x4 x5 K σ) : St X Y 8 (QI X Y K) 101 [(0, .ref (ya Y 0))] [] σ := by
  unfold B_Lc_copy_101 at h
  refine q_aload_n (pc := 101) C d_Lc_copy_101 rfl 0 rfl ?_
  refine q_iconst (pc := 102) (v := 3) C d_Lc_copy_102 (by decide) ?_
  refine q_callVI (pc := 103) (st := []) (d := 0) C (m_Lc_faulted hY h) mi_Lc_faulted rfl (by decide) rfl wd_295 rfl rfl (Nat.le_of_ble_eq_true rfl) (by decide) (by decide) d_Lc_copy_103 (fun u103 τ103 h => ?_)
  exact q_iret (pc := 106) C hr d_Lc_copy_106 h
def w_Lc_copy (x1 : Int32) (x2 : Int32) (x3 : Int32) (x4 : Int32) (x5 : Int32) (σ : Sg) (K : Int32 → Sg → Prop) : Prop :=
  (∀ τ2 : Sg, τ2 = s2 σ 0 13 (0 : Int32) → w_Lc_isSheet x1 τ2 (fun u6 => ((u6 = 0 → K (-1 : Int32) τ2) ∧ (¬ u6 = 0 → w_Lc_isSheet x3 τ2 (fun u13 => ((¬ u13 = 0 → (vp_in x1 4 ∧ (vp_in x3 4 ∧ w_Sh_hasRow (33 + 2 * x1.toNatClampNeg) τ2 (fun u39 => ((u39 = 0 → B_Lc_copy_53 x1 x2 x3 x4 x5 K τ2) ∧ (¬ u39 = 0 → w_Sh_hasRow (33 + 2 * x3.toNatClampNeg) τ2 (fun u47 => ((¬ u47 = 0 → (((τ2 (33 + 2 * x1.toNatClampNeg) 1) = (τ2 (33 + 2 * x3.toNatClampNeg) 1) → w_Sh_holds (33 + 2 * x1.toNatClampNeg) x2 x5 τ2 (fun u83 => ((u83 = 0 → B_Lc_copy_101 x1 x2 x3 x4 x5 K τ2) ∧ (¬ u83 = 0 → w_Sh_holds (33 + 2 * x3.toNatClampNeg) x4 x5 τ2 (fun u95 => ((¬ u95 = 0 → (cpk x2 x4 x5 60 60 ∧ (∀ τ122 : Sg, τ122 = s1 τ2 ((33 + 2 * x3.toNatClampNeg) + 1) (va_cpy (τ2 ((33 + 2 * x1.toNatClampNeg) + 1)) (τ2 ((33 + 2 * x3.toNatClampNeg) + 1)) x2.toNatClampNeg x4.toNatClampNeg x5.toNatClampNeg) → K x5 τ122))) ∧ (u95 = 0 → B_Lc_copy_101 x1 x2 x3 x4 x5 K τ2))))))) ∧ (¬ (τ2 (33 + 2 * x1.toNatClampNeg) 1) = (τ2 (33 + 2 * x3.toNatClampNeg) 1) → w_Lc_faulted (2 : Int32) τ2 (fun u74 τ74 => K u74 τ74)))) ∧ (u47 = 0 → B_Lc_copy_53 x1 x2 x3 x4 x5 K τ2))))))))) ∧ (u13 = 0 → K (-1 : Int32) τ2)))))))
set_option maxHeartbeats 4000000 in
theorem m_Lc_copy {Y : Yx} {x1 : Int32} {x2 : Int32} {x3 : Int32} {x4 : Int32} {x5 : Int32} {σ : Sg} {K : Int32 → Sg → Prop} (hY : YD Y)  (h : w_Lc_copy x1 x2 x3 x4 x5 σ K) : MetI Y y_Lc_copy prog_1_method_27_code 8 (.int) 1 60 [.ref (ya Y 0), .int x1, .int x2, .int x3, .int x4, .int x5] σ K := by
  refine met_I [(0, .ref (ya Y 0)), (1, .int x1), (2, .int x2), (3, .int x3), (4, .int x4), (5, .int x5)] hY (by decide) (Nat.le_of_ble_eq_true rfl) rfl (fun X C hr => ?_)
  unfold w_Lc_copy at h
  refine q_aload_n (pc := 0) C d_Lc_copy_0 rfl 0 rfl ?_
  refine q_iconst (pc := 1) (v := 0) C d_Lc_copy_1 (by decide) ?_
  refine q_put (pc := 2) (c := 0) (ci := 6) (k := 13) C rfl (by decide) (by decide) wd_243 rfl rfl rfl fs_6_13 d_Lc_copy_2 ?_
  refine q_nms (fun τ2 eτ2 => ?_)
  replace h := h τ2 eτ2
  refine q_iload_n (pc := 5) C d_Lc_copy_5 rfl 1 rfl ?_
  refine q_callSIr (pc := 6) (st := []) C (m_Lc_isSheet hY h) mi_Lc_isSheet wd_277 rfl rfl (Nat.le_of_ble_eq_true rfl) (by decide) (by decide) d_Lc_copy_6 (fun u6 h => ?_)
  obtain ⟨h16, h17⟩ := h
  refine q_if_eq (pc := 9) 19 C d_Lc_copy_9 (by decide) (fun hc => ?_) (fun hc => ?_)
  · have h := h16 hc
    refine q_iconst (pc := 19) (v := -1) C d_Lc_copy_19 (by decide) ?_
    exact q_iret (pc := 20) C hr d_Lc_copy_20 h
  have h := h17 hc
  refine q_iload_n (pc := 12) C d_Lc_copy_12 rfl 3 rfl ?_
  refine q_callSIr (pc := 13) (st := []) C (m_Lc_isSheet hY h) mi_Lc_isSheet wd_277 rfl rfl (Nat.le_of_ble_eq_true rfl) (by decide) (by decide) d_Lc_copy_13 (fun u13 h => ?_)
  obtain ⟨h14, h15⟩ := h
  refine q_if_ne (pc := 16) 21 C d_Lc_copy_16 (by decide) (fun hc => ?_) (fun hc => ?_)
  · have h := h14 hc
    refine q_aload_n (pc := 21) C d_Lc_copy_21 rfl 0 rfl ?_
    refine q_get (pc := 22) (c := 0) (ci := 6) (k := 7) (v := .ref (ya Y 32)) C rfl (by decide) (by decide) wd_237 rfl d_Lc_copy_22 ?_
    refine q_iload_n (pc := 25) C d_Lc_copy_25 rfl 1 rfl ?_
    obtain ⟨h1, h⟩ := h
    refine q_aald (pc := 26) C h1 d_Lc_copy_26 ?_
    refine q_astore (pc := 27) [(6, .ref (ya Y (33 + 2 * x1.toNatClampNeg))), (0, .ref (ya Y 0)), (1, .int x1), (2, .int x2), (3, .int x3), (4, .int x4), (5, .int x5)] C d_Lc_copy_27 (by decide) rfl ?_
    refine q_aload_n (pc := 29) C d_Lc_copy_29 rfl 1 rfl ?_
    refine q_get (pc := 30) (c := 0) (ci := 6) (k := 7) (v := .ref (ya Y 32)) C rfl (by decide) (by decide) wd_237 rfl d_Lc_copy_30 ?_
    refine q_iload_n (pc := 33) C d_Lc_copy_33 rfl 4 rfl ?_
    obtain ⟨h2, h⟩ := h
    refine q_aald (pc := 34) C h2 d_Lc_copy_34 ?_
    refine q_astore (pc := 35) [(7, .ref (ya Y (33 + 2 * x3.toNatClampNeg))), (6, .ref (ya Y (33 + 2 * x1.toNatClampNeg))), (0, .ref (ya Y 0)), (1, .int x1), (2, .int x2), (3, .int x3), (4, .int x4), (5, .int x5)] C d_Lc_copy_35 (by decide) rfl ?_
    refine q_aload (pc := 37) C d_Lc_copy_37 1 rfl ?_
    refine q_callVIr (pc := 39) (st := []) (d := (33 + 2 * x1.toNatClampNeg)) C (m_Sh_hasRow hY (iaS h1) h) mi_Sh_hasRow (iaS h1) (by decide) rfl wd_654 rfl rfl (Nat.le_of_ble_eq_true rfl) (by decide) (by decide) d_Lc_copy_39 (fun u39 h => ?_)
    obtain ⟨h12, h13⟩ := h
    refine q_if_eq (pc := 42) 53 C d_Lc_copy_42 (by decide) (fun hc => ?_) (fun hc => ?_)
    · have h := h12 hc
      refine q_sub [(0, .ref (ya Y 0))] [2] rfl ?_
      exact t_Lc_copy_53 hY C hr h
    have h := h13 hc
    refine q_aload (pc := 45) C d_Lc_copy_45 0 rfl ?_
    refine q_callVIr (pc := 47) (st := []) (d := (33 + 2 * x3.toNatClampNeg)) C (m_Sh_hasRow hY (iaS h2) h) mi_Sh_hasRow (iaS h2) (by decide) rfl wd_654 rfl rfl (Nat.le_of_ble_eq_true rfl) (by decide) (by decide) d_Lc_copy_47 (fun u47 h => ?_)
    obtain ⟨h10, h11⟩ := h
    refine q_if_ne (pc := 50) 59 C d_Lc_copy_50 (by decide) (fun hc => ?_) (fun hc => ?_)
    · have h := h10 hc
      refine q_aload (pc := 59) C d_Lc_copy_59 1 rfl ?_
      refine q_get (pc := 61) (c := (33 + 2 * x1.toNatClampNeg)) (ci := 3) (k := 1) (v := .int (τ2 (33 + 2 * x1.toNatClampNeg) 1)) C (iaS h1) (by decide) (by decide) wd_221 rfl d_Lc_copy_61 ?_
      refine q_aload (pc := 64) C d_Lc_copy_64 0 rfl ?_
      refine q_get (pc := 66) (c := (33 + 2 * x3.toNatClampNeg)) (ci := 3) (k := 1) (v := .int (τ2 (33 + 2 * x3.toNatClampNeg) 1)) C (iaS h2) (by decide) (by decide) wd_221 rfl d_Lc_copy_66 ?_
      obtain ⟨h8, h9⟩ := h
      refine q_icmp_eq (pc := 69) 78 C d_Lc_copy_69 (by decide) (fun hc => ?_) (fun hc => ?_)
      · have h := h8 hc
        refine q_aload (pc := 78) C d_Lc_copy_78 1 rfl ?_
        refine q_iload_n (pc := 80) C d_Lc_copy_80 rfl 4 rfl ?_
        refine q_iload (pc := 81) C d_Lc_copy_81 7 rfl ?_
        refine q_callVIr (pc := 83) (st := []) (d := (33 + 2 * x1.toNatClampNeg)) C (m_Sh_holds hY (iaS h1) h) mi_Sh_holds (iaS h1) (by decide) rfl wd_291 rfl rfl (Nat.le_of_ble_eq_true rfl) (by decide) (by decide) d_Lc_copy_83 (fun u83 h => ?_)
        obtain ⟨h6, h7⟩ := h
        refine q_if_eq (pc := 86) 101 C d_Lc_copy_86 (by decide) (fun hc => ?_) (fun hc => ?_)
        · have h := h6 hc
          refine q_sub [(0, .ref (ya Y 0))] [2] rfl ?_
          exact t_Lc_copy_101 hY C hr h
        have h := h7 hc
        refine q_aload (pc := 89) C d_Lc_copy_89 0 rfl ?_
        refine q_iload (pc := 91) C d_Lc_copy_91 6 rfl ?_
        refine q_iload (pc := 93) C d_Lc_copy_93 7 rfl ?_
        refine q_callVIr (pc := 95) (st := []) (d := (33 + 2 * x3.toNatClampNeg)) C (m_Sh_holds hY (iaS h2) h) mi_Sh_holds (iaS h2) (by decide) rfl wd_291 rfl rfl (Nat.le_of_ble_eq_true rfl) (by decide) (by decide) d_Lc_copy_95 (fun u95 h => ?_)
        obtain ⟨h4, h5⟩ := h
        refine q_if_ne (pc := 98) 107 C d_Lc_copy_98 (by decide) (fun hc => ?_) (fun hc => ?_)
        · have h := h4 hc
          refine q_aload (pc := 107) C d_Lc_copy_107 1 rfl ?_
          refine q_get (pc := 109) (c := (33 + 2 * x1.toNatClampNeg)) (ci := 3) (k := 0) (v := .ref (ya Y ((33 + 2 * x1.toNatClampNeg) + 1))) C (iaS h1) (by decide) (by decide) wd_219 rfl d_Lc_copy_109 ?_
          refine q_iload_n (pc := 112) C d_Lc_copy_112 rfl 4 rfl ?_
          refine q_aload (pc := 113) C d_Lc_copy_113 0 rfl ?_
          refine q_get (pc := 115) (c := (33 + 2 * x3.toNatClampNeg)) (ci := 3) (k := 0) (v := .ref (ya Y ((33 + 2 * x3.toNatClampNeg) + 1))) C (iaS h2) (by decide) (by decide) wd_219 rfl d_Lc_copy_115 ?_
          refine q_iload (pc := 118) C d_Lc_copy_118 6 rfl ?_
          refine q_iload (pc := 120) C d_Lc_copy_120 7 rfl ?_
          obtain ⟨h3, h⟩ := h
          refine q_copy (pc := 122) (c0 := ((33 + 2 * x1.toNatClampNeg) + 1)) (c1 := ((33 + 2 * x3.toNatClampNeg) + 1)) (st := []) C (k3_1 (iaS h1)) (k3_1 (iaS h2)) h3 wd_397 wd_344 wd_343 wd_73 (by decide) (by decide) d_Lc_copy_122 ?_
          refine q_nms (fun τ122 eτ122 => ?_)
          replace h := h τ122 eτ122
          refine q_iload (pc := 125) C d_Lc_copy_125 7 rfl ?_
          exact q_iret (pc := 127) C hr d_Lc_copy_127 h
        have h := h5 hc
        refine q_sub [(0, .ref (ya Y 0))] [2] rfl ?_
        exact t_Lc_copy_101 hY C hr h
      have h := h9 hc
      refine q_aload_n (pc := 72) C d_Lc_copy_72 rfl 2 rfl ?_
      refine q_iconst (pc := 73) (v := 2) C d_Lc_copy_73 (by decide) ?_
      refine q_callVI (pc := 74) (st := []) (d := 0) C (m_Lc_faulted hY h) mi_Lc_faulted rfl (by decide) rfl wd_295 rfl rfl (Nat.le_of_ble_eq_true rfl) (by decide) (by decide) d_Lc_copy_74 (fun u74 τ74 h => ?_)
      exact q_iret (pc := 77) C hr d_Lc_copy_77 h
    have h := h11 hc
    refine q_sub [(0, .ref (ya Y 0))] [2] rfl ?_
    exact t_Lc_copy_53 hY C hr h
  have h := h15 hc
  refine q_iconst (pc := 19) (v := -1) C d_Lc_copy_19 (by decide) ?_
  exact q_iret (pc := 20) C hr d_Lc_copy_20 h
theorem d_Lc_leaveTrace_0 : decode prog_1_method_52_code 0 = .ok (.aload_n 0, 1) := by decide +kernel
theorem d_Lc_leaveTrace_1 : decode prog_1_method_52_code 1 = .ok (.bipush 31, 2) := by decide +kernel
theorem d_Lc_leaveTrace_3 : decode prog_1_method_52_code 3 = .ok (.aload_n 0, 1) := by decide +kernel
theorem d_Lc_leaveTrace_4 : decode prog_1_method_52_code 4 = .ok (.getfield 257, 3) := by decide +kernel
theorem d_Lc_leaveTrace_7 : decode prog_1_method_52_code 7 = .ok (.imul, 1) := by decide +kernel
theorem d_Lc_leaveTrace_8 : decode prog_1_method_52_code 8 = .ok (.iload_n 1, 1) := by decide +kernel
theorem d_Lc_leaveTrace_9 : decode prog_1_method_52_code 9 = .ok (.iadd, 1) := by decide +kernel
theorem d_Lc_leaveTrace_10 : decode prog_1_method_52_code 10 = .ok (.putfield 257, 3) := by decide +kernel
theorem d_Lc_leaveTrace_13 : decode prog_1_method_52_code 13 = .ok (.return_, 1) := by decide +kernel
abbrev y_Lc_leaveTrace : MethodName := ⟨"LoadCycles", "leaveTrace", "(I)V"⟩
theorem mi_Lc_leaveTrace : miV y_Lc_leaveTrace prog_1_method_52_code 2 none 1 := ⟨wd_685, wd_25, wd_65, wd_686, by decide, by decide, by decide +kernel⟩
def w_Lc_leaveTrace (x1 : Int32) (σ : Sg) (K : Sg → Prop) : Prop :=
  (∀ τ10 : Sg, τ10 = s2 σ 0 12 (((31 : Int32) * (σ 0 12)) + x1) → K τ10)
set_option maxHeartbeats 4000000 in
theorem m_Lc_leaveTrace {Y : Yx} {x1 : Int32} {σ : Sg} {K : Sg → Prop} (hY : YD Y)  (h : w_Lc_leaveTrace x1 σ K) : MetV Y y_Lc_leaveTrace prog_1_method_52_code 2 0 0 [.ref (ya Y 0), .int x1] σ K := by
  refine met_V [(0, .ref (ya Y 0)), (1, .int x1)] hY (by decide) (Nat.le_of_ble_eq_true rfl) rfl (fun X C hr => ?_)
  unfold w_Lc_leaveTrace at h
  refine q_aload_n (pc := 0) C d_Lc_leaveTrace_0 rfl 0 rfl ?_
  refine q_bipush (pc := 1) (v := 31) C d_Lc_leaveTrace_1 (by decide) ?_
  refine q_aload_n (pc := 3) C d_Lc_leaveTrace_3 rfl 0 rfl ?_
  refine q_get (pc := 4) (c := 0) (ci := 6) (k := 12) (v := .int (σ 0 12)) C rfl (by decide) (by decide) wd_242 rfl d_Lc_leaveTrace_4 ?_
  refine q_imul (pc := 7) C d_Lc_leaveTrace_7 ?_
  refine q_iload_n (pc := 8) C d_Lc_leaveTrace_8 rfl 1 rfl ?_
  refine q_iadd (pc := 9) C d_Lc_leaveTrace_9 ?_
  refine q_put (pc := 10) (c := 0) (ci := 6) (k := 12) C rfl (by decide) (by decide) wd_242 rfl rfl rfl fs_6_12 d_Lc_leaveTrace_10 ?_
  refine q_nms (fun τ10 eτ10 => ?_)
  replace h := h τ10 eτ10
  exact q_vret (pc := 13) C hr d_Lc_leaveTrace_13 h
theorem d_Lc_tellPlain_0 : decode prog_1_method_53_code 0 = .ok (.aload_n 0, 1) := by decide +kernel
theorem d_Lc_tellPlain_1 : decode prog_1_method_53_code 1 = .ok (.iconst 1, 1) := by decide +kernel
theorem d_Lc_tellPlain_2 : decode prog_1_method_53_code 2 = .ok (.invokevirtual 301, 3) := by decide +kernel
theorem d_Lc_tellPlain_5 : decode prog_1_method_53_code 5 = .ok (.aload_n 0, 1) := by decide +kernel
theorem d_Lc_tellPlain_6 : decode prog_1_method_53_code 6 = .ok (.getfield 12, 3) := by decide +kernel
theorem d_Lc_tellPlain_9 : decode prog_1_method_53_code 9 = .ok (.getfield 114, 3) := by decide +kernel
theorem d_Lc_tellPlain_12 : decode prog_1_method_53_code 12 = .ok (.iload_n 1, 1) := by decide +kernel
theorem d_Lc_tellPlain_13 : decode prog_1_method_53_code 13 = .ok (.iaload, 1) := by decide +kernel
theorem d_Lc_tellPlain_14 : decode prog_1_method_53_code 14 = .ok (.ireturn, 1) := by decide +kernel
abbrev y_Lc_tellPlain : MethodName := ⟨"LoadCycles", "tellPlain", "(I)I"⟩
theorem mi_Lc_tellPlain : miV y_Lc_tellPlain prog_1_method_53_code 2 (some .int) 1 := ⟨wd_681, wd_24, wd_65, wd_682, by decide, by decide, by decide +kernel⟩
def w_Lc_tellPlain (x1 : Int32) (σ : Sg) (K : Int32 → Sg → Prop) : Prop :=
  w_Lc_leaveTrace (1 : Int32) σ (fun τ2 => (vp_in x1 4 ∧ K (τ2 3 x1.toNatClampNeg) τ2))
set_option maxHeartbeats 4000000 in
theorem m_Lc_tellPlain {Y : Yx} {x1 : Int32} {σ : Sg} {K : Int32 → Sg → Prop} (hY : YD Y)  (h : w_Lc_tellPlain x1 σ K) : MetI Y y_Lc_tellPlain prog_1_method_53_code 2 (.int) 1 21 [.ref (ya Y 0), .int x1] σ K := by
  refine met_I [(0, .ref (ya Y 0)), (1, .int x1)] hY (by decide) (Nat.le_of_ble_eq_true rfl) rfl (fun X C hr => ?_)
  unfold w_Lc_tellPlain at h
  refine q_aload_n (pc := 0) C d_Lc_tellPlain_0 rfl 0 rfl ?_
  refine q_iconst (pc := 1) (v := 1) C d_Lc_tellPlain_1 (by decide) ?_
  refine q_callVV (pc := 2) (st := []) (d := 0) C (m_Lc_leaveTrace hY h) mi_Lc_leaveTrace rfl (by decide) rfl wd_683 rfl rfl (Nat.le_of_ble_eq_true rfl) (by decide) (by decide) d_Lc_tellPlain_2 (fun τ2 h => ?_)
  refine q_aload_n (pc := 5) C d_Lc_tellPlain_5 rfl 0 rfl ?_
  refine q_get (pc := 6) (c := 0) (ci := 6) (k := 0) (v := .ref (ya Y 1)) C rfl (by decide) (by decide) wd_230 rfl d_Lc_tellPlain_6 ?_
  refine q_get (pc := 9) (c := 1) (ci := 2) (k := 1) (v := .ref (ya Y 3)) C rfl (by decide) (by decide) wd_94 rfl d_Lc_tellPlain_9 ?_
  refine q_iload_n (pc := 12) C d_Lc_tellPlain_12 rfl 1 rfl ?_
  obtain ⟨h1, h⟩ := h
  refine q_iald (pc := 13) (c := 3) C ⟨rfl, rfl⟩ h1 d_Lc_tellPlain_13 ?_
  exact q_iret (pc := 14) C hr d_Lc_tellPlain_14 h
theorem d_Lc_tellHeavy_0 : decode prog_1_method_54_code 0 = .ok (.aload_n 0, 1) := by decide +kernel
theorem d_Lc_tellHeavy_1 : decode prog_1_method_54_code 1 = .ok (.iconst 2, 1) := by decide +kernel
theorem d_Lc_tellHeavy_2 : decode prog_1_method_54_code 2 = .ok (.invokevirtual 301, 3) := by decide +kernel
theorem d_Lc_tellHeavy_5 : decode prog_1_method_54_code 5 = .ok (.aload_n 0, 1) := by decide +kernel
theorem d_Lc_tellHeavy_6 : decode prog_1_method_54_code 6 = .ok (.iload_n 1, 1) := by decide +kernel
theorem d_Lc_tellHeavy_7 : decode prog_1_method_54_code 7 = .ok (.invokevirtual 242, 3) := by decide +kernel
theorem d_Lc_tellHeavy_10 : decode prog_1_method_54_code 10 = .ok (.bipush 100, 2) := by decide +kernel
theorem d_Lc_tellHeavy_12 : decode prog_1_method_54_code 12 = .ok (.iadd, 1) := by decide +kernel
theorem d_Lc_tellHeavy_13 : decode prog_1_method_54_code 13 = .ok (.ireturn, 1) := by decide +kernel
abbrev y_Lc_tellHeavy : MethodName := ⟨"LoadCycles", "tellHeavy", "(I)I"⟩
theorem mi_Lc_tellHeavy : miV y_Lc_tellHeavy prog_1_method_54_code 2 (some .int) 1 := ⟨wd_689, wd_26, wd_65, wd_690, by decide, by decide, by decide +kernel⟩
def w_Lc_tellHeavy (x1 : Int32) (σ : Sg) (K : Int32 → Sg → Prop) : Prop :=
  w_Lc_leaveTrace (2 : Int32) σ (fun τ2 => w_Lc_tellPlain x1 τ2 (fun u7 τ7 => K (u7 + (100 : Int32)) τ7))
set_option maxHeartbeats 4000000 in
theorem m_Lc_tellHeavy {Y : Yx} {x1 : Int32} {σ : Sg} {K : Int32 → Sg → Prop} (hY : YD Y)  (h : w_Lc_tellHeavy x1 σ K) : MetI Y y_Lc_tellHeavy prog_1_method_54_code 2 (.int) 2 42 [.ref (ya Y 0), .int x1] σ K := by
  refine met_I [(0, .ref (ya Y 0)), (1, .int x1)] hY (by decide) (Nat.le_of_ble_eq_true rfl) rfl (fun X C hr => ?_)
  unfold w_Lc_tellHeavy at h
  refine q_aload_n (pc := 0) C d_Lc_tellHeavy_0 rfl 0 rfl ?_
  refine q_iconst (pc := 1) (v := 2) C d_Lc_tellHeavy_1 (by decide) ?_
  refine q_callVV (pc := 2) (st := []) (d := 0) C (m_Lc_leaveTrace hY h) mi_Lc_leaveTrace rfl (by decide) rfl wd_683 rfl rfl (Nat.le_of_ble_eq_true rfl) (by decide) (by decide) d_Lc_tellHeavy_2 (fun τ2 h => ?_)
  refine q_aload_n (pc := 5) C d_Lc_tellHeavy_5 rfl 0 rfl ?_
  refine q_iload_n (pc := 6) C d_Lc_tellHeavy_6 rfl 1 rfl ?_
  refine q_callVI (pc := 7) (st := []) (d := 0) C (m_Lc_tellPlain hY h) mi_Lc_tellPlain rfl (by decide) rfl wd_679 rfl rfl (Nat.le_of_ble_eq_true rfl) (by decide) (by decide) d_Lc_tellHeavy_7 (fun u7 τ7 h => ?_)
  refine q_bipush (pc := 10) (v := 100) C d_Lc_tellHeavy_10 (by decide) ?_
  refine q_iadd (pc := 12) C d_Lc_tellHeavy_12 ?_
  exact q_iret (pc := 13) C hr d_Lc_tellHeavy_13 h
theorem d_Lc_tellDouble_0 : decode prog_1_method_55_code 0 = .ok (.aload_n 0, 1) := by decide +kernel
theorem d_Lc_tellDouble_1 : decode prog_1_method_55_code 1 = .ok (.iconst 3, 1) := by decide +kernel
theorem d_Lc_tellDouble_2 : decode prog_1_method_55_code 2 = .ok (.invokevirtual 301, 3) := by decide +kernel
theorem d_Lc_tellDouble_5 : decode prog_1_method_55_code 5 = .ok (.aload_n 0, 1) := by decide +kernel
theorem d_Lc_tellDouble_6 : decode prog_1_method_55_code 6 = .ok (.iload_n 1, 1) := by decide +kernel
theorem d_Lc_tellDouble_7 : decode prog_1_method_55_code 7 = .ok (.invokevirtual 245, 3) := by decide +kernel
theorem d_Lc_tellDouble_10 : decode prog_1_method_55_code 10 = .ok (.istore_n 2, 1) := by decide +kernel
theorem d_Lc_tellDouble_11 : decode prog_1_method_55_code 11 = .ok (.iload_n 2, 1) := by decide +kernel
theorem d_Lc_tellDouble_12 : decode prog_1_method_55_code 12 = .ok (.aload_n 0, 1) := by decide +kernel
theorem d_Lc_tellDouble_13 : decode prog_1_method_55_code 13 = .ok (.iload_n 1, 1) := by decide +kernel
theorem d_Lc_tellDouble_14 : decode prog_1_method_55_code 14 = .ok (.invokevirtual 242, 3) := by decide +kernel
theorem d_Lc_tellDouble_17 : decode prog_1_method_55_code 17 = .ok (.iadd, 1) := by decide +kernel
theorem d_Lc_tellDouble_18 : decode prog_1_method_55_code 18 = .ok (.ireturn, 1) := by decide +kernel
abbrev y_Lc_tellDouble : MethodName := ⟨"LoadCycles", "tellDouble", "(I)I"⟩
theorem mi_Lc_tellDouble : miV y_Lc_tellDouble prog_1_method_55_code 3 (some .int) 1 := ⟨wd_693, wd_27, wd_65, wd_694, by decide, by decide, by decide +kernel⟩
def w_Lc_tellDouble (x1 : Int32) (σ : Sg) (K : Int32 → Sg → Prop) : Prop :=
  w_Lc_leaveTrace (3 : Int32) σ (fun τ2 => w_Lc_tellHeavy x1 τ2 (fun u7 τ7 => w_Lc_tellPlain x1 τ7 (fun u14 τ14 => K (u7 + u14) τ14)))
set_option maxHeartbeats 4000000 in
theorem m_Lc_tellDouble {Y : Yx} {x1 : Int32} {σ : Sg} {K : Int32 → Sg → Prop} (hY : YD Y)  (h : w_Lc_tellDouble x1 σ K) : MetI Y y_Lc_tellDouble prog_1_method_55_code 3 (.int) 3 63 [.ref (ya Y 0), .int x1] σ K := by
  refine met_I [(0, .ref (ya Y 0)), (1, .int x1)] hY (by decide) (Nat.le_of_ble_eq_true rfl) rfl (fun X C hr => ?_)
  unfold w_Lc_tellDouble at h
  refine q_aload_n (pc := 0) C d_Lc_tellDouble_0 rfl 0 rfl ?_
  refine q_iconst (pc := 1) (v := 3) C d_Lc_tellDouble_1 (by decide) ?_
  refine q_callVV (pc := 2) (st := []) (d := 0) C (m_Lc_leaveTrace hY h) mi_Lc_leaveTrace rfl (by decide) rfl wd_683 rfl rfl (Nat.le_of_ble_eq_true rfl) (by decide) (by decide) d_Lc_tellDouble_2 (fun τ2 h => ?_)
  refine q_aload_n (pc := 5) C d_Lc_tellDouble_5 rfl 0 rfl ?_
  refine q_iload_n (pc := 6) C d_Lc_tellDouble_6 rfl 1 rfl ?_
  refine q_callVI (pc := 7) (st := []) (d := 0) C (m_Lc_tellHeavy hY h) mi_Lc_tellHeavy rfl (by decide) rfl wd_687 rfl rfl (Nat.le_of_ble_eq_true rfl) (by decide) (by decide) d_Lc_tellDouble_7 (fun u7 τ7 h => ?_)
  refine q_istore_n (pc := 10) [(2, .int u7), (0, .ref (ya Y 0)), (1, .int x1)] C d_Lc_tellDouble_10 rfl (by decide) rfl ?_
  refine q_iload_n (pc := 11) C d_Lc_tellDouble_11 rfl 0 rfl ?_
  refine q_aload_n (pc := 12) C d_Lc_tellDouble_12 rfl 1 rfl ?_
  refine q_iload_n (pc := 13) C d_Lc_tellDouble_13 rfl 2 rfl ?_
  refine q_callVI (pc := 14) (st := [.int u7]) (d := 0) C (m_Lc_tellPlain hY h) mi_Lc_tellPlain rfl (by decide) rfl wd_679 rfl rfl (Nat.le_of_ble_eq_true rfl) (by decide) (by decide) d_Lc_tellDouble_14 (fun u14 τ14 h => ?_)
  refine q_iadd (pc := 17) C d_Lc_tellDouble_17 ?_
  exact q_iret (pc := 18) C hr d_Lc_tellDouble_18 h
theorem d_Lc_tell_0 : decode prog_1_method_28_code 0 = .ok (.aload_n 0, 1) := by decide +kernel
theorem d_Lc_tell_1 : decode prog_1_method_28_code 1 = .ok (.getfield 12, 3) := by decide +kernel
theorem d_Lc_tell_4 : decode prog_1_method_28_code 4 = .ok (.iload_n 1, 1) := by decide +kernel
theorem d_Lc_tell_5 : decode prog_1_method_28_code 5 = .ok (.invokevirtual 108, 3) := by decide +kernel
theorem d_Lc_tell_8 : decode prog_1_method_28_code 8 = .ok (.ifCond .ne 5, 3) := by decide +kernel
theorem d_Lc_tell_11 : decode prog_1_method_28_code 11 = .ok (.iconst (-1), 1) := by decide +kernel
theorem d_Lc_tell_12 : decode prog_1_method_28_code 12 = .ok (.ireturn, 1) := by decide +kernel
theorem d_Lc_tell_13 : decode prog_1_method_28_code 13 = .ok (.aload_n 0, 1) := by decide +kernel
theorem d_Lc_tell_14 : decode prog_1_method_28_code 14 = .ok (.getfield 12, 3) := by decide +kernel
theorem d_Lc_tell_17 : decode prog_1_method_28_code 17 = .ok (.getfield 111, 3) := by decide +kernel
theorem d_Lc_tell_20 : decode prog_1_method_28_code 20 = .ok (.iload_n 1, 1) := by decide +kernel
theorem d_Lc_tell_21 : decode prog_1_method_28_code 21 = .ok (.iaload, 1) := by decide +kernel
theorem d_Lc_tell_22 : decode prog_1_method_28_code 22 = .ok (.lookupswitch 38 #[(0, 26), (1, 32)], 26) := by decide +kernel
theorem d_Lc_tell_48 : decode prog_1_method_28_code 48 = .ok (.aload_n 0, 1) := by decide +kernel
theorem d_Lc_tell_49 : decode prog_1_method_28_code 49 = .ok (.iload_n 1, 1) := by decide +kernel
theorem d_Lc_tell_50 : decode prog_1_method_28_code 50 = .ok (.invokevirtual 242, 3) := by decide +kernel
theorem d_Lc_tell_53 : decode prog_1_method_28_code 53 = .ok (.ireturn, 1) := by decide +kernel
theorem d_Lc_tell_54 : decode prog_1_method_28_code 54 = .ok (.aload_n 0, 1) := by decide +kernel
theorem d_Lc_tell_55 : decode prog_1_method_28_code 55 = .ok (.iload_n 1, 1) := by decide +kernel
theorem d_Lc_tell_56 : decode prog_1_method_28_code 56 = .ok (.invokevirtual 245, 3) := by decide +kernel
theorem d_Lc_tell_59 : decode prog_1_method_28_code 59 = .ok (.ireturn, 1) := by decide +kernel
theorem d_Lc_tell_60 : decode prog_1_method_28_code 60 = .ok (.aload_n 0, 1) := by decide +kernel
theorem d_Lc_tell_61 : decode prog_1_method_28_code 61 = .ok (.iload_n 1, 1) := by decide +kernel
theorem d_Lc_tell_62 : decode prog_1_method_28_code 62 = .ok (.invokevirtual 248, 3) := by decide +kernel
theorem d_Lc_tell_65 : decode prog_1_method_28_code 65 = .ok (.ireturn, 1) := by decide +kernel
abbrev y_Lc_tell : MethodName := ⟨"LoadCycles", "tell", "(I)I"⟩
theorem mi_Lc_tell : miV y_Lc_tell prog_1_method_28_code 2 (some .int) 1 := ⟨wd_676, wd_677, wd_65, wd_678, by decide, by decide, by decide +kernel⟩
def w_Lc_tell (x1 : Int32) (σ : Sg) (K : Int32 → Sg → Prop) : Prop :=
  w_Ho_hasAppliance 1 x1 σ (fun u5 => ((¬ u5 = 0 → (vp_in x1 4 ∧ (((σ 2 x1.toNatClampNeg) = (0 : Int32) → w_Lc_tellPlain x1 σ (fun u50 τ50 => K u50 τ50)) ∧ ((σ 2 x1.toNatClampNeg) = (1 : Int32) → w_Lc_tellHeavy x1 σ (fun u56 τ56 => K u56 τ56)) ∧ (¬ (σ 2 x1.toNatClampNeg) = (0 : Int32) → ¬ (σ 2 x1.toNatClampNeg) = (1 : Int32) → w_Lc_tellDouble x1 σ (fun u62 τ62 => K u62 τ62))))) ∧ (u5 = 0 → K (-1 : Int32) σ)))
set_option maxHeartbeats 4000000 in
theorem m_Lc_tell {Y : Yx} {x1 : Int32} {σ : Sg} {K : Int32 → Sg → Prop} (hY : YD Y)  (h : w_Lc_tell x1 σ K) : MetI Y y_Lc_tell prog_1_method_28_code 2 (.int) 4 85 [.ref (ya Y 0), .int x1] σ K := by
  refine met_I [(0, .ref (ya Y 0)), (1, .int x1)] hY (by decide) (Nat.le_of_ble_eq_true rfl) rfl (fun X C hr => ?_)
  unfold w_Lc_tell at h
  refine q_aload_n (pc := 0) C d_Lc_tell_0 rfl 0 rfl ?_
  refine q_get (pc := 1) (c := 0) (ci := 6) (k := 0) (v := .ref (ya Y 1)) C rfl (by decide) (by decide) wd_230 rfl d_Lc_tell_1 ?_
  refine q_iload_n (pc := 4) C d_Lc_tell_4 rfl 1 rfl ?_
  refine q_callVIr (pc := 5) (st := []) (d := 1) C (m_Ho_hasAppliance hY rfl h) mi_Ho_hasAppliance rfl (by decide) rfl wd_357 rfl rfl (Nat.le_of_ble_eq_true rfl) (by decide) (by decide) d_Lc_tell_5 (fun u5 h => ?_)
  obtain ⟨h7, h8⟩ := h
  refine q_if_ne (pc := 8) 13 C d_Lc_tell_8 (by decide) (fun hc => ?_) (fun hc => ?_)
  · have h := h7 hc
    refine q_aload_n (pc := 13) C d_Lc_tell_13 rfl 0 rfl ?_
    refine q_get (pc := 14) (c := 0) (ci := 6) (k := 0) (v := .ref (ya Y 1)) C rfl (by decide) (by decide) wd_230 rfl d_Lc_tell_14 ?_
    refine q_get (pc := 17) (c := 1) (ci := 2) (k := 0) (v := .ref (ya Y 2)) C rfl (by decide) (by decide) wd_92 rfl d_Lc_tell_17 ?_
    refine q_iload_n (pc := 20) C d_Lc_tell_20 rfl 1 rfl ?_
    obtain ⟨h1, h⟩ := h
    refine q_iald (pc := 21) (c := 2) C ⟨rfl, rfl⟩ h1 d_Lc_tell_21 ?_
    obtain ⟨h3, h5, h6⟩ := h
    by_cases h2 : (σ 2 x1.toNatClampNeg) = (0 : Int32)
    · refine q_lookupK (pc := 22) 48 (k := 0) (off := 26) C h2 (by decide) d_Lc_tell_22 (by decide) (by decide) (by decide) ?_
      have h := h3 h2
      refine q_aload_n (pc := 48) C d_Lc_tell_48 rfl 0 rfl ?_
      refine q_iload_n (pc := 49) C d_Lc_tell_49 rfl 1 rfl ?_
      refine q_callVI (pc := 50) (st := []) (d := 0) C (m_Lc_tellPlain hY h) mi_Lc_tellPlain rfl (by decide) rfl wd_679 rfl rfl (Nat.le_of_ble_eq_true rfl) (by decide) (by decide) d_Lc_tell_50 (fun u50 τ50 h => ?_)
      exact q_iret (pc := 53) C hr d_Lc_tell_53 h
    by_cases h4 : (σ 2 x1.toNatClampNeg) = (1 : Int32)
    · refine q_lookupK (pc := 22) 54 (k := 1) (off := 32) C h4 (by decide) d_Lc_tell_22 (by decide) (by decide) (by decide) ?_
      have h := h5 h4
      refine q_aload_n (pc := 54) C d_Lc_tell_54 rfl 0 rfl ?_
      refine q_iload_n (pc := 55) C d_Lc_tell_55 rfl 1 rfl ?_
      refine q_callVI (pc := 56) (st := []) (d := 0) C (m_Lc_tellHeavy hY h) mi_Lc_tellHeavy rfl (by decide) rfl wd_687 rfl rfl (Nat.le_of_ble_eq_true rfl) (by decide) (by decide) d_Lc_tell_56 (fun u56 τ56 h => ?_)
      exact q_iret (pc := 59) C hr d_Lc_tell_59 h
    refine q_lookup (pc := 22) 60 (off := 38) C d_Lc_tell_22 (by decide) (by show Op.lookupswitch.offset [(0, 26), (1, 32)] 38 _ = _; rw [Op.lookupswitch.offset_cons, if_neg (Ne.symm (sw_ne (k := 0) rfl h2)), Op.lookupswitch.offset_cons, if_neg (Ne.symm (sw_ne (k := 1) rfl h4))]; rfl) (by decide) ?_
    have h := h6 h2 h4
    refine q_aload_n (pc := 60) C d_Lc_tell_60 rfl 0 rfl ?_
    refine q_iload_n (pc := 61) C d_Lc_tell_61 rfl 1 rfl ?_
    refine q_callVI (pc := 62) (st := []) (d := 0) C (m_Lc_tellDouble hY h) mi_Lc_tellDouble rfl (by decide) rfl wd_691 rfl rfl (Nat.le_of_ble_eq_true rfl) (by decide) (by decide) d_Lc_tell_62 (fun u62 τ62 h => ?_)
    exact q_iret (pc := 65) C hr d_Lc_tell_65 h
  have h := h8 hc
  refine q_iconst (pc := 11) (v := -1) C d_Lc_tell_11 (by decide) ?_
  exact q_iret (pc := 12) C hr d_Lc_tell_12 h
theorem d_Lc_ownMetering_0 : decode prog_1_method_57_code 0 = .ok (.aload_n 0, 1) := by decide +kernel
theorem d_Lc_ownMetering_1 : decode prog_1_method_57_code 1 = .ok (.iconst 5, 1) := by decide +kernel
theorem d_Lc_ownMetering_2 : decode prog_1_method_57_code 2 = .ok (.invokevirtual 301, 3) := by decide +kernel
theorem d_Lc_ownMetering_5 : decode prog_1_method_57_code 5 = .ok (.bipush 90, 2) := by decide +kernel
theorem d_Lc_ownMetering_7 : decode prog_1_method_57_code 7 = .ok (.ireturn, 1) := by decide +kernel
abbrev y_Lc_ownMetering : MethodName := ⟨"LoadCycles", "ownMetering", "()I"⟩
theorem mi_Lc_ownMetering : miV y_Lc_ownMetering prog_1_method_57_code 1 (some .int) 0 := ⟨wd_701, wd_28, wd_65, wd_702, by decide, by decide, by decide +kernel⟩
def w_Lc_ownMetering  (σ : Sg) (K : Int32 → Sg → Prop) : Prop :=
  w_Lc_leaveTrace (5 : Int32) σ (fun τ2 => K (90 : Int32) τ2)
set_option maxHeartbeats 4000000 in
theorem m_Lc_ownMetering {Y : Yx}  {σ : Sg} {K : Int32 → Sg → Prop} (hY : YD Y)  (h : w_Lc_ownMetering σ K) : MetI Y y_Lc_ownMetering prog_1_method_57_code 1 (.int) 1 21 [.ref (ya Y 0)] σ K := by
  refine met_I [(0, .ref (ya Y 0))] hY (by decide) (Nat.le_of_ble_eq_true rfl) rfl (fun X C hr => ?_)
  unfold w_Lc_ownMetering at h
  refine q_aload_n (pc := 0) C d_Lc_ownMetering_0 rfl 0 rfl ?_
  refine q_iconst (pc := 1) (v := 5) C d_Lc_ownMetering_1 (by decide) ?_
  refine q_callVV (pc := 2) (st := []) (d := 0) C (m_Lc_leaveTrace hY h) mi_Lc_leaveTrace rfl (by decide) rfl wd_683 rfl rfl (Nat.le_of_ble_eq_true rfl) (by decide) (by decide) d_Lc_ownMetering_2 (fun τ2 h => ?_)
  refine q_bipush (pc := 5) (v := 90) C d_Lc_ownMetering_5 (by decide) ?_
  exact q_iret (pc := 7) C hr d_Lc_ownMetering_7 h
theorem d_Lc_lentMetering_0 : decode prog_1_method_56_code 0 = .ok (.aload_n 0, 1) := by decide +kernel
theorem d_Lc_lentMetering_1 : decode prog_1_method_56_code 1 = .ok (.iconst 4, 1) := by decide +kernel
theorem d_Lc_lentMetering_2 : decode prog_1_method_56_code 2 = .ok (.invokevirtual 301, 3) := by decide +kernel
theorem d_Lc_lentMetering_5 : decode prog_1_method_56_code 5 = .ok (.iconst 0, 1) := by decide +kernel
theorem d_Lc_lentMetering_6 : decode prog_1_method_56_code 6 = .ok (.istore_n 2, 1) := by decide +kernel
theorem d_Lc_lentMetering_7 : decode prog_1_method_56_code 7 = .ok (.iconst 0, 1) := by decide +kernel
theorem d_Lc_lentMetering_8 : decode prog_1_method_56_code 8 = .ok (.istore_n 3, 1) := by decide +kernel
theorem d_Lc_lentMetering_9 : decode prog_1_method_56_code 9 = .ok (.iload_n 3, 1) := by decide +kernel
theorem d_Lc_lentMetering_10 : decode prog_1_method_56_code 10 = .ok (.aload_n 0, 1) := by decide +kernel
theorem d_Lc_lentMetering_11 : decode prog_1_method_56_code 11 = .ok (.getfield 12, 3) := by decide +kernel
theorem d_Lc_lentMetering_14 : decode prog_1_method_56_code 14 = .ok (.getfield 114, 3) := by decide +kernel
theorem d_Lc_lentMetering_17 : decode prog_1_method_56_code 17 = .ok (.iload_n 1, 1) := by decide +kernel
theorem d_Lc_lentMetering_18 : decode prog_1_method_56_code 18 = .ok (.iaload, 1) := by decide +kernel
theorem d_Lc_lentMetering_19 : decode prog_1_method_56_code 19 = .ok (.if_icmp .ge 21, 3) := by decide +kernel
theorem d_Lc_lentMetering_22 : decode prog_1_method_56_code 22 = .ok (.iload_n 2, 1) := by decide +kernel
theorem d_Lc_lentMetering_23 : decode prog_1_method_56_code 23 = .ok (.aload_n 0, 1) := by decide +kernel
theorem d_Lc_lentMetering_24 : decode prog_1_method_56_code 24 = .ok (.getfield 12, 3) := by decide +kernel
theorem d_Lc_lentMetering_27 : decode prog_1_method_56_code 27 = .ok (.iload_n 1, 1) := by decide +kernel
theorem d_Lc_lentMetering_28 : decode prog_1_method_56_code 28 = .ok (.iload_n 3, 1) := by decide +kernel
theorem d_Lc_lentMetering_29 : decode prog_1_method_56_code 29 = .ok (.invokevirtual 120, 3) := by decide +kernel
theorem d_Lc_lentMetering_32 : decode prog_1_method_56_code 32 = .ok (.iadd, 1) := by decide +kernel
theorem d_Lc_lentMetering_33 : decode prog_1_method_56_code 33 = .ok (.istore_n 2, 1) := by decide +kernel
theorem d_Lc_lentMetering_34 : decode prog_1_method_56_code 34 = .ok (.iinc 3 1, 3) := by decide +kernel
theorem d_Lc_lentMetering_37 : decode prog_1_method_56_code 37 = .ok (.goto (-28), 3) := by decide +kernel
theorem d_Lc_lentMetering_40 : decode prog_1_method_56_code 40 = .ok (.iload_n 2, 1) := by decide +kernel
theorem d_Lc_lentMetering_41 : decode prog_1_method_56_code 41 = .ok (.ireturn, 1) := by decide +kernel
abbrev y_Lc_lentMetering : MethodName := ⟨"LoadCycles", "lentMetering", "(I)I"⟩
theorem mi_Lc_lentMetering : miV y_Lc_lentMetering prog_1_method_56_code 4 (some .int) 1 := ⟨wd_705, wd_29, wd_65, wd_706, by decide, by decide, by decide +kernel⟩
def L_Lc_lentMetering_9 (x1 : Int32) (K : Int32 → Sg → Prop) : Nat → Int32 → Int32 → Sg → Prop
  | 0, _, _, _ => False
  | n + 1, v2, v3, σ =>
    (vp_in x1 4 ∧ (((σ 3 x1.toNatClampNeg) ≤ v3 → K v2 σ) ∧ (¬ (σ 3 x1.toNatClampNeg) ≤ v3 → w_Ho_toldLevel 1 x1 v3 σ (fun u29 => (∀ y2_33 : Int32, y2_33 = (v2 + u29) → L_Lc_lentMetering_9 x1 K n y2_33 (v3 + (1 : Int32)) σ)))))
theorem t_Lc_lentMetering_9 {X : Bx} {Y : Yx} {x1 : Int32} {K : Int32 → Sg → Prop}  (hY : YD Y) (C : Cx X Y prog_1_method_56_code 4 "LoadCycles" 1 22) (hr : (xh X).sig.returnType = some .int)  : ∀ (n : Nat) (v2 : Int32) (v3 : Int32) (σ : Sg), L_Lc_lentMetering_9 x1 K n v2 v3 σ → St X Y 4 (QI X Y K) 9 [(0, .ref (ya Y 0)), (1, .int x1), (2, .int v2), (3, .int v3)] [] σ := by
  intro n
  induction n with
  | zero => intro v2 v3 σ h; exact h.elim
  | succ n ih =>
    intro v2 v3 σ h
    unfold L_Lc_lentMetering_9 at h
    refine q_iload_n (pc := 9) C d_Lc_lentMetering_9 rfl 3 rfl ?_
    refine q_aload_n (pc := 10) C d_Lc_lentMetering_10 rfl 0 rfl ?_
    refine q_get (pc := 11) (c := 0) (ci := 6) (k := 0) (v := .ref (ya Y 1)) C rfl (by decide) (by decide) wd_230 rfl d_Lc_lentMetering_11 ?_
    refine q_get (pc := 14) (c := 1) (ci := 2) (k := 1) (v := .ref (ya Y 3)) C rfl (by decide) (by decide) wd_94 rfl d_Lc_lentMetering_14 ?_
    refine q_iload_n (pc := 17) C d_Lc_lentMetering_17 rfl 1 rfl ?_
    obtain ⟨h1, h⟩ := h
    refine q_iald (pc := 18) (c := 3) C ⟨rfl, rfl⟩ h1 d_Lc_lentMetering_18 ?_
    obtain ⟨h2, h3⟩ := h
    refine q_icmp_ge (pc := 19) 40 C d_Lc_lentMetering_19 (by decide) (fun hc => ?_) (fun hc => ?_)
    · have h := h2 hc
      refine q_iload_n (pc := 40) C d_Lc_lentMetering_40 rfl 2 rfl ?_
      exact q_iret (pc := 41) C hr d_Lc_lentMetering_41 h
    have h := h3 hc
    refine q_iload_n (pc := 22) C d_Lc_lentMetering_22 rfl 2 rfl ?_
    refine q_aload_n (pc := 23) C d_Lc_lentMetering_23 rfl 0 rfl ?_
    refine q_get (pc := 24) (c := 0) (ci := 6) (k := 0) (v := .ref (ya Y 1)) C rfl (by decide) (by decide) wd_230 rfl d_Lc_lentMetering_24 ?_
    refine q_iload_n (pc := 27) C d_Lc_lentMetering_27 rfl 1 rfl ?_
    refine q_iload_n (pc := 28) C d_Lc_lentMetering_28 rfl 3 rfl ?_
    refine q_callVIr (pc := 29) (st := [.int v2]) (d := 1) C (m_Ho_toldLevel hY rfl h) mi_Ho_toldLevel rfl (by decide) rfl wd_365 rfl rfl (Nat.le_of_ble_eq_true rfl) (by decide) (by decide) d_Lc_lentMetering_29 (fun u29 h => ?_)
    refine q_iadd (pc := 32) C d_Lc_lentMetering_32 ?_
    refine q_nmi (fun y2_33 ey2_33 => ?_)
    replace h := h y2_33 ey2_33
    refine q_istore_n (pc := 33) [(2, .int y2_33), (0, .ref (ya Y 0)), (1, .int x1), (3, .int v3)] C d_Lc_lentMetering_33 rfl (by decide) rfl ?_
    refine q_iinc (pc := 34) (v3 + (1 : Int32)) [(3, .int (v3 + (1 : Int32))), (2, .int y2_33), (0, .ref (ya Y 0)), (1, .int x1)] C d_Lc_lentMetering_34 3 rfl rfl (by decide) rfl ?_
    refine q_goto (pc := 37) 9 C d_Lc_lentMetering_37 (by decide) ?_
    refine q_sub [(0, .ref (ya Y 0)), (1, .int x1), (2, .int y2_33), (3, .int (v3 + (1 : Int32)))] [2, 3, 1, 0] rfl ?_
    exact ih y2_33 (v3 + (1 : Int32)) σ h
def w_Lc_lentMetering (x1 : Int32) (σ : Sg) (K : Int32 → Sg → Prop) : Prop :=
  w_Lc_leaveTrace (4 : Int32) σ (fun τ2 => (∃ n4 : Nat, L_Lc_lentMetering_9 x1 K n4 (0 : Int32) (0 : Int32) τ2))
set_option maxHeartbeats 4000000 in
theorem m_Lc_lentMetering {Y : Yx} {x1 : Int32} {σ : Sg} {K : Int32 → Sg → Prop} (hY : YD Y)  (h : w_Lc_lentMetering x1 σ K) : MetI Y y_Lc_lentMetering prog_1_method_56_code 4 (.int) 1 22 [.ref (ya Y 0), .int x1] σ K := by
  refine met_I [(0, .ref (ya Y 0)), (1, .int x1)] hY (by decide) (Nat.le_of_ble_eq_true rfl) rfl (fun X C hr => ?_)
  unfold w_Lc_lentMetering at h
  refine q_aload_n (pc := 0) C d_Lc_lentMetering_0 rfl 0 rfl ?_
  refine q_iconst (pc := 1) (v := 4) C d_Lc_lentMetering_1 (by decide) ?_
  refine q_callVV (pc := 2) (st := []) (d := 0) C (m_Lc_leaveTrace hY h) mi_Lc_leaveTrace rfl (by decide) rfl wd_683 rfl rfl (Nat.le_of_ble_eq_true rfl) (by decide) (by decide) d_Lc_lentMetering_2 (fun τ2 h => ?_)
  refine q_iconst (pc := 5) (v := 0) C d_Lc_lentMetering_5 (by decide) ?_
  refine q_istore_n (pc := 6) [(2, .int (0 : Int32)), (0, .ref (ya Y 0)), (1, .int x1)] C d_Lc_lentMetering_6 rfl (by decide) rfl ?_
  refine q_iconst (pc := 7) (v := 0) C d_Lc_lentMetering_7 (by decide) ?_
  refine q_istore_n (pc := 8) [(3, .int (0 : Int32)), (2, .int (0 : Int32)), (0, .ref (ya Y 0)), (1, .int x1)] C d_Lc_lentMetering_8 rfl (by decide) rfl ?_
  obtain ⟨n4, h⟩ := h
  refine q_sub [(0, .ref (ya Y 0)), (1, .int x1), (2, .int (0 : Int32)), (3, .int (0 : Int32))] [2, 3, 1, 0] rfl ?_
  exact t_Lc_lentMetering_9 hY C hr n4 (0 : Int32) (0 : Int32) τ2 h
theorem d_Lc_metered_0 : decode prog_1_method_29_code 0 = .ok (.aload_n 0, 1) := by decide +kernel
theorem d_Lc_metered_1 : decode prog_1_method_29_code 1 = .ok (.getfield 12, 3) := by decide +kernel
theorem d_Lc_metered_4 : decode prog_1_method_29_code 4 = .ok (.iload_n 1, 1) := by decide +kernel
theorem d_Lc_metered_5 : decode prog_1_method_29_code 5 = .ok (.invokevirtual 108, 3) := by decide +kernel
theorem d_Lc_metered_8 : decode prog_1_method_29_code 8 = .ok (.ifCond .ne 5, 3) := by decide +kernel
theorem d_Lc_metered_11 : decode prog_1_method_29_code 11 = .ok (.iconst (-1), 1) := by decide +kernel
theorem d_Lc_metered_12 : decode prog_1_method_29_code 12 = .ok (.ireturn, 1) := by decide +kernel
theorem d_Lc_metered_13 : decode prog_1_method_29_code 13 = .ok (.aload_n 0, 1) := by decide +kernel
theorem d_Lc_metered_14 : decode prog_1_method_29_code 14 = .ok (.getfield 12, 3) := by decide +kernel
theorem d_Lc_metered_17 : decode prog_1_method_29_code 17 = .ok (.getfield 111, 3) := by decide +kernel
theorem d_Lc_metered_20 : decode prog_1_method_29_code 20 = .ok (.iload_n 1, 1) := by decide +kernel
theorem d_Lc_metered_21 : decode prog_1_method_29_code 21 = .ok (.iaload, 1) := by decide +kernel
theorem d_Lc_metered_22 : decode prog_1_method_29_code 22 = .ok (.iconst 2, 1) := by decide +kernel
theorem d_Lc_metered_23 : decode prog_1_method_29_code 23 = .ok (.if_icmp .ne 10, 3) := by decide +kernel
theorem d_Lc_metered_26 : decode prog_1_method_29_code 26 = .ok (.aload_n 0, 1) := by decide +kernel
theorem d_Lc_metered_27 : decode prog_1_method_29_code 27 = .ok (.invokevirtual 251, 3) := by decide +kernel
theorem d_Lc_metered_30 : decode prog_1_method_29_code 30 = .ok (.goto 8, 3) := by decide +kernel
theorem d_Lc_metered_33 : decode prog_1_method_29_code 33 = .ok (.aload_n 0, 1) := by decide +kernel
theorem d_Lc_metered_34 : decode prog_1_method_29_code 34 = .ok (.iload_n 1, 1) := by decide +kernel
theorem d_Lc_metered_35 : decode prog_1_method_29_code 35 = .ok (.invokevirtual 254, 3) := by decide +kernel
theorem d_Lc_metered_38 : decode prog_1_method_29_code 38 = .ok (.ireturn, 1) := by decide +kernel
abbrev y_Lc_metered : MethodName := ⟨"LoadCycles", "metered", "(I)I"⟩
theorem mi_Lc_metered : miV y_Lc_metered prog_1_method_29_code 2 (some .int) 1 := ⟨wd_696, wd_697, wd_65, wd_698, by decide, by decide, by decide +kernel⟩
def w_Lc_metered (x1 : Int32) (σ : Sg) (K : Int32 → Sg → Prop) : Prop :=
  w_Ho_hasAppliance 1 x1 σ (fun u5 => ((¬ u5 = 0 → (vp_in x1 4 ∧ ((¬ (σ 2 x1.toNatClampNeg) = (2 : Int32) → w_Lc_lentMetering x1 σ (fun u35 τ35 => K u35 τ35)) ∧ ((σ 2 x1.toNatClampNeg) = (2 : Int32) → w_Lc_ownMetering σ (fun u27 τ27 => K u27 τ27))))) ∧ (u5 = 0 → K (-1 : Int32) σ)))
set_option maxHeartbeats 4000000 in
theorem m_Lc_metered {Y : Yx} {x1 : Int32} {σ : Sg} {K : Int32 → Sg → Prop} (hY : YD Y)  (h : w_Lc_metered x1 σ K) : MetI Y y_Lc_metered prog_1_method_29_code 2 (.int) 2 45 [.ref (ya Y 0), .int x1] σ K := by
  refine met_I [(0, .ref (ya Y 0)), (1, .int x1)] hY (by decide) (Nat.le_of_ble_eq_true rfl) rfl (fun X C hr => ?_)
  unfold w_Lc_metered at h
  refine q_aload_n (pc := 0) C d_Lc_metered_0 rfl 0 rfl ?_
  refine q_get (pc := 1) (c := 0) (ci := 6) (k := 0) (v := .ref (ya Y 1)) C rfl (by decide) (by decide) wd_230 rfl d_Lc_metered_1 ?_
  refine q_iload_n (pc := 4) C d_Lc_metered_4 rfl 1 rfl ?_
  refine q_callVIr (pc := 5) (st := []) (d := 1) C (m_Ho_hasAppliance hY rfl h) mi_Ho_hasAppliance rfl (by decide) rfl wd_357 rfl rfl (Nat.le_of_ble_eq_true rfl) (by decide) (by decide) d_Lc_metered_5 (fun u5 h => ?_)
  obtain ⟨h4, h5⟩ := h
  refine q_if_ne (pc := 8) 13 C d_Lc_metered_8 (by decide) (fun hc => ?_) (fun hc => ?_)
  · have h := h4 hc
    refine q_aload_n (pc := 13) C d_Lc_metered_13 rfl 0 rfl ?_
    refine q_get (pc := 14) (c := 0) (ci := 6) (k := 0) (v := .ref (ya Y 1)) C rfl (by decide) (by decide) wd_230 rfl d_Lc_metered_14 ?_
    refine q_get (pc := 17) (c := 1) (ci := 2) (k := 0) (v := .ref (ya Y 2)) C rfl (by decide) (by decide) wd_92 rfl d_Lc_metered_17 ?_
    refine q_iload_n (pc := 20) C d_Lc_metered_20 rfl 1 rfl ?_
    obtain ⟨h1, h⟩ := h
    refine q_iald (pc := 21) (c := 2) C ⟨rfl, rfl⟩ h1 d_Lc_metered_21 ?_
    refine q_iconst (pc := 22) (v := 2) C d_Lc_metered_22 (by decide) ?_
    obtain ⟨h2, h3⟩ := h
    refine q_icmp_ne (pc := 23) 33 C d_Lc_metered_23 (by decide) (fun hc => ?_) (fun hc => ?_)
    · have h := h2 hc
      refine q_aload_n (pc := 33) C d_Lc_metered_33 rfl 0 rfl ?_
      refine q_iload_n (pc := 34) C d_Lc_metered_34 rfl 1 rfl ?_
      refine q_callVI (pc := 35) (st := []) (d := 0) C (m_Lc_lentMetering hY h) mi_Lc_lentMetering rfl (by decide) rfl wd_703 rfl rfl (Nat.le_of_ble_eq_true rfl) (by decide) (by decide) d_Lc_metered_35 (fun u35 τ35 h => ?_)
      exact q_iret (pc := 38) C hr d_Lc_metered_38 h
    have h := h3 hc
    refine q_aload_n (pc := 26) C d_Lc_metered_26 rfl 0 rfl ?_
    refine q_callVI (pc := 27) (st := []) (d := 0) C (m_Lc_ownMetering hY h) mi_Lc_ownMetering rfl (by decide) rfl wd_699 rfl rfl (Nat.le_of_ble_eq_true rfl) (by decide) (by decide) d_Lc_metered_27 (fun u27 τ27 h => ?_)
    refine q_goto (pc := 30) 38 C d_Lc_metered_30 (by decide) ?_
    exact q_iret (pc := 38) C hr d_Lc_metered_38 h
  have h := h5 hc
  refine q_iconst (pc := 11) (v := -1) C d_Lc_metered_11 (by decide) ?_
  exact q_iret (pc := 12) C hr d_Lc_metered_12 h
theorem d_Lc_as_0 : decode prog_1_method_30_code 0 = .ok (.aload_n 0, 1) := by decide +kernel
theorem d_Lc_as_1 : decode prog_1_method_30_code 1 = .ok (.iconst 0, 1) := by decide +kernel
theorem d_Lc_as_2 : decode prog_1_method_30_code 2 = .ok (.putfield 66, 3) := by decide +kernel
theorem d_Lc_as_5 : decode prog_1_method_30_code 5 = .ok (.aload_n 0, 1) := by decide +kernel
theorem d_Lc_as_6 : decode prog_1_method_30_code 6 = .ok (.getfield 12, 3) := by decide +kernel
theorem d_Lc_as_9 : decode prog_1_method_30_code 9 = .ok (.iload_n 1, 1) := by decide +kernel
theorem d_Lc_as_10 : decode prog_1_method_30_code 10 = .ok (.invokevirtual 108, 3) := by decide +kernel
theorem d_Lc_as_13 : decode prog_1_method_30_code 13 = .ok (.ifCond .ne 5, 3) := by decide +kernel
theorem d_Lc_as_16 : decode prog_1_method_30_code 16 = .ok (.iconst (-1), 1) := by decide +kernel
theorem d_Lc_as_17 : decode prog_1_method_30_code 17 = .ok (.ireturn, 1) := by decide +kernel
theorem d_Lc_as_18 : decode prog_1_method_30_code 18 = .ok (.iload_n 2, 1) := by decide +kernel
theorem d_Lc_as_19 : decode prog_1_method_30_code 19 = .ok (.ifCond .lt 8, 3) := by decide +kernel
theorem d_Lc_as_22 : decode prog_1_method_30_code 22 = .ok (.iload_n 2, 1) := by decide +kernel
theorem d_Lc_as_23 : decode prog_1_method_30_code 23 = .ok (.iconst 2, 1) := by decide +kernel
theorem d_Lc_as_24 : decode prog_1_method_30_code 24 = .ok (.if_icmp .le 6, 3) := by decide +kernel
theorem d_Lc_as_27 : decode prog_1_method_30_code 27 = .ok (.bipush (-2), 2) := by decide +kernel
theorem d_Lc_as_29 : decode prog_1_method_30_code 29 = .ok (.ireturn, 1) := by decide +kernel
theorem d_Lc_as_30 : decode prog_1_method_30_code 30 = .ok (.iload_n 2, 1) := by decide +kernel
theorem d_Lc_as_31 : decode prog_1_method_30_code 31 = .ok (.aload_n 0, 1) := by decide +kernel
theorem d_Lc_as_32 : decode prog_1_method_30_code 32 = .ok (.getfield 12, 3) := by decide +kernel
theorem d_Lc_as_35 : decode prog_1_method_30_code 35 = .ok (.getfield 111, 3) := by decide +kernel
theorem d_Lc_as_38 : decode prog_1_method_30_code 38 = .ok (.iload_n 1, 1) := by decide +kernel
theorem d_Lc_as_39 : decode prog_1_method_30_code 39 = .ok (.iaload, 1) := by decide +kernel
theorem d_Lc_as_40 : decode prog_1_method_30_code 40 = .ok (.if_icmp .gt 7, 3) := by decide +kernel
theorem d_Lc_as_43 : decode prog_1_method_30_code 43 = .ok (.iconst 1, 1) := by decide +kernel
theorem d_Lc_as_44 : decode prog_1_method_30_code 44 = .ok (.goto 8, 3) := by decide +kernel
theorem d_Lc_as_47 : decode prog_1_method_30_code 47 = .ok (.aload_n 0, 1) := by decide +kernel
theorem d_Lc_as_48 : decode prog_1_method_30_code 48 = .ok (.iconst 2, 1) := by decide +kernel
theorem d_Lc_as_49 : decode prog_1_method_30_code 49 = .ok (.invokevirtual 85, 3) := by decide +kernel
theorem d_Lc_as_52 : decode prog_1_method_30_code 52 = .ok (.ireturn, 1) := by decide +kernel
abbrev y_Lc_as : MethodName := ⟨"LoadCycles", "as", "(II)I"⟩
theorem mi_Lc_as : miV y_Lc_as prog_1_method_30_code 3 (some .int) 2 := ⟨wd_708, wd_709, wd_65, wd_710, by decide, by decide, by decide +kernel⟩
def w_Lc_as (x1 : Int32) (x2 : Int32) (σ : Sg) (K : Int32 → Sg → Prop) : Prop :=
  (∀ τ2 : Sg, τ2 = s2 σ 0 13 (0 : Int32) → w_Ho_hasAppliance 1 x1 τ2 (fun u10 => ((¬ u10 = 0 → ((x2 < 0 → K (-2 : Int32) τ2) ∧ (¬ x2 < 0 → ((x2 ≤ (2 : Int32) → (vp_in x1 4 ∧ (((τ2 2 x1.toNatClampNeg) < x2 → w_Lc_faulted (2 : Int32) τ2 (fun u49 τ49 => K u49 τ49)) ∧ (¬ (τ2 2 x1.toNatClampNeg) < x2 → K (1 : Int32) τ2)))) ∧ (¬ x2 ≤ (2 : Int32) → K (-2 : Int32) τ2))))) ∧ (u10 = 0 → K (-1 : Int32) τ2))))
set_option maxHeartbeats 4000000 in
theorem m_Lc_as {Y : Yx} {x1 : Int32} {x2 : Int32} {σ : Sg} {K : Int32 → Sg → Prop} (hY : YD Y)  (h : w_Lc_as x1 x2 σ K) : MetI Y y_Lc_as prog_1_method_30_code 3 (.int) 1 21 [.ref (ya Y 0), .int x1, .int x2] σ K := by
  refine met_I [(0, .ref (ya Y 0)), (1, .int x1), (2, .int x2)] hY (by decide) (Nat.le_of_ble_eq_true rfl) rfl (fun X C hr => ?_)
  unfold w_Lc_as at h
  refine q_aload_n (pc := 0) C d_Lc_as_0 rfl 0 rfl ?_
  refine q_iconst (pc := 1) (v := 0) C d_Lc_as_1 (by decide) ?_
  refine q_put (pc := 2) (c := 0) (ci := 6) (k := 13) C rfl (by decide) (by decide) wd_243 rfl rfl rfl fs_6_13 d_Lc_as_2 ?_
  refine q_nms (fun τ2 eτ2 => ?_)
  replace h := h τ2 eτ2
  refine q_aload_n (pc := 5) C d_Lc_as_5 rfl 0 rfl ?_
  refine q_get (pc := 6) (c := 0) (ci := 6) (k := 0) (v := .ref (ya Y 1)) C rfl (by decide) (by decide) wd_230 rfl d_Lc_as_6 ?_
  refine q_iload_n (pc := 9) C d_Lc_as_9 rfl 1 rfl ?_
  refine q_callVIr (pc := 10) (st := []) (d := 1) C (m_Ho_hasAppliance hY rfl h) mi_Ho_hasAppliance rfl (by decide) rfl wd_357 rfl rfl (Nat.le_of_ble_eq_true rfl) (by decide) (by decide) d_Lc_as_10 (fun u10 h => ?_)
  obtain ⟨h8, h9⟩ := h
  refine q_if_ne (pc := 13) 18 C d_Lc_as_13 (by decide) (fun hc => ?_) (fun hc => ?_)
  · have h := h8 hc
    refine q_iload_n (pc := 18) C d_Lc_as_18 rfl 2 rfl ?_
    obtain ⟨h6, h7⟩ := h
    refine q_if_lt (pc := 19) 27 C d_Lc_as_19 (by decide) (fun hc => ?_) (fun hc => ?_)
    · have h := h6 hc
      refine q_bipush (pc := 27) (v := -2) C d_Lc_as_27 (by decide) ?_
      exact q_iret (pc := 29) C hr d_Lc_as_29 h
    have h := h7 hc
    refine q_iload_n (pc := 22) C d_Lc_as_22 rfl 2 rfl ?_
    refine q_iconst (pc := 23) (v := 2) C d_Lc_as_23 (by decide) ?_
    obtain ⟨h4, h5⟩ := h
    refine q_icmp_le (pc := 24) 30 C d_Lc_as_24 (by decide) (fun hc => ?_) (fun hc => ?_)
    · have h := h4 hc
      refine q_iload_n (pc := 30) C d_Lc_as_30 rfl 2 rfl ?_
      refine q_aload_n (pc := 31) C d_Lc_as_31 rfl 0 rfl ?_
      refine q_get (pc := 32) (c := 0) (ci := 6) (k := 0) (v := .ref (ya Y 1)) C rfl (by decide) (by decide) wd_230 rfl d_Lc_as_32 ?_
      refine q_get (pc := 35) (c := 1) (ci := 2) (k := 0) (v := .ref (ya Y 2)) C rfl (by decide) (by decide) wd_92 rfl d_Lc_as_35 ?_
      refine q_iload_n (pc := 38) C d_Lc_as_38 rfl 1 rfl ?_
      obtain ⟨h1, h⟩ := h
      refine q_iald (pc := 39) (c := 2) C ⟨rfl, rfl⟩ h1 d_Lc_as_39 ?_
      obtain ⟨h2, h3⟩ := h
      refine q_icmp_gt (pc := 40) 47 C d_Lc_as_40 (by decide) (fun hc => ?_) (fun hc => ?_)
      · have h := h2 hc
        refine q_aload_n (pc := 47) C d_Lc_as_47 rfl 0 rfl ?_
        refine q_iconst (pc := 48) (v := 2) C d_Lc_as_48 (by decide) ?_
        refine q_callVI (pc := 49) (st := []) (d := 0) C (m_Lc_faulted hY h) mi_Lc_faulted rfl (by decide) rfl wd_295 rfl rfl (Nat.le_of_ble_eq_true rfl) (by decide) (by decide) d_Lc_as_49 (fun u49 τ49 h => ?_)
        exact q_iret (pc := 52) C hr d_Lc_as_52 h
      have h := h3 hc
      refine q_iconst (pc := 43) (v := 1) C d_Lc_as_43 (by decide) ?_
      refine q_goto (pc := 44) 52 C d_Lc_as_44 (by decide) ?_
      exact q_iret (pc := 52) C hr d_Lc_as_52 h
    have h := h5 hc
    refine q_bipush (pc := 27) (v := -2) C d_Lc_as_27 (by decide) ?_
    exact q_iret (pc := 29) C hr d_Lc_as_29 h
  have h := h9 hc
  refine q_iconst (pc := 16) (v := -1) C d_Lc_as_16 (by decide) ?_
  exact q_iret (pc := 17) C hr d_Lc_as_17 h
theorem d_Lc_trace_0 : decode prog_1_method_31_code 0 = .ok (.aload_n 0, 1) := by decide +kernel
theorem d_Lc_trace_1 : decode prog_1_method_31_code 1 = .ok (.getfield 257, 3) := by decide +kernel
theorem d_Lc_trace_4 : decode prog_1_method_31_code 4 = .ok (.ireturn, 1) := by decide +kernel
abbrev y_Lc_trace : MethodName := ⟨"LoadCycles", "trace", "()I"⟩
theorem mi_Lc_trace : miV y_Lc_trace prog_1_method_31_code 1 (some .int) 0 := ⟨wd_712, wd_713, wd_65, wd_714, by decide, by decide, by decide +kernel⟩
def w_Lc_trace  (σ : Sg) (K : Int32 → Prop) : Prop :=
  K (σ 0 12)
set_option maxHeartbeats 4000000 in
theorem m_Lc_trace {Y : Yx}  {σ : Sg} {K : Int32 → Prop} (hY : YD Y)  (h : w_Lc_trace σ K) : MetI Y y_Lc_trace prog_1_method_31_code 1 (.int) 0 0 [.ref (ya Y 0)] σ (fun r τ => τ = σ ∧ K r) := by
  refine met_I [(0, .ref (ya Y 0))] hY (by decide) (Nat.le_of_ble_eq_true rfl) rfl (fun X C hr => ?_)
  unfold w_Lc_trace at h
  refine q_aload_n (pc := 0) C d_Lc_trace_0 rfl 0 rfl ?_
  refine q_get (pc := 1) (c := 0) (ci := 6) (k := 12) (v := .int (σ 0 12)) C rfl (by decide) (by decide) wd_242 rfl d_Lc_trace_1 ?_
  exact q_iret (pc := 4) C hr d_Lc_trace_4 ⟨rfl, h⟩
theorem d_Lc_fault_0 : decode prog_1_method_32_code 0 = .ok (.aload_n 0, 1) := by decide +kernel
theorem d_Lc_fault_1 : decode prog_1_method_32_code 1 = .ok (.getfield 66, 3) := by decide +kernel
theorem d_Lc_fault_4 : decode prog_1_method_32_code 4 = .ok (.ireturn, 1) := by decide +kernel
abbrev y_Lc_fault : MethodName := ⟨"LoadCycles", "fault", "()I"⟩
theorem mi_Lc_fault : miV y_Lc_fault prog_1_method_32_code 1 (some .int) 0 := ⟨wd_716, wd_717, wd_65, wd_718, by decide, by decide, by decide +kernel⟩
def w_Lc_fault  (σ : Sg) (K : Int32 → Prop) : Prop :=
  K (σ 0 13)
set_option maxHeartbeats 4000000 in
theorem m_Lc_fault {Y : Yx}  {σ : Sg} {K : Int32 → Prop} (hY : YD Y)  (h : w_Lc_fault σ K) : MetI Y y_Lc_fault prog_1_method_32_code 1 (.int) 0 0 [.ref (ya Y 0)] σ (fun r τ => τ = σ ∧ K r) := by
  refine met_I [(0, .ref (ya Y 0))] hY (by decide) (Nat.le_of_ble_eq_true rfl) rfl (fun X C hr => ?_)
  unfold w_Lc_fault at h
  refine q_aload_n (pc := 0) C d_Lc_fault_0 rfl 0 rfl ?_
  refine q_get (pc := 1) (c := 0) (ci := 6) (k := 13) (v := .int (σ 0 13)) C rfl (by decide) (by decide) wd_243 rfl d_Lc_fault_1 ?_
  exact q_iret (pc := 4) C hr d_Lc_fault_4 ⟨rfl, h⟩
theorem d_Ho_allLevels_0 : decode prog_4_method_13_code 0 = .ok (.iconst 0, 1) := by decide +kernel
theorem d_Ho_allLevels_1 : decode prog_4_method_13_code 1 = .ok (.istore_n 1, 1) := by decide +kernel
theorem d_Ho_allLevels_2 : decode prog_4_method_13_code 2 = .ok (.iconst 0, 1) := by decide +kernel
theorem d_Ho_allLevels_3 : decode prog_4_method_13_code 3 = .ok (.istore_n 2, 1) := by decide +kernel
theorem d_Ho_allLevels_4 : decode prog_4_method_13_code 4 = .ok (.iload_n 2, 1) := by decide +kernel
theorem d_Ho_allLevels_5 : decode prog_4_method_13_code 5 = .ok (.aload_n 0, 1) := by decide +kernel
theorem d_Ho_allLevels_6 : decode prog_4_method_13_code 6 = .ok (.getfield 30, 3) := by decide +kernel
theorem d_Ho_allLevels_9 : decode prog_4_method_13_code 9 = .ok (.if_icmp .ge 18, 3) := by decide +kernel
theorem d_Ho_allLevels_12 : decode prog_4_method_13_code 12 = .ok (.iload_n 1, 1) := by decide +kernel
theorem d_Ho_allLevels_13 : decode prog_4_method_13_code 13 = .ok (.aload_n 0, 1) := by decide +kernel
theorem d_Ho_allLevels_14 : decode prog_4_method_13_code 14 = .ok (.getfield 15, 3) := by decide +kernel
theorem d_Ho_allLevels_17 : decode prog_4_method_13_code 17 = .ok (.iload_n 2, 1) := by decide +kernel
theorem d_Ho_allLevels_18 : decode prog_4_method_13_code 18 = .ok (.iaload, 1) := by decide +kernel
theorem d_Ho_allLevels_19 : decode prog_4_method_13_code 19 = .ok (.iadd, 1) := by decide +kernel
theorem d_Ho_allLevels_20 : decode prog_4_method_13_code 20 = .ok (.istore_n 1, 1) := by decide +kernel
theorem d_Ho_allLevels_21 : decode prog_4_method_13_code 21 = .ok (.iinc 2 1, 3) := by decide +kernel
theorem d_Ho_allLevels_24 : decode prog_4_method_13_code 24 = .ok (.goto (-20), 3) := by decide +kernel
theorem d_Ho_allLevels_27 : decode prog_4_method_13_code 27 = .ok (.iload_n 1, 1) := by decide +kernel
theorem d_Ho_allLevels_28 : decode prog_4_method_13_code 28 = .ok (.ireturn, 1) := by decide +kernel
abbrev y_Ho_allLevels : MethodName := ⟨"LoadCycles$House", "allLevels", "()I"⟩
theorem mi_Ho_allLevels : miV y_Ho_allLevels prog_4_method_13_code 3 (some .int) 0 := ⟨wd_724, wd_725, wd_66, wd_726, by decide, by decide, by decide +kernel⟩
def L_Ho_allLevels_4 (o : Nat) (σ : Sg) (K : Int32 → Prop) : Nat → Int32 → Int32 → Prop
  | 0, _, _ => False
  | n + 1, v1, v2 =>
    (((σ o 4) ≤ v2 → K v1) ∧ (¬ (σ o 4) ≤ v2 → (vp_in v2 4 ∧ (∀ y1_20 : Int32, y1_20 = (v1 + (σ (o + 2) v2.toNatClampNeg)) → L_Ho_allLevels_4 o σ K n y1_20 (v2 + (1 : Int32))))))
theorem t_Ho_allLevels_4 {X : Bx} {Y : Yx} {o : Nat} {σ : Sg} {K : Int32 → Prop}  (hY : YD Y) (C : Cx X Y prog_4_method_13_code 3 "LoadCycles$House" 0 0) (hr : (xh X).sig.returnType = some .int) (ho : kd o = 2) : ∀ (n : Nat) (v1 : Int32) (v2 : Int32), L_Ho_allLevels_4 o σ K n v1 v2 → St X Y 3 (QI X Y (fun r τ => τ = σ ∧ K r)) 4 [(0, .ref (ya Y o)), (1, .int v1), (2, .int v2)] [] σ := by
  intro n
  induction n with
  | zero => intro v1 v2 h; exact h.elim
  | succ n ih =>
    intro v1 v2 h
    unfold L_Ho_allLevels_4 at h
    refine q_iload_n (pc := 4) C d_Ho_allLevels_4 rfl 2 rfl ?_
    refine q_aload_n (pc := 5) C d_Ho_allLevels_5 rfl 0 rfl ?_
    refine q_get (pc := 6) (c := o) (ci := 2) (k := 4) (v := .int (σ o 4)) C ho (by decide) (by decide) wd_102 rfl d_Ho_allLevels_6 ?_
    obtain ⟨h2, h3⟩ := h
    refine q_icmp_ge (pc := 9) 27 C d_Ho_allLevels_9 (by decide) (fun hc => ?_) (fun hc => ?_)
    · have h := h2 hc
      refine q_iload_n (pc := 27) C d_Ho_allLevels_27 rfl 1 rfl ?_
      exact q_iret (pc := 28) C hr d_Ho_allLevels_28 ⟨rfl, h⟩
    have h := h3 hc
    refine q_iload_n (pc := 12) C d_Ho_allLevels_12 rfl 1 rfl ?_
    refine q_aload_n (pc := 13) C d_Ho_allLevels_13 rfl 0 rfl ?_
    refine q_get (pc := 14) (c := o) (ci := 2) (k := 1) (v := .ref (ya Y (o + 2))) C ho (by decide) (by decide) wd_93 rfl d_Ho_allLevels_14 ?_
    refine q_iload_n (pc := 17) C d_Ho_allLevels_17 rfl 2 rfl ?_
    obtain ⟨h1, h⟩ := h
    refine q_iald (pc := 18) (c := (o + 2)) C (k2_2 ho) h1 d_Ho_allLevels_18 ?_
    refine q_iadd (pc := 19) C d_Ho_allLevels_19 ?_
    refine q_nmi (fun y1_20 ey1_20 => ?_)
    replace h := h y1_20 ey1_20
    refine q_istore_n (pc := 20) [(1, .int y1_20), (0, .ref (ya Y o)), (2, .int v2)] C d_Ho_allLevels_20 rfl (by decide) rfl ?_
    refine q_iinc (pc := 21) (v2 + (1 : Int32)) [(2, .int (v2 + (1 : Int32))), (1, .int y1_20), (0, .ref (ya Y o))] C d_Ho_allLevels_21 2 rfl rfl (by decide) rfl ?_
    refine q_goto (pc := 24) 4 C d_Ho_allLevels_24 (by decide) ?_
    refine q_sub [(0, .ref (ya Y o)), (1, .int y1_20), (2, .int (v2 + (1 : Int32)))] [2, 1, 0] rfl ?_
    exact ih y1_20 (v2 + (1 : Int32)) h
def w_Ho_allLevels (o : Nat) (σ : Sg) (K : Int32 → Prop) : Prop :=
  (∃ n4 : Nat, L_Ho_allLevels_4 o σ K n4 (0 : Int32) (0 : Int32))
set_option maxHeartbeats 4000000 in
theorem m_Ho_allLevels {Y : Yx} {o : Nat} {σ : Sg} {K : Int32 → Prop} (hY : YD Y) (ho : kd o = 2) (h : w_Ho_allLevels o σ K) : MetI Y y_Ho_allLevels prog_4_method_13_code 3 (.int) 0 0 [.ref (ya Y o)] σ (fun r τ => τ = σ ∧ K r) := by
  refine met_I [(0, .ref (ya Y o))] hY (by decide) (Nat.le_of_ble_eq_true rfl) rfl (fun X C hr => ?_)
  unfold w_Ho_allLevels at h
  refine q_iconst (pc := 0) (v := 0) C d_Ho_allLevels_0 (by decide) ?_
  refine q_istore_n (pc := 1) [(1, .int (0 : Int32)), (0, .ref (ya Y o))] C d_Ho_allLevels_1 rfl (by decide) rfl ?_
  refine q_iconst (pc := 2) (v := 0) C d_Ho_allLevels_2 (by decide) ?_
  refine q_istore_n (pc := 3) [(2, .int (0 : Int32)), (1, .int (0 : Int32)), (0, .ref (ya Y o))] C d_Ho_allLevels_3 rfl (by decide) rfl ?_
  obtain ⟨n4, h⟩ := h
  refine q_sub [(0, .ref (ya Y o)), (1, .int (0 : Int32)), (2, .int (0 : Int32))] [2, 1, 0] rfl ?_
  exact t_Ho_allLevels_4 hY C hr ho n4 (0 : Int32) (0 : Int32) h
theorem d_Lc_many_0 : decode prog_1_method_33_code 0 = .ok (.iload_n 1, 1) := by decide +kernel
theorem d_Lc_many_1 : decode prog_1_method_33_code 1 = .ok (.tableswitch 72 0 4 #[35, 43, 51, 59, 67], 35) := by decide +kernel
theorem d_Lc_many_36 : decode prog_1_method_33_code 36 = .ok (.aload_n 0, 1) := by decide +kernel
theorem d_Lc_many_37 : decode prog_1_method_33_code 37 = .ok (.getfield 12, 3) := by decide +kernel
theorem d_Lc_many_40 : decode prog_1_method_33_code 40 = .ok (.getfield 105, 3) := by decide +kernel
theorem d_Lc_many_43 : decode prog_1_method_33_code 43 = .ok (.ireturn, 1) := by decide +kernel
theorem d_Lc_many_44 : decode prog_1_method_33_code 44 = .ok (.aload_n 0, 1) := by decide +kernel
theorem d_Lc_many_45 : decode prog_1_method_33_code 45 = .ok (.getfield 12, 3) := by decide +kernel
theorem d_Lc_many_48 : decode prog_1_method_33_code 48 = .ok (.getfield 157, 3) := by decide +kernel
theorem d_Lc_many_51 : decode prog_1_method_33_code 51 = .ok (.ireturn, 1) := by decide +kernel
theorem d_Lc_many_52 : decode prog_1_method_33_code 52 = .ok (.aload_n 0, 1) := by decide +kernel
theorem d_Lc_many_53 : decode prog_1_method_33_code 53 = .ok (.getfield 12, 3) := by decide +kernel
theorem d_Lc_many_56 : decode prog_1_method_33_code 56 = .ok (.invokevirtual 260, 3) := by decide +kernel
theorem d_Lc_many_59 : decode prog_1_method_33_code 59 = .ok (.ireturn, 1) := by decide +kernel
theorem d_Lc_many_60 : decode prog_1_method_33_code 60 = .ok (.aload_n 0, 1) := by decide +kernel
theorem d_Lc_many_61 : decode prog_1_method_33_code 61 = .ok (.getfield 12, 3) := by decide +kernel
theorem d_Lc_many_64 : decode prog_1_method_33_code 64 = .ok (.getfield 145, 3) := by decide +kernel
theorem d_Lc_many_67 : decode prog_1_method_33_code 67 = .ok (.ireturn, 1) := by decide +kernel
theorem d_Lc_many_68 : decode prog_1_method_33_code 68 = .ok (.aload_n 0, 1) := by decide +kernel
theorem d_Lc_many_69 : decode prog_1_method_33_code 69 = .ok (.getfield 99, 3) := by decide +kernel
theorem d_Lc_many_72 : decode prog_1_method_33_code 72 = .ok (.ireturn, 1) := by decide +kernel
theorem d_Lc_many_73 : decode prog_1_method_33_code 73 = .ok (.bipush (-2), 2) := by decide +kernel
theorem d_Lc_many_75 : decode prog_1_method_33_code 75 = .ok (.ireturn, 1) := by decide +kernel
abbrev y_Lc_many : MethodName := ⟨"LoadCycles", "many", "(I)I"⟩
theorem mi_Lc_many : miV y_Lc_many prog_1_method_33_code 2 (some .int) 1 := ⟨wd_720, wd_721, wd_65, wd_722, by decide, by decide, by decide +kernel⟩
def w_Lc_many (x1 : Int32) (σ : Sg) (K : Int32 → Prop) : Prop :=
  ((x1 = (0 : Int32) → K (σ 1 4)) ∧ (x1 = (1 : Int32) → K (σ 1 5)) ∧ (x1 = (2 : Int32) → w_Ho_allLevels 1 σ (fun u56 => K u56)) ∧ (x1 = (3 : Int32) → K (σ 1 6)) ∧ (x1 = (4 : Int32) → K (σ 0 10)) ∧ (¬ x1 = (0 : Int32) → ¬ x1 = (1 : Int32) → ¬ x1 = (2 : Int32) → ¬ x1 = (3 : Int32) → ¬ x1 = (4 : Int32) → K (-2 : Int32)))
set_option maxHeartbeats 4000000 in
theorem m_Lc_many {Y : Yx} {x1 : Int32} {σ : Sg} {K : Int32 → Prop} (hY : YD Y)  (h : w_Lc_many x1 σ K) : MetI Y y_Lc_many prog_1_method_33_code 2 (.int) 1 22 [.ref (ya Y 0), .int x1] σ (fun r τ => τ = σ ∧ K r) := by
  refine met_I [(0, .ref (ya Y 0)), (1, .int x1)] hY (by decide) (Nat.le_of_ble_eq_true rfl) rfl (fun X C hr => ?_)
  unfold w_Lc_many at h
  refine q_iload_n (pc := 0) C d_Lc_many_0 rfl 1 rfl ?_
  obtain ⟨h2, h4, h6, h8, h10, h11⟩ := h
  by_cases h1 : x1 = (0 : Int32)
  · refine q_tableK (pc := 1) 36 (k := 0) (off := 35) C h1 (by decide) d_Lc_many_1 (by decide) (by decide) (by decide) (by decide) ?_
    have h := h2 h1
    refine q_aload_n (pc := 36) C d_Lc_many_36 rfl 0 rfl ?_
    refine q_get (pc := 37) (c := 0) (ci := 6) (k := 0) (v := .ref (ya Y 1)) C rfl (by decide) (by decide) wd_230 rfl d_Lc_many_37 ?_
    refine q_get (pc := 40) (c := 1) (ci := 2) (k := 4) (v := .int (σ 1 4)) C rfl (by decide) (by decide) wd_103 rfl d_Lc_many_40 ?_
    exact q_iret (pc := 43) C hr d_Lc_many_43 ⟨rfl, h⟩
  by_cases h3 : x1 = (1 : Int32)
  · refine q_tableK (pc := 1) 44 (k := 1) (off := 43) C h3 (by decide) d_Lc_many_1 (by decide) (by decide) (by decide) (by decide) ?_
    have h := h4 h3
    refine q_aload_n (pc := 44) C d_Lc_many_44 rfl 0 rfl ?_
    refine q_get (pc := 45) (c := 0) (ci := 6) (k := 0) (v := .ref (ya Y 1)) C rfl (by decide) (by decide) wd_230 rfl d_Lc_many_45 ?_
    refine q_get (pc := 48) (c := 1) (ci := 2) (k := 5) (v := .int (σ 1 5)) C rfl (by decide) (by decide) wd_107 rfl d_Lc_many_48 ?_
    exact q_iret (pc := 51) C hr d_Lc_many_51 ⟨rfl, h⟩
  by_cases h5 : x1 = (2 : Int32)
  · refine q_tableK (pc := 1) 52 (k := 2) (off := 51) C h5 (by decide) d_Lc_many_1 (by decide) (by decide) (by decide) (by decide) ?_
    have h := h6 h5
    refine q_aload_n (pc := 52) C d_Lc_many_52 rfl 0 rfl ?_
    refine q_get (pc := 53) (c := 0) (ci := 6) (k := 0) (v := .ref (ya Y 1)) C rfl (by decide) (by decide) wd_230 rfl d_Lc_many_53 ?_
    refine q_callVIr (pc := 56) (st := []) (d := 1) C (m_Ho_allLevels hY rfl h) mi_Ho_allLevels rfl (by decide) rfl wd_723 rfl rfl (Nat.le_of_ble_eq_true rfl) (by decide) (by decide) d_Lc_many_56 (fun u56 h => ?_)
    exact q_iret (pc := 59) C hr d_Lc_many_59 ⟨rfl, h⟩
  by_cases h7 : x1 = (3 : Int32)
  · refine q_tableK (pc := 1) 60 (k := 3) (off := 59) C h7 (by decide) d_Lc_many_1 (by decide) (by decide) (by decide) (by decide) ?_
    have h := h8 h7
    refine q_aload_n (pc := 60) C d_Lc_many_60 rfl 0 rfl ?_
    refine q_get (pc := 61) (c := 0) (ci := 6) (k := 0) (v := .ref (ya Y 1)) C rfl (by decide) (by decide) wd_230 rfl d_Lc_many_61 ?_
    refine q_get (pc := 64) (c := 1) (ci := 2) (k := 6) (v := .int (σ 1 6)) C rfl (by decide) (by decide) wd_110 rfl d_Lc_many_64 ?_
    exact q_iret (pc := 67) C hr d_Lc_many_67 ⟨rfl, h⟩
  by_cases h9 : x1 = (4 : Int32)
  · refine q_tableK (pc := 1) 68 (k := 4) (off := 67) C h9 (by decide) d_Lc_many_1 (by decide) (by decide) (by decide) (by decide) ?_
    have h := h10 h9
    refine q_aload_n (pc := 68) C d_Lc_many_68 rfl 0 rfl ?_
    refine q_get (pc := 69) (c := 0) (ci := 6) (k := 10) (v := .int (σ 0 10)) C rfl (by decide) (by decide) wd_240 rfl d_Lc_many_69 ?_
    exact q_iret (pc := 72) C hr d_Lc_many_72 ⟨rfl, h⟩
  refine q_tableOut (pc := 1) 73 C d_Lc_many_1 (by have g0 := sw_ne (k := 0) rfl h1; have g1 := sw_ne (k := 1) rfl h3; have g2 := sw_ne (k := 2) rfl h5; have g3 := sw_ne (k := 3) rfl h7; have g4 := sw_ne (k := 4) rfl h9; omega) (by decide) ?_
  have h := h11 h1 h3 h5 h7 h9
  refine q_bipush (pc := 73) (v := -2) C d_Lc_many_73 (by decide) ?_
  exact q_iret (pc := 75) C hr d_Lc_many_75 ⟨rfl, h⟩
theorem d_Md_within_0 : decode prog_9_method_4_code 0 = .ok (.lload_n 0, 1) := by decide +kernel
theorem d_Md_within_1 : decode prog_9_method_4_code 1 = .ok (.lload_n 2, 1) := by decide +kernel
theorem d_Md_within_2 : decode prog_9_method_4_code 2 = .ok (.lcmp, 1) := by decide +kernel
theorem d_Md_within_3 : decode prog_9_method_4_code 3 = .ok (.ifCond .lt 14, 3) := by decide +kernel
theorem d_Md_within_6 : decode prog_9_method_4_code 6 = .ok (.lload_n 0, 1) := by decide +kernel
theorem d_Md_within_7 : decode prog_9_method_4_code 7 = .ok (.lload 4, 2) := by decide +kernel
theorem d_Md_within_9 : decode prog_9_method_4_code 9 = .ok (.lcmp, 1) := by decide +kernel
theorem d_Md_within_10 : decode prog_9_method_4_code 10 = .ok (.ifCond .gt 7, 3) := by decide +kernel
theorem d_Md_within_13 : decode prog_9_method_4_code 13 = .ok (.iconst 1, 1) := by decide +kernel
theorem d_Md_within_14 : decode prog_9_method_4_code 14 = .ok (.goto 4, 3) := by decide +kernel
theorem d_Md_within_17 : decode prog_9_method_4_code 17 = .ok (.iconst 0, 1) := by decide +kernel
theorem d_Md_within_18 : decode prog_9_method_4_code 18 = .ok (.ireturn, 1) := by decide +kernel
abbrev y_Md_within : MethodName := ⟨"LoadCyclesModel", "within", "(JJJ)Z"⟩
theorem mi_Md_within : miS y_Md_within prog_9_method_4_code 6 (some .boolean) 3 := ⟨wd_842, wd_72, wd_843, by decide, by decide, by decide +kernel⟩
def w_Md_within (x0 : Int64) (x2 : Int64) (x4 : Int64) (σ : Sg) (K : Int32 → Prop) : Prop :=
  (((lg_cmp x0 x2) < 0 → K (0 : Int32)) ∧ (¬ (lg_cmp x0 x2) < 0 → ((0 < (lg_cmp x0 x4) → K (0 : Int32)) ∧ (¬ 0 < (lg_cmp x0 x4) → K (1 : Int32)))))
set_option maxHeartbeats 4000000 in
theorem m_Md_within {Y : Yx} {x0 : Int64} {x2 : Int64} {x4 : Int64} {σ : Sg} {K : Int32 → Prop} (hY : YD Y)  (h : w_Md_within x0 x2 x4 σ K) : MetI Y y_Md_within prog_9_method_4_code 6 (.boolean) 0 0 [.long x0, .long x2, .long x4] σ (fun r τ => τ = σ ∧ K r) := by
  refine met_I [(0, .long x0), (2, .long x2), (4, .long x4)] hY (by decide) (Nat.le_of_ble_eq_true rfl) rfl (fun X C hr => ?_)
  unfold w_Md_within at h
  refine q_lload_n (pc := 0) C d_Md_within_0 rfl 0 rfl ?_
  refine q_lload_n (pc := 1) C d_Md_within_1 rfl 1 rfl ?_
  refine q_lcmp (pc := 2) C d_Md_within_2 ?_
  obtain ⟨h3, h4⟩ := h
  refine q_if_lt (pc := 3) 17 C d_Md_within_3 (by decide) (fun hc => ?_) (fun hc => ?_)
  · have h := h3 hc
    refine q_iconst (pc := 17) (v := 0) C d_Md_within_17 (by decide) ?_
    exact q_zret (pc := 18) C hr d_Md_within_18 bz0 ⟨rfl, h⟩
  have h := h4 hc
  refine q_lload_n (pc := 6) C d_Md_within_6 rfl 0 rfl ?_
  refine q_lload (pc := 7) C d_Md_within_7 2 rfl ?_
  refine q_lcmp (pc := 9) C d_Md_within_9 ?_
  obtain ⟨h1, h2⟩ := h
  refine q_if_gt (pc := 10) 17 C d_Md_within_10 (by decide) (fun hc => ?_) (fun hc => ?_)
  · have h := h1 hc
    refine q_iconst (pc := 17) (v := 0) C d_Md_within_17 (by decide) ?_
    exact q_zret (pc := 18) C hr d_Md_within_18 bz0 ⟨rfl, h⟩
  have h := h2 hc
  refine q_iconst (pc := 13) (v := 1) C d_Md_within_13 (by decide) ?_
  refine q_goto (pc := 14) 18 C d_Md_within_14 (by decide) ?_
  exact q_zret (pc := 18) C hr d_Md_within_18 bz1 ⟨rfl, h⟩
theorem d_Md_isSheet_0 : decode prog_9_method_5_code 0 = .ok (.iload_n 0, 1) := by decide +kernel
theorem d_Md_isSheet_1 : decode prog_9_method_5_code 1 = .ok (.i2l, 1) := by decide +kernel
theorem d_Md_isSheet_2 : decode prog_9_method_5_code 2 = .ok (.lconst 0, 1) := by decide +kernel
theorem d_Md_isSheet_3 : decode prog_9_method_5_code 3 = .ok (.ldc2_w 85, 3) := by decide +kernel
theorem d_Md_isSheet_6 : decode prog_9_method_5_code 6 = .ok (.invokestatic 87, 3) := by decide +kernel
theorem d_Md_isSheet_9 : decode prog_9_method_5_code 9 = .ok (.ireturn, 1) := by decide +kernel
abbrev y_Md_isSheet : MethodName := ⟨"LoadCyclesModel", "isSheet", "(I)Z"⟩
theorem mi_Md_isSheet : miS y_Md_isSheet prog_9_method_5_code 1 (some .boolean) 1 := ⟨wd_838, wd_72, wd_839, by decide, by decide, by decide +kernel⟩
def w_Md_isSheet (x0 : Int32) (σ : Sg) (K : Int32 → Prop) : Prop :=
  w_Md_within (x0.toInt64) (0 : Int64) (3 : Int64) σ (fun u6 => (bz u6 ∧ K u6))
set_option maxHeartbeats 4000000 in
theorem m_Md_isSheet {Y : Yx} {x0 : Int32} {σ : Sg} {K : Int32 → Prop} (hY : YD Y)  (h : w_Md_isSheet x0 σ K) : MetI Y y_Md_isSheet prog_9_method_5_code 1 (.boolean) 1 25 [.int x0] σ (fun r τ => τ = σ ∧ K r) := by
  refine met_I [(0, .int x0)] hY (by decide) (Nat.le_of_ble_eq_true rfl) rfl (fun X C hr => ?_)
  unfold w_Md_isSheet at h
  refine q_iload_n (pc := 0) C d_Md_isSheet_0 rfl 0 rfl ?_
  refine q_i2l (pc := 1) C d_Md_isSheet_1 ?_
  refine q_lconst (pc := 2) (v := 0) C d_Md_isSheet_2 (by decide) ?_
  refine q_ldc2 (pc := 3) C wd_840 d_Md_isSheet_3 ?_
  refine q_callSIr (pc := 6) (st := []) C (m_Md_within hY h) mi_Md_within wd_841 rfl rfl (Nat.le_of_ble_eq_true rfl) (by decide) (by decide) d_Md_isSheet_6 (fun u6 h => ?_)
  obtain ⟨h1, h⟩ := h
  exact q_zret (pc := 9) C hr d_Md_isSheet_9 h1 ⟨rfl, h⟩
theorem d_Md_isSort_0 : decode prog_9_method_6_code 0 = .ok (.iload_n 0, 1) := by decide +kernel
theorem d_Md_isSort_1 : decode prog_9_method_6_code 1 = .ok (.i2l, 1) := by decide +kernel
theorem d_Md_isSort_2 : decode prog_9_method_6_code 2 = .ok (.lconst 0, 1) := by decide +kernel
theorem d_Md_isSort_3 : decode prog_9_method_6_code 3 = .ok (.ldc2_w 91, 3) := by decide +kernel
theorem d_Md_isSort_6 : decode prog_9_method_6_code 6 = .ok (.invokestatic 87, 3) := by decide +kernel
theorem d_Md_isSort_9 : decode prog_9_method_6_code 9 = .ok (.ireturn, 1) := by decide +kernel
abbrev y_Md_isSort : MethodName := ⟨"LoadCyclesModel", "isSort", "(I)Z"⟩
theorem mi_Md_isSort : miS y_Md_isSort prog_9_method_6_code 1 (some .boolean) 1 := ⟨wd_845, wd_72, wd_846, by decide, by decide, by decide +kernel⟩
def w_Md_isSort (x0 : Int32) (σ : Sg) (K : Int32 → Prop) : Prop :=
  w_Md_within (x0.toInt64) (0 : Int64) (2 : Int64) σ (fun u6 => (bz u6 ∧ K u6))
set_option maxHeartbeats 4000000 in
theorem m_Md_isSort {Y : Yx} {x0 : Int32} {σ : Sg} {K : Int32 → Prop} (hY : YD Y)  (h : w_Md_isSort x0 σ K) : MetI Y y_Md_isSort prog_9_method_6_code 1 (.boolean) 1 25 [.int x0] σ (fun r τ => τ = σ ∧ K r) := by
  refine met_I [(0, .int x0)] hY (by decide) (Nat.le_of_ble_eq_true rfl) rfl (fun X C hr => ?_)
  unfold w_Md_isSort at h
  refine q_iload_n (pc := 0) C d_Md_isSort_0 rfl 0 rfl ?_
  refine q_i2l (pc := 1) C d_Md_isSort_1 ?_
  refine q_lconst (pc := 2) (v := 0) C d_Md_isSort_2 (by decide) ?_
  refine q_ldc2 (pc := 3) C wd_847 d_Md_isSort_3 ?_
  refine q_callSIr (pc := 6) (st := []) C (m_Md_within hY h) mi_Md_within wd_841 rfl rfl (Nat.le_of_ble_eq_true rfl) (by decide) (by decide) d_Md_isSort_6 (fun u6 h => ?_)
  obtain ⟨h1, h⟩ := h
  exact q_zret (pc := 9) C hr d_Md_isSort_9 h1 ⟨rfl, h⟩
theorem d_Md_against_0 : decode prog_9_method_7_code 0 = .ok (.aload_n 0, 1) := by decide +kernel
theorem d_Md_against_1 : decode prog_9_method_7_code 1 = .ok (.getfield 9, 3) := by decide +kernel
theorem d_Md_against_4 : decode prog_9_method_7_code 4 = .ok (.iload_n 1, 1) := by decide +kernel
theorem d_Md_against_5 : decode prog_9_method_7_code 5 = .ok (.iaload, 1) := by decide +kernel
theorem d_Md_against_6 : decode prog_9_method_7_code 6 = .ok (.bipush (-9), 2) := by decide +kernel
theorem d_Md_against_8 : decode prog_9_method_7_code 8 = .ok (.if_icmp .eq 15, 3) := by decide +kernel
theorem d_Md_against_11 : decode prog_9_method_7_code 11 = .ok (.aload_n 0, 1) := by decide +kernel
theorem d_Md_against_12 : decode prog_9_method_7_code 12 = .ok (.getfield 9, 3) := by decide +kernel
theorem d_Md_against_15 : decode prog_9_method_7_code 15 = .ok (.iload_n 1, 1) := by decide +kernel
theorem d_Md_against_16 : decode prog_9_method_7_code 16 = .ok (.iaload, 1) := by decide +kernel
theorem d_Md_against_17 : decode prog_9_method_7_code 17 = .ok (.iload_n 2, 1) := by decide +kernel
theorem d_Md_against_18 : decode prog_9_method_7_code 18 = .ok (.if_icmp .eq 5, 3) := by decide +kernel
theorem d_Md_against_21 : decode prog_9_method_7_code 21 = .ok (.iconst 2, 1) := by decide +kernel
theorem d_Md_against_22 : decode prog_9_method_7_code 22 = .ok (.ireturn, 1) := by decide +kernel
theorem d_Md_against_23 : decode prog_9_method_7_code 23 = .ok (.aload_n 0, 1) := by decide +kernel
theorem d_Md_against_24 : decode prog_9_method_7_code 24 = .ok (.getfield 9, 3) := by decide +kernel
theorem d_Md_against_27 : decode prog_9_method_7_code 27 = .ok (.iload_n 1, 1) := by decide +kernel
theorem d_Md_against_28 : decode prog_9_method_7_code 28 = .ok (.iaload, 1) := by decide +kernel
theorem d_Md_against_29 : decode prog_9_method_7_code 29 = .ok (.bipush (-9), 2) := by decide +kernel
theorem d_Md_against_31 : decode prog_9_method_7_code 31 = .ok (.if_icmp .ne 5, 3) := by decide +kernel
theorem d_Md_against_34 : decode prog_9_method_7_code 34 = .ok (.iconst 1, 1) := by decide +kernel
theorem d_Md_against_35 : decode prog_9_method_7_code 35 = .ok (.ireturn, 1) := by decide +kernel
theorem d_Md_against_36 : decode prog_9_method_7_code 36 = .ok (.iload 4, 2) := by decide +kernel
theorem d_Md_against_38 : decode prog_9_method_7_code 38 = .ok (.ifCond .ge 5, 3) := by decide +kernel
theorem d_Md_against_41 : decode prog_9_method_7_code 41 = .ok (.iconst 4, 1) := by decide +kernel
theorem d_Md_against_42 : decode prog_9_method_7_code 42 = .ok (.ireturn, 1) := by decide +kernel
theorem d_Md_against_43 : decode prog_9_method_7_code 43 = .ok (.iload_n 3, 1) := by decide +kernel
theorem d_Md_against_44 : decode prog_9_method_7_code 44 = .ok (.ifCond .lt 26, 3) := by decide +kernel
theorem d_Md_against_47 : decode prog_9_method_7_code 47 = .ok (.iload_n 3, 1) := by decide +kernel
theorem d_Md_against_48 : decode prog_9_method_7_code 48 = .ok (.aload_n 0, 1) := by decide +kernel
theorem d_Md_against_49 : decode prog_9_method_7_code 49 = .ok (.getfield 13, 3) := by decide +kernel
theorem d_Md_against_52 : decode prog_9_method_7_code 52 = .ok (.iload_n 1, 1) := by decide +kernel
theorem d_Md_against_53 : decode prog_9_method_7_code 53 = .ok (.iaload, 1) := by decide +kernel
theorem d_Md_against_54 : decode prog_9_method_7_code 54 = .ok (.if_icmp .gt 16, 3) := by decide +kernel
theorem d_Md_against_57 : decode prog_9_method_7_code 57 = .ok (.iload 4, 2) := by decide +kernel
theorem d_Md_against_59 : decode prog_9_method_7_code 59 = .ok (.aload_n 0, 1) := by decide +kernel
theorem d_Md_against_60 : decode prog_9_method_7_code 60 = .ok (.getfield 13, 3) := by decide +kernel
theorem d_Md_against_63 : decode prog_9_method_7_code 63 = .ok (.iload_n 1, 1) := by decide +kernel
theorem d_Md_against_64 : decode prog_9_method_7_code 64 = .ok (.iaload, 1) := by decide +kernel
theorem d_Md_against_65 : decode prog_9_method_7_code 65 = .ok (.iload_n 3, 1) := by decide +kernel
theorem d_Md_against_66 : decode prog_9_method_7_code 66 = .ok (.isub, 1) := by decide +kernel
theorem d_Md_against_67 : decode prog_9_method_7_code 67 = .ok (.if_icmp .le 7, 3) := by decide +kernel
theorem d_Md_against_70 : decode prog_9_method_7_code 70 = .ok (.iconst 3, 1) := by decide +kernel
theorem d_Md_against_71 : decode prog_9_method_7_code 71 = .ok (.goto 4, 3) := by decide +kernel
theorem d_Md_against_74 : decode prog_9_method_7_code 74 = .ok (.iconst 0, 1) := by decide +kernel
theorem d_Md_against_75 : decode prog_9_method_7_code 75 = .ok (.ireturn, 1) := by decide +kernel
abbrev y_Md_against : MethodName := ⟨"LoadCyclesModel", "against", "(IIII)I"⟩
theorem mi_Md_against : miV y_Md_against prog_9_method_7_code 5 (some .int) 4 := ⟨wd_850, wd_30, wd_72, wd_851, by decide, by decide, by decide +kernel⟩
def B_Md_against_23 (x1 : Int32) (x2 : Int32) (x3 : Int32) (x4 : Int32) (σ : Sg) (K : Int32 → Prop)  : Prop :=
  (vp_in x1 4 ∧ ((¬ (σ 44 x1.toNatClampNeg) = (-9 : Int32) → ((0 ≤ x4 → ((x3 < 0 → K (3 : Int32)) ∧ (¬ x3 < 0 → (vp_in x1 4 ∧ (((σ 45 x1.toNatClampNeg) < x3 → K (3 : Int32)) ∧ (¬ (σ 45 x1.toNatClampNeg) < x3 → (vp_in x1 4 ∧ ((x4 ≤ ((σ 45 x1.toNatClampNeg) - x3) → K (0 : Int32)) ∧ (¬ x4 ≤ ((σ 45 x1.toNatClampNeg) - x3) → K (3 : Int32)))))))))) ∧ (¬ 0 ≤ x4 → K (4 : Int32)))) ∧ ((σ 44 x1.toNatClampNeg) = (-9 : Int32) → K (1 : Int32))))
theorem t_Md_against_23 {X : Bx} {Y : Yx} {x1 : Int32} {x2 : Int32} {x3 : Int32} {x4 : Int32} {σ : Sg} {K : Int32 → Prop}  (hY : YD Y) (C : Cx X Y prog_9_method_7_code 5 "LoadCyclesModel" 0 0) (hr : (xh X).sig.returnType = some .int)   (h : B_Md_against_23 x1 x2 x3 x4 σ K) : St X Y 5 (QI X Y (fun r τ => τ = σ ∧ K r)) 23 [(0, .ref (ya Y 43)), (1, .int x1), (3, .int x3), (4, .int x4)] [] σ := by
  unfold B_Md_against_23 at h
  refine q_aload_n (pc := 23) C d_Md_against_23 rfl 0 rfl ?_
  refine q_get (pc := 24) (c := 43) (ci := 7) (k := 2) (v := .ref (ya Y 44)) C rfl (by decide) (by decide) wd_735 rfl d_Md_against_24 ?_
  refine q_iload_n (pc := 27) C d_Md_against_27 rfl 1 rfl ?_
  obtain ⟨h2, h⟩ := h
  refine q_iald (pc := 28) (c := 44) C ⟨rfl, rfl⟩ h2 d_Md_against_28 ?_
  refine q_bipush (pc := 29) (v := -9) C d_Md_against_29 (by decide) ?_
  obtain ⟨h13, h14⟩ := h
  refine q_icmp_ne (pc := 31) 36 C d_Md_against_31 (by decide) (fun hc => ?_) (fun hc => ?_)
  · have h := h13 hc
    refine q_iload (pc := 36) C d_Md_against_36 3 rfl ?_
    obtain ⟨h11, h12⟩ := h
    refine q_if_ge (pc := 38) 43 C d_Md_against_38 (by decide) (fun hc => ?_) (fun hc => ?_)
    · have h := h11 hc
      refine q_iload_n (pc := 43) C d_Md_against_43 rfl 2 rfl ?_
      obtain ⟨h9, h10⟩ := h
      refine q_if_lt (pc := 44) 70 C d_Md_against_44 (by decide) (fun hc => ?_) (fun hc => ?_)
      · have h := h9 hc
        refine q_iconst (pc := 70) (v := 3) C d_Md_against_70 (by decide) ?_
        refine q_goto (pc := 71) 75 C d_Md_against_71 (by decide) ?_
        exact q_iret (pc := 75) C hr d_Md_against_75 ⟨rfl, h⟩
      have h := h10 hc
      refine q_iload_n (pc := 47) C d_Md_against_47 rfl 2 rfl ?_
      refine q_aload_n (pc := 48) C d_Md_against_48 rfl 0 rfl ?_
      refine q_get (pc := 49) (c := 43) (ci := 7) (k := 3) (v := .ref (ya Y 45)) C rfl (by decide) (by decide) wd_736 rfl d_Md_against_49 ?_
      refine q_iload_n (pc := 52) C d_Md_against_52 rfl 1 rfl ?_
      obtain ⟨h3, h⟩ := h
      refine q_iald (pc := 53) (c := 45) C ⟨rfl, rfl⟩ h3 d_Md_against_53 ?_
      obtain ⟨h7, h8⟩ := h
      refine q_icmp_gt (pc := 54) 70 C d_Md_against_54 (by decide) (fun hc => ?_) (fun hc => ?_)
      · have h := h7 hc
        refine q_iconst (pc := 70) (v := 3) C d_Md_against_70 (by decide) ?_
        refine q_goto (pc := 71) 75 C d_Md_against_71 (by decide) ?_
        exact q_iret (pc := 75) C hr d_Md_against_75 ⟨rfl, h⟩
      have h := h8 hc
      refine q_iload (pc := 57) C d_Md_against_57 3 rfl ?_
      refine q_aload_n (pc := 59) C d_Md_against_59 rfl 0 rfl ?_
      refine q_get (pc := 60) (c := 43) (ci := 7) (k := 3) (v := .ref (ya Y 45)) C rfl (by decide) (by decide) wd_736 rfl d_Md_against_60 ?_
      refine q_iload_n (pc := 63) C d_Md_against_63 rfl 1 rfl ?_
      obtain ⟨h4, h⟩ := h
      refine q_iald (pc := 64) (c := 45) C ⟨rfl, rfl⟩ h4 d_Md_against_64 ?_
      refine q_iload_n (pc := 65) C d_Md_against_65 rfl 2 rfl ?_
      refine q_isub (pc := 66) C d_Md_against_66 ?_
      obtain ⟨h5, h6⟩ := h
      refine q_icmp_le (pc := 67) 74 C d_Md_against_67 (by decide) (fun hc => ?_) (fun hc => ?_)
      · have h := h5 hc
        refine q_iconst (pc := 74) (v := 0) C d_Md_against_74 (by decide) ?_
        exact q_iret (pc := 75) C hr d_Md_against_75 ⟨rfl, h⟩
      have h := h6 hc
      refine q_iconst (pc := 70) (v := 3) C d_Md_against_70 (by decide) ?_
      refine q_goto (pc := 71) 75 C d_Md_against_71 (by decide) ?_
      exact q_iret (pc := 75) C hr d_Md_against_75 ⟨rfl, h⟩
    have h := h12 hc
    refine q_iconst (pc := 41) (v := 4) C d_Md_against_41 (by decide) ?_
    exact q_iret (pc := 42) C hr d_Md_against_42 ⟨rfl, h⟩
  have h := h14 hc
  refine q_iconst (pc := 34) (v := 1) C d_Md_against_34 (by decide) ?_
  exact q_iret (pc := 35) C hr d_Md_against_35 ⟨rfl, h⟩
def w_Md_against (x1 : Int32) (x2 : Int32) (x3 : Int32) (x4 : Int32) (σ : Sg) (K : Int32 → Prop) : Prop :=
  (vp_in x1 4 ∧ (((σ 44 x1.toNatClampNeg) = (-9 : Int32) → B_Md_against_23 x1 x2 x3 x4 σ K) ∧ (¬ (σ 44 x1.toNatClampNeg) = (-9 : Int32) → (vp_in x1 4 ∧ (((σ 44 x1.toNatClampNeg) = x2 → B_Md_against_23 x1 x2 x3 x4 σ K) ∧ (¬ (σ 44 x1.toNatClampNeg) = x2 → K (2 : Int32)))))))
set_option maxHeartbeats 4000000 in
theorem m_Md_against {Y : Yx} {x1 : Int32} {x2 : Int32} {x3 : Int32} {x4 : Int32} {σ : Sg} {K : Int32 → Prop} (hY : YD Y)  (h : w_Md_against x1 x2 x3 x4 σ K) : MetI Y y_Md_against prog_9_method_7_code 5 (.int) 0 0 [.ref (ya Y 43), .int x1, .int x2, .int x3, .int x4] σ (fun r τ => τ = σ ∧ K r) := by
  refine met_I [(0, .ref (ya Y 43)), (1, .int x1), (2, .int x2), (3, .int x3), (4, .int x4)] hY (by decide) (Nat.le_of_ble_eq_true rfl) rfl (fun X C hr => ?_)
  unfold w_Md_against at h
  refine q_aload_n (pc := 0) C d_Md_against_0 rfl 0 rfl ?_
  refine q_get (pc := 1) (c := 43) (ci := 7) (k := 2) (v := .ref (ya Y 44)) C rfl (by decide) (by decide) wd_735 rfl d_Md_against_1 ?_
  refine q_iload_n (pc := 4) C d_Md_against_4 rfl 1 rfl ?_
  obtain ⟨h1, h⟩ := h
  refine q_iald (pc := 5) (c := 44) C ⟨rfl, rfl⟩ h1 d_Md_against_5 ?_
  refine q_bipush (pc := 6) (v := -9) C d_Md_against_6 (by decide) ?_
  obtain ⟨h18, h19⟩ := h
  refine q_icmp_eq (pc := 8) 23 C d_Md_against_8 (by decide) (fun hc => ?_) (fun hc => ?_)
  · have h := h18 hc
    refine q_sub [(0, .ref (ya Y 43)), (1, .int x1), (3, .int x3), (4, .int x4)] [0, 1, 3, 4] rfl ?_
    exact t_Md_against_23 hY C hr h
  have h := h19 hc
  refine q_aload_n (pc := 11) C d_Md_against_11 rfl 0 rfl ?_
  refine q_get (pc := 12) (c := 43) (ci := 7) (k := 2) (v := .ref (ya Y 44)) C rfl (by decide) (by decide) wd_735 rfl d_Md_against_12 ?_
  refine q_iload_n (pc := 15) C d_Md_against_15 rfl 1 rfl ?_
  obtain ⟨h15, h⟩ := h
  refine q_iald (pc := 16) (c := 44) C ⟨rfl, rfl⟩ h15 d_Md_against_16 ?_
  refine q_iload_n (pc := 17) C d_Md_against_17 rfl 2 rfl ?_
  obtain ⟨h16, h17⟩ := h
  refine q_icmp_eq (pc := 18) 23 C d_Md_against_18 (by decide) (fun hc => ?_) (fun hc => ?_)
  · have h := h16 hc
    refine q_sub [(0, .ref (ya Y 43)), (1, .int x1), (3, .int x3), (4, .int x4)] [0, 1, 3, 4] rfl ?_
    exact t_Md_against_23 hY C hr h
  have h := h17 hc
  refine q_iconst (pc := 21) (v := 2) C d_Md_against_21 (by decide) ?_
  exact q_iret (pc := 22) C hr d_Md_against_22 ⟨rfl, h⟩
theorem d_Md_fails_0 : decode prog_9_method_2_code 0 = .ok (.aload_n 0, 1) := by decide +kernel
theorem d_Md_fails_1 : decode prog_9_method_2_code 1 = .ok (.iload_n 1, 1) := by decide +kernel
theorem d_Md_fails_2 : decode prog_9_method_2_code 2 = .ok (.putfield 79, 3) := by decide +kernel
theorem d_Md_fails_5 : decode prog_9_method_2_code 5 = .ok (.bipush (-10), 2) := by decide +kernel
theorem d_Md_fails_7 : decode prog_9_method_2_code 7 = .ok (.iload_n 1, 1) := by decide +kernel
theorem d_Md_fails_8 : decode prog_9_method_2_code 8 = .ok (.isub, 1) := by decide +kernel
theorem d_Md_fails_9 : decode prog_9_method_2_code 9 = .ok (.ireturn, 1) := by decide +kernel
abbrev y_Md_fails : MethodName := ⟨"LoadCyclesModel", "fails", "(I)I"⟩
theorem mi_Md_fails : miV y_Md_fails prog_9_method_2_code 2 (some .int) 1 := ⟨wd_854, wd_31, wd_72, wd_855, by decide, by decide, by decide +kernel⟩
def w_Md_fails (x1 : Int32) (σ : Sg) (K : Int32 → Sg → Prop) : Prop :=
  (∀ τ2 : Sg, τ2 = s2 σ 43 0 x1 → K ((-10 : Int32) - x1) τ2)
set_option maxHeartbeats 4000000 in
theorem m_Md_fails {Y : Yx} {x1 : Int32} {σ : Sg} {K : Int32 → Sg → Prop} (hY : YD Y)  (h : w_Md_fails x1 σ K) : MetI Y y_Md_fails prog_9_method_2_code 2 (.int) 0 0 [.ref (ya Y 43), .int x1] σ K := by
  refine met_I [(0, .ref (ya Y 43)), (1, .int x1)] hY (by decide) (Nat.le_of_ble_eq_true rfl) rfl (fun X C hr => ?_)
  unfold w_Md_fails at h
  refine q_aload_n (pc := 0) C d_Md_fails_0 rfl 0 rfl ?_
  refine q_iload_n (pc := 1) C d_Md_fails_1 rfl 1 rfl ?_
  refine q_put (pc := 2) (c := 43) (ci := 7) (k := 0) C rfl (by decide) (by decide) wd_733 rfl rfl rfl fs_7_0 d_Md_fails_2 ?_
  refine q_nms (fun τ2 eτ2 => ?_)
  replace h := h τ2 eτ2
  refine q_bipush (pc := 5) (v := -10) C d_Md_fails_5 (by decide) ?_
  refine q_iload_n (pc := 7) C d_Md_fails_7 rfl 1 rfl ?_
  refine q_isub (pc := 8) C d_Md_fails_8 ?_
  exact q_iret (pc := 9) C hr d_Md_fails_9 h
theorem d_Md_isSign_0 : decode prog_9_method_10_code 0 = .ok (.aload_n 0, 1) := by decide +kernel
theorem d_Md_isSign_1 : decode prog_9_method_10_code 1 = .ok (.getfield 99, 3) := by decide +kernel
theorem d_Md_isSign_4 : decode prog_9_method_10_code 4 = .ok (.iload_n 1, 1) := by decide +kernel
theorem d_Md_isSign_5 : decode prog_9_method_10_code 5 = .ok (.if_icmp .ge 16, 3) := by decide +kernel
theorem d_Md_isSign_8 : decode prog_9_method_10_code 8 = .ok (.aload_n 0, 1) := by decide +kernel
theorem d_Md_isSign_9 : decode prog_9_method_10_code 9 = .ok (.getfield 16, 3) := by decide +kernel
theorem d_Md_isSign_12 : decode prog_9_method_10_code 12 = .ok (.aload_n 0, 1) := by decide +kernel
theorem d_Md_isSign_13 : decode prog_9_method_10_code 13 = .ok (.getfield 99, 3) := by decide +kernel
theorem d_Md_isSign_16 : decode prog_9_method_10_code 16 = .ok (.iaload, 1) := by decide +kernel
theorem d_Md_isSign_17 : decode prog_9_method_10_code 17 = .ok (.iload_n 2, 1) := by decide +kernel
theorem d_Md_isSign_18 : decode prog_9_method_10_code 18 = .ok (.if_icmp .eq 5, 3) := by decide +kernel
theorem d_Md_isSign_21 : decode prog_9_method_10_code 21 = .ok (.iconst 0, 1) := by decide +kernel
theorem d_Md_isSign_22 : decode prog_9_method_10_code 22 = .ok (.ireturn, 1) := by decide +kernel
theorem d_Md_isSign_23 : decode prog_9_method_10_code 23 = .ok (.aload_n 0, 1) := by decide +kernel
theorem d_Md_isSign_24 : decode prog_9_method_10_code 24 = .ok (.dup, 1) := by decide +kernel
theorem d_Md_isSign_25 : decode prog_9_method_10_code 25 = .ok (.getfield 99, 3) := by decide +kernel
theorem d_Md_isSign_28 : decode prog_9_method_10_code 28 = .ok (.iconst 1, 1) := by decide +kernel
theorem d_Md_isSign_29 : decode prog_9_method_10_code 29 = .ok (.iadd, 1) := by decide +kernel
theorem d_Md_isSign_30 : decode prog_9_method_10_code 30 = .ok (.putfield 99, 3) := by decide +kernel
theorem d_Md_isSign_33 : decode prog_9_method_10_code 33 = .ok (.iconst 1, 1) := by decide +kernel
theorem d_Md_isSign_34 : decode prog_9_method_10_code 34 = .ok (.ireturn, 1) := by decide +kernel
abbrev y_Md_isSign : MethodName := ⟨"LoadCyclesModel", "isSign", "(II)Z"⟩
theorem mi_Md_isSign : miV y_Md_isSign prog_9_method_10_code 3 (some .boolean) 2 := ⟨wd_862, wd_33, wd_72, wd_863, by decide, by decide, by decide +kernel⟩
def w_Md_isSign (x1 : Int32) (x2 : Int32) (σ : Sg) (K : Int32 → Sg → Prop) : Prop :=
  ((x1 ≤ (σ 43 12) → K (0 : Int32) σ) ∧ (¬ x1 ≤ (σ 43 12) → (vp_in (σ 43 12) 240 ∧ (((σ 46 (σ 43 12).toNatClampNeg) = x2 → (∀ τ30 : Sg, τ30 = s2 σ 43 12 ((σ 43 12) + (1 : Int32)) → K (1 : Int32) τ30)) ∧ (¬ (σ 46 (σ 43 12).toNatClampNeg) = x2 → K (0 : Int32) σ)))))
set_option maxHeartbeats 4000000 in
theorem m_Md_isSign {Y : Yx} {x1 : Int32} {x2 : Int32} {σ : Sg} {K : Int32 → Sg → Prop} (hY : YD Y)  (h : w_Md_isSign x1 x2 σ K) : MetI Y y_Md_isSign prog_9_method_10_code 3 (.boolean) 0 0 [.ref (ya Y 43), .int x1, .int x2] σ K := by
  refine met_I [(0, .ref (ya Y 43)), (1, .int x1), (2, .int x2)] hY (by decide) (Nat.le_of_ble_eq_true rfl) rfl (fun X C hr => ?_)
  unfold w_Md_isSign at h
  refine q_aload_n (pc := 0) C d_Md_isSign_0 rfl 0 rfl ?_
  refine q_get (pc := 1) (c := 43) (ci := 7) (k := 12) (v := .int (σ 43 12)) C rfl (by decide) (by decide) wd_745 rfl d_Md_isSign_1 ?_
  refine q_iload_n (pc := 4) C d_Md_isSign_4 rfl 1 rfl ?_
  obtain ⟨h4, h5⟩ := h
  refine q_icmp_ge (pc := 5) 21 C d_Md_isSign_5 (by decide) (fun hc => ?_) (fun hc => ?_)
  · have h := h4 hc
    refine q_iconst (pc := 21) (v := 0) C d_Md_isSign_21 (by decide) ?_
    exact q_zret (pc := 22) C hr d_Md_isSign_22 bz0 h
  have h := h5 hc
  refine q_aload_n (pc := 8) C d_Md_isSign_8 rfl 0 rfl ?_
  refine q_get (pc := 9) (c := 43) (ci := 7) (k := 4) (v := .ref (ya Y 46)) C rfl (by decide) (by decide) wd_737 rfl d_Md_isSign_9 ?_
  refine q_aload_n (pc := 12) C d_Md_isSign_12 rfl 0 rfl ?_
  refine q_get (pc := 13) (c := 43) (ci := 7) (k := 12) (v := .int (σ 43 12)) C rfl (by decide) (by decide) wd_745 rfl d_Md_isSign_13 ?_
  obtain ⟨h1, h⟩ := h
  refine q_iald (pc := 16) (c := 46) C ⟨rfl, rfl⟩ h1 d_Md_isSign_16 ?_
  refine q_iload_n (pc := 17) C d_Md_isSign_17 rfl 2 rfl ?_
  obtain ⟨h2, h3⟩ := h
  refine q_icmp_eq (pc := 18) 23 C d_Md_isSign_18 (by decide) (fun hc => ?_) (fun hc => ?_)
  · have h := h2 hc
    refine q_aload_n (pc := 23) C d_Md_isSign_23 rfl 0 rfl ?_
    refine q_dup (pc := 24) C d_Md_isSign_24 rfl ?_
    refine q_get (pc := 25) (c := 43) (ci := 7) (k := 12) (v := .int (σ 43 12)) C rfl (by decide) (by decide) wd_745 rfl d_Md_isSign_25 ?_
    refine q_iconst (pc := 28) (v := 1) C d_Md_isSign_28 (by decide) ?_
    refine q_iadd (pc := 29) C d_Md_isSign_29 ?_
    refine q_put (pc := 30) (c := 43) (ci := 7) (k := 12) C rfl (by decide) (by decide) wd_745 rfl rfl rfl fs_7_12 d_Md_isSign_30 ?_
    refine q_nms (fun τ30 eτ30 => ?_)
    replace h := h τ30 eτ30
    refine q_iconst (pc := 33) (v := 1) C d_Md_isSign_33 (by decide) ?_
    exact q_zret (pc := 34) C hr d_Md_isSign_34 bz1 h
  have h := h3 hc
  refine q_iconst (pc := 21) (v := 0) C d_Md_isSign_21 (by decide) ?_
  exact q_zret (pc := 22) C hr d_Md_isSign_22 bz0 h
theorem d_Md_kindBy_0 : decode prog_9_method_11_code 0 = .ok (.iload_n 0, 1) := by decide +kernel
theorem d_Md_kindBy_1 : decode prog_9_method_11_code 1 = .ok (.bipush 80, 2) := by decide +kernel
theorem d_Md_kindBy_3 : decode prog_9_method_11_code 3 = .ok (.if_icmp .ne 7, 3) := by decide +kernel
theorem d_Md_kindBy_6 : decode prog_9_method_11_code 6 = .ok (.iconst 0, 1) := by decide +kernel
theorem d_Md_kindBy_7 : decode prog_9_method_11_code 7 = .ok (.goto 25, 3) := by decide +kernel
theorem d_Md_kindBy_10 : decode prog_9_method_11_code 10 = .ok (.iload_n 0, 1) := by decide +kernel
theorem d_Md_kindBy_11 : decode prog_9_method_11_code 11 = .ok (.bipush 72, 2) := by decide +kernel
theorem d_Md_kindBy_13 : decode prog_9_method_11_code 13 = .ok (.if_icmp .ne 7, 3) := by decide +kernel
theorem d_Md_kindBy_16 : decode prog_9_method_11_code 16 = .ok (.iconst 1, 1) := by decide +kernel
theorem d_Md_kindBy_17 : decode prog_9_method_11_code 17 = .ok (.goto 15, 3) := by decide +kernel
theorem d_Md_kindBy_20 : decode prog_9_method_11_code 20 = .ok (.iload_n 0, 1) := by decide +kernel
theorem d_Md_kindBy_21 : decode prog_9_method_11_code 21 = .ok (.bipush 68, 2) := by decide +kernel
theorem d_Md_kindBy_23 : decode prog_9_method_11_code 23 = .ok (.if_icmp .ne 7, 3) := by decide +kernel
theorem d_Md_kindBy_26 : decode prog_9_method_11_code 26 = .ok (.iconst 2, 1) := by decide +kernel
theorem d_Md_kindBy_27 : decode prog_9_method_11_code 27 = .ok (.goto 5, 3) := by decide +kernel
theorem d_Md_kindBy_30 : decode prog_9_method_11_code 30 = .ok (.bipush (-9), 2) := by decide +kernel
theorem d_Md_kindBy_32 : decode prog_9_method_11_code 32 = .ok (.ireturn, 1) := by decide +kernel
abbrev y_Md_kindBy : MethodName := ⟨"LoadCyclesModel", "kindBy", "(I)I"⟩
theorem mi_Md_kindBy : miS y_Md_kindBy prog_9_method_11_code 1 (some .int) 1 := ⟨wd_869, wd_72, wd_870, by decide, by decide, by decide +kernel⟩
def w_Md_kindBy (x0 : Int32) (σ : Sg) (K : Int32 → Prop) : Prop :=
  ((¬ x0 = (80 : Int32) → ((¬ x0 = (72 : Int32) → ((¬ x0 = (68 : Int32) → K (-9 : Int32)) ∧ (x0 = (68 : Int32) → K (2 : Int32)))) ∧ (x0 = (72 : Int32) → K (1 : Int32)))) ∧ (x0 = (80 : Int32) → K (0 : Int32)))
set_option maxHeartbeats 4000000 in
theorem m_Md_kindBy {Y : Yx} {x0 : Int32} {σ : Sg} {K : Int32 → Prop} (hY : YD Y)  (h : w_Md_kindBy x0 σ K) : MetI Y y_Md_kindBy prog_9_method_11_code 1 (.int) 0 0 [.int x0] σ (fun r τ => τ = σ ∧ K r) := by
  refine met_I [(0, .int x0)] hY (by decide) (Nat.le_of_ble_eq_true rfl) rfl (fun X C hr => ?_)
  unfold w_Md_kindBy at h
  refine q_iload_n (pc := 0) C d_Md_kindBy_0 rfl 0 rfl ?_
  refine q_bipush (pc := 1) (v := 80) C d_Md_kindBy_1 (by decide) ?_
  obtain ⟨h5, h6⟩ := h
  refine q_icmp_ne (pc := 3) 10 C d_Md_kindBy_3 (by decide) (fun hc => ?_) (fun hc => ?_)
  · have h := h5 hc
    refine q_iload_n (pc := 10) C d_Md_kindBy_10 rfl 0 rfl ?_
    refine q_bipush (pc := 11) (v := 72) C d_Md_kindBy_11 (by decide) ?_
    obtain ⟨h3, h4⟩ := h
    refine q_icmp_ne (pc := 13) 20 C d_Md_kindBy_13 (by decide) (fun hc => ?_) (fun hc => ?_)
    · have h := h3 hc
      refine q_iload_n (pc := 20) C d_Md_kindBy_20 rfl 0 rfl ?_
      refine q_bipush (pc := 21) (v := 68) C d_Md_kindBy_21 (by decide) ?_
      obtain ⟨h1, h2⟩ := h
      refine q_icmp_ne (pc := 23) 30 C d_Md_kindBy_23 (by decide) (fun hc => ?_) (fun hc => ?_)
      · have h := h1 hc
        refine q_bipush (pc := 30) (v := -9) C d_Md_kindBy_30 (by decide) ?_
        exact q_iret (pc := 32) C hr d_Md_kindBy_32 ⟨rfl, h⟩
      have h := h2 hc
      refine q_iconst (pc := 26) (v := 2) C d_Md_kindBy_26 (by decide) ?_
      refine q_goto (pc := 27) 32 C d_Md_kindBy_27 (by decide) ?_
      exact q_iret (pc := 32) C hr d_Md_kindBy_32 ⟨rfl, h⟩
    have h := h4 hc
    refine q_iconst (pc := 16) (v := 1) C d_Md_kindBy_16 (by decide) ?_
    refine q_goto (pc := 17) 32 C d_Md_kindBy_17 (by decide) ?_
    exact q_iret (pc := 32) C hr d_Md_kindBy_32 ⟨rfl, h⟩
  have h := h6 hc
  refine q_iconst (pc := 6) (v := 0) C d_Md_kindBy_6 (by decide) ?_
  refine q_goto (pc := 7) 32 C d_Md_kindBy_7 (by decide) ?_
  exact q_iret (pc := 32) C hr d_Md_kindBy_32 ⟨rfl, h⟩
theorem d_Md_readAppliance_0 : decode prog_9_method_12_code 0 = .ok (.aload_n 0, 1) := by decide +kernel
theorem d_Md_readAppliance_1 : decode prog_9_method_12_code 1 = .ok (.getfield 99, 3) := by decide +kernel
theorem d_Md_readAppliance_4 : decode prog_9_method_12_code 4 = .ok (.iload_n 1, 1) := by decide +kernel
theorem d_Md_readAppliance_5 : decode prog_9_method_12_code 5 = .ok (.if_icmp .ge 18, 3) := by decide +kernel
theorem d_Md_readAppliance_8 : decode prog_9_method_12_code 8 = .ok (.aload_n 0, 1) := by decide +kernel
theorem d_Md_readAppliance_9 : decode prog_9_method_12_code 9 = .ok (.getfield 16, 3) := by decide +kernel
theorem d_Md_readAppliance_12 : decode prog_9_method_12_code 12 = .ok (.aload_n 0, 1) := by decide +kernel
theorem d_Md_readAppliance_13 : decode prog_9_method_12_code 13 = .ok (.getfield 99, 3) := by decide +kernel
theorem d_Md_readAppliance_16 : decode prog_9_method_12_code 16 = .ok (.iaload, 1) := by decide +kernel
theorem d_Md_readAppliance_17 : decode prog_9_method_12_code 17 = .ok (.invokestatic 102, 3) := by decide +kernel
theorem d_Md_readAppliance_20 : decode prog_9_method_12_code 20 = .ok (.goto 5, 3) := by decide +kernel
theorem d_Md_readAppliance_23 : decode prog_9_method_12_code 23 = .ok (.bipush (-9), 2) := by decide +kernel
theorem d_Md_readAppliance_25 : decode prog_9_method_12_code 25 = .ok (.istore_n 2, 1) := by decide +kernel
theorem d_Md_readAppliance_26 : decode prog_9_method_12_code 26 = .ok (.iload_n 2, 1) := by decide +kernel
theorem d_Md_readAppliance_27 : decode prog_9_method_12_code 27 = .ok (.bipush (-9), 2) := by decide +kernel
theorem d_Md_readAppliance_29 : decode prog_9_method_12_code 29 = .ok (.if_icmp .ne 5, 3) := by decide +kernel
theorem d_Md_readAppliance_32 : decode prog_9_method_12_code 32 = .ok (.iconst 0, 1) := by decide +kernel
theorem d_Md_readAppliance_33 : decode prog_9_method_12_code 33 = .ok (.ireturn, 1) := by decide +kernel
theorem d_Md_readAppliance_34 : decode prog_9_method_12_code 34 = .ok (.aload_n 0, 1) := by decide +kernel
theorem d_Md_readAppliance_35 : decode prog_9_method_12_code 35 = .ok (.dup, 1) := by decide +kernel
theorem d_Md_readAppliance_36 : decode prog_9_method_12_code 36 = .ok (.getfield 99, 3) := by decide +kernel
theorem d_Md_readAppliance_39 : decode prog_9_method_12_code 39 = .ok (.iconst 1, 1) := by decide +kernel
theorem d_Md_readAppliance_40 : decode prog_9_method_12_code 40 = .ok (.iadd, 1) := by decide +kernel
theorem d_Md_readAppliance_41 : decode prog_9_method_12_code 41 = .ok (.putfield 99, 3) := by decide +kernel
theorem d_Md_readAppliance_44 : decode prog_9_method_12_code 44 = .ok (.iconst 0, 1) := by decide +kernel
theorem d_Md_readAppliance_45 : decode prog_9_method_12_code 45 = .ok (.istore_n 3, 1) := by decide +kernel
theorem d_Md_readAppliance_46 : decode prog_9_method_12_code 46 = .ok (.iload_n 3, 1) := by decide +kernel
theorem d_Md_readAppliance_47 : decode prog_9_method_12_code 47 = .ok (.iconst 3, 1) := by decide +kernel
theorem d_Md_readAppliance_48 : decode prog_9_method_12_code 48 = .ok (.if_icmp .ge 74, 3) := by decide +kernel
theorem d_Md_readAppliance_51 : decode prog_9_method_12_code 51 = .ok (.aload_n 0, 1) := by decide +kernel
theorem d_Md_readAppliance_52 : decode prog_9_method_12_code 52 = .ok (.getfield 99, 3) := by decide +kernel
theorem d_Md_readAppliance_55 : decode prog_9_method_12_code 55 = .ok (.iload_n 1, 1) := by decide +kernel
theorem d_Md_readAppliance_56 : decode prog_9_method_12_code 56 = .ok (.if_icmp .ge 66, 3) := by decide +kernel
theorem d_Md_readAppliance_59 : decode prog_9_method_12_code 59 = .ok (.aload_n 0, 1) := by decide +kernel
theorem d_Md_readAppliance_60 : decode prog_9_method_12_code 60 = .ok (.getfield 16, 3) := by decide +kernel
theorem d_Md_readAppliance_63 : decode prog_9_method_12_code 63 = .ok (.aload_n 0, 1) := by decide +kernel
theorem d_Md_readAppliance_64 : decode prog_9_method_12_code 64 = .ok (.getfield 99, 3) := by decide +kernel
theorem d_Md_readAppliance_67 : decode prog_9_method_12_code 67 = .ok (.iaload, 1) := by decide +kernel
theorem d_Md_readAppliance_68 : decode prog_9_method_12_code 68 = .ok (.i2l, 1) := by decide +kernel
theorem d_Md_readAppliance_69 : decode prog_9_method_12_code 69 = .ok (.ldc2_w 106, 3) := by decide +kernel
theorem d_Md_readAppliance_72 : decode prog_9_method_12_code 72 = .ok (.ldc2_w 108, 3) := by decide +kernel
theorem d_Md_readAppliance_75 : decode prog_9_method_12_code 75 = .ok (.invokestatic 87, 3) := by decide +kernel
theorem d_Md_readAppliance_78 : decode prog_9_method_12_code 78 = .ok (.ifCond .eq 44, 3) := by decide +kernel
theorem d_Md_readAppliance_81 : decode prog_9_method_12_code 81 = .ok (.aload_n 0, 1) := by decide +kernel
theorem d_Md_readAppliance_82 : decode prog_9_method_12_code 82 = .ok (.getfield 37, 3) := by decide +kernel
theorem d_Md_readAppliance_85 : decode prog_9_method_12_code 85 = .ok (.iconst 3, 1) := by decide +kernel
theorem d_Md_readAppliance_86 : decode prog_9_method_12_code 86 = .ok (.aload_n 0, 1) := by decide +kernel
theorem d_Md_readAppliance_87 : decode prog_9_method_12_code 87 = .ok (.getfield 110, 3) := by decide +kernel
theorem d_Md_readAppliance_90 : decode prog_9_method_12_code 90 = .ok (.imul, 1) := by decide +kernel
theorem d_Md_readAppliance_91 : decode prog_9_method_12_code 91 = .ok (.iload_n 3, 1) := by decide +kernel
theorem d_Md_readAppliance_92 : decode prog_9_method_12_code 92 = .ok (.iadd, 1) := by decide +kernel
theorem d_Md_readAppliance_93 : decode prog_9_method_12_code 93 = .ok (.aload_n 0, 1) := by decide +kernel
theorem d_Md_readAppliance_94 : decode prog_9_method_12_code 94 = .ok (.getfield 16, 3) := by decide +kernel
theorem d_Md_readAppliance_97 : decode prog_9_method_12_code 97 = .ok (.aload_n 0, 1) := by decide +kernel
theorem d_Md_readAppliance_98 : decode prog_9_method_12_code 98 = .ok (.getfield 99, 3) := by decide +kernel
theorem d_Md_readAppliance_101 : decode prog_9_method_12_code 101 = .ok (.iaload, 1) := by decide +kernel
theorem d_Md_readAppliance_102 : decode prog_9_method_12_code 102 = .ok (.bipush 48, 2) := by decide +kernel
theorem d_Md_readAppliance_104 : decode prog_9_method_12_code 104 = .ok (.isub, 1) := by decide +kernel
theorem d_Md_readAppliance_105 : decode prog_9_method_12_code 105 = .ok (.iastore, 1) := by decide +kernel
theorem d_Md_readAppliance_106 : decode prog_9_method_12_code 106 = .ok (.iinc 3 1, 3) := by decide +kernel
theorem d_Md_readAppliance_109 : decode prog_9_method_12_code 109 = .ok (.aload_n 0, 1) := by decide +kernel
theorem d_Md_readAppliance_110 : decode prog_9_method_12_code 110 = .ok (.dup, 1) := by decide +kernel
theorem d_Md_readAppliance_111 : decode prog_9_method_12_code 111 = .ok (.getfield 99, 3) := by decide +kernel
theorem d_Md_readAppliance_114 : decode prog_9_method_12_code 114 = .ok (.iconst 1, 1) := by decide +kernel
theorem d_Md_readAppliance_115 : decode prog_9_method_12_code 115 = .ok (.iadd, 1) := by decide +kernel
theorem d_Md_readAppliance_116 : decode prog_9_method_12_code 116 = .ok (.putfield 99, 3) := by decide +kernel
theorem d_Md_readAppliance_119 : decode prog_9_method_12_code 119 = .ok (.goto (-73), 3) := by decide +kernel
theorem d_Md_readAppliance_122 : decode prog_9_method_12_code 122 = .ok (.aload_n 0, 1) := by decide +kernel
theorem d_Md_readAppliance_123 : decode prog_9_method_12_code 123 = .ok (.getfield 31, 3) := by decide +kernel
theorem d_Md_readAppliance_126 : decode prog_9_method_12_code 126 = .ok (.aload_n 0, 1) := by decide +kernel
theorem d_Md_readAppliance_127 : decode prog_9_method_12_code 127 = .ok (.getfield 110, 3) := by decide +kernel
theorem d_Md_readAppliance_130 : decode prog_9_method_12_code 130 = .ok (.iload_n 2, 1) := by decide +kernel
theorem d_Md_readAppliance_131 : decode prog_9_method_12_code 131 = .ok (.iastore, 1) := by decide +kernel
theorem d_Md_readAppliance_132 : decode prog_9_method_12_code 132 = .ok (.aload_n 0, 1) := by decide +kernel
theorem d_Md_readAppliance_133 : decode prog_9_method_12_code 133 = .ok (.getfield 34, 3) := by decide +kernel
theorem d_Md_readAppliance_136 : decode prog_9_method_12_code 136 = .ok (.aload_n 0, 1) := by decide +kernel
theorem d_Md_readAppliance_137 : decode prog_9_method_12_code 137 = .ok (.getfield 110, 3) := by decide +kernel
theorem d_Md_readAppliance_140 : decode prog_9_method_12_code 140 = .ok (.iload_n 3, 1) := by decide +kernel
theorem d_Md_readAppliance_141 : decode prog_9_method_12_code 141 = .ok (.iastore, 1) := by decide +kernel
theorem d_Md_readAppliance_142 : decode prog_9_method_12_code 142 = .ok (.aload_n 0, 1) := by decide +kernel
theorem d_Md_readAppliance_143 : decode prog_9_method_12_code 143 = .ok (.dup, 1) := by decide +kernel
theorem d_Md_readAppliance_144 : decode prog_9_method_12_code 144 = .ok (.getfield 110, 3) := by decide +kernel
theorem d_Md_readAppliance_147 : decode prog_9_method_12_code 147 = .ok (.iconst 1, 1) := by decide +kernel
theorem d_Md_readAppliance_148 : decode prog_9_method_12_code 148 = .ok (.iadd, 1) := by decide +kernel
theorem d_Md_readAppliance_149 : decode prog_9_method_12_code 149 = .ok (.putfield 110, 3) := by decide +kernel
theorem d_Md_readAppliance_152 : decode prog_9_method_12_code 152 = .ok (.iload_n 3, 1) := by decide +kernel
theorem d_Md_readAppliance_153 : decode prog_9_method_12_code 153 = .ok (.ifCond .le 7, 3) := by decide +kernel
theorem d_Md_readAppliance_156 : decode prog_9_method_12_code 156 = .ok (.iconst 1, 1) := by decide +kernel
theorem d_Md_readAppliance_157 : decode prog_9_method_12_code 157 = .ok (.goto 4, 3) := by decide +kernel
theorem d_Md_readAppliance_160 : decode prog_9_method_12_code 160 = .ok (.iconst 0, 1) := by decide +kernel
theorem d_Md_readAppliance_161 : decode prog_9_method_12_code 161 = .ok (.ireturn, 1) := by decide +kernel
abbrev y_Md_readAppliance : MethodName := ⟨"LoadCyclesModel", "readAppliance", "(I)Z"⟩
theorem mi_Md_readAppliance : miV y_Md_readAppliance prog_9_method_12_code 4 (some .boolean) 1 := ⟨wd_866, wd_34, wd_72, wd_867, by decide, by decide, by decide +kernel⟩
def B_Md_readAppliance_122 (x1 : Int32) (K : Int32 → Sg → Prop) (v2 : Int32) (v3 : Int32) (σ : Sg) : Prop :=
  (vp_in (σ 43 13) 4 ∧ (∀ τ131 : Sg, τ131 = s2 σ 51 (σ 43 13).toNatClampNeg v2 → (vp_in (τ131 43 13) 4 ∧ (∀ τ141 : Sg, τ141 = s2 τ131 52 (τ131 43 13).toNatClampNeg v3 → (∀ τ149 : Sg, τ149 = s2 τ141 43 13 ((τ141 43 13) + (1 : Int32)) → ((v3 ≤ 0 → K (0 : Int32) τ149) ∧ (¬ v3 ≤ 0 → K (1 : Int32) τ149)))))))
theorem t_Md_readAppliance_122 {X : Bx} {Y : Yx} {x1 : Int32} {v2 : Int32} {v3 : Int32} {K : Int32 → Sg → Prop}  (hY : YD Y) (C : Cx X Y prog_9_method_12_code 4 "LoadCyclesModel" 1 25) (hr : (xh X).sig.returnType = some .boolean)   {σ : Sg} (h : B_Md_readAppliance_122 x1 K v2 v3 σ) : St X Y 4 (QI X Y K) 122 [(0, .ref (ya Y 43)), (2, .int v2), (3, .int v3)] [] σ := by
  unfold B_Md_readAppliance_122 at h
  refine q_aload_n (pc := 122) C d_Md_readAppliance_122 rfl 0 rfl ?_
  refine q_get (pc := 123) (c := 43) (ci := 7) (k := 14) (v := .ref (ya Y 51)) C rfl (by decide) (by decide) wd_747 rfl d_Md_readAppliance_123 ?_
  refine q_aload_n (pc := 126) C d_Md_readAppliance_126 rfl 0 rfl ?_
  refine q_get (pc := 127) (c := 43) (ci := 7) (k := 13) (v := .int (σ 43 13)) C rfl (by decide) (by decide) wd_746 rfl d_Md_readAppliance_127 ?_
  refine q_iload_n (pc := 130) C d_Md_readAppliance_130 rfl 1 rfl ?_
  obtain ⟨h1, h⟩ := h
  refine q_iast (pc := 131) (c := 51) C ⟨rfl, rfl⟩ h1 d_Md_readAppliance_131 ?_
  refine q_nms (fun τ131 eτ131 => ?_)
  replace h := h τ131 eτ131
  refine q_aload_n (pc := 132) C d_Md_readAppliance_132 rfl 0 rfl ?_
  refine q_get (pc := 133) (c := 43) (ci := 7) (k := 15) (v := .ref (ya Y 52)) C rfl (by decide) (by decide) wd_748 rfl d_Md_readAppliance_133 ?_
  refine q_aload_n (pc := 136) C d_Md_readAppliance_136 rfl 0 rfl ?_
  refine q_get (pc := 137) (c := 43) (ci := 7) (k := 13) (v := .int (τ131 43 13)) C rfl (by decide) (by decide) wd_746 rfl d_Md_readAppliance_137 ?_
  refine q_iload_n (pc := 140) C d_Md_readAppliance_140 rfl 2 rfl ?_
  obtain ⟨h2, h⟩ := h
  refine q_iast (pc := 141) (c := 52) C ⟨rfl, rfl⟩ h2 d_Md_readAppliance_141 ?_
  refine q_nms (fun τ141 eτ141 => ?_)
  replace h := h τ141 eτ141
  refine q_aload_n (pc := 142) C d_Md_readAppliance_142 rfl 0 rfl ?_
  refine q_dup (pc := 143) C d_Md_readAppliance_143 rfl ?_
  refine q_get (pc := 144) (c := 43) (ci := 7) (k := 13) (v := .int (τ141 43 13)) C rfl (by decide) (by decide) wd_746 rfl d_Md_readAppliance_144 ?_
  refine q_iconst (pc := 147) (v := 1) C d_Md_readAppliance_147 (by decide) ?_
  refine q_iadd (pc := 148) C d_Md_readAppliance_148 ?_
  refine q_put (pc := 149) (c := 43) (ci := 7) (k := 13) C rfl (by decide) (by decide) wd_746 rfl rfl rfl fs_7_13 d_Md_readAppliance_149 ?_
  refine q_nms (fun τ149 eτ149 => ?_)
  replace h := h τ149 eτ149
  refine q_iload_n (pc := 152) C d_Md_readAppliance_152 rfl 2 rfl ?_
  obtain ⟨h3, h4⟩ := h
  refine q_if_le (pc := 153) 160 C d_Md_readAppliance_153 (by decide) (fun hc => ?_) (fun hc => ?_)
  · have h := h3 hc
    refine q_iconst (pc := 160) (v := 0) C d_Md_readAppliance_160 (by decide) ?_
    exact q_zret (pc := 161) C hr d_Md_readAppliance_161 bz0 h
  have h := h4 hc
  refine q_iconst (pc := 156) (v := 1) C d_Md_readAppliance_156 (by decide) ?_
  refine q_goto (pc := 157) 161 C d_Md_readAppliance_157 (by decide) ?_
  exact q_zret (pc := 161) C hr d_Md_readAppliance_161 bz1 h
def L_Md_readAppliance_46 (x1 : Int32) (v2 : Int32) (K : Int32 → Sg → Prop) : Nat → Int32 → Sg → Prop
  | 0, _, _ => False
  | n + 1, v3, σ =>
    (((3 : Int32) ≤ v3 → B_Md_readAppliance_122 x1 K v2 v3 σ) ∧ (¬ (3 : Int32) ≤ v3 → ((x1 ≤ (σ 43 12) → B_Md_readAppliance_122 x1 K v2 v3 σ) ∧ (¬ x1 ≤ (σ 43 12) → (vp_in (σ 43 12) 240 ∧ w_Md_within ((σ 46 (σ 43 12).toNatClampNeg).toInt64) (49 : Int64) (57 : Int64) σ (fun u75 => ((u75 = 0 → B_Md_readAppliance_122 x1 K v2 v3 σ) ∧ (¬ u75 = 0 → (vp_in (σ 43 12) 240 ∧ (vp_in (((3 : Int32) * (σ 43 13)) + v3) 12 ∧ (∀ τ105 : Sg, τ105 = s2 σ 53 (((3 : Int32) * (σ 43 13)) + v3).toNatClampNeg ((σ 46 (σ 43 12).toNatClampNeg) - (48 : Int32)) → (∀ τ116 : Sg, τ116 = s2 τ105 43 12 ((τ105 43 12) + (1 : Int32)) → L_Md_readAppliance_46 x1 v2 K n (v3 + (1 : Int32)) τ116))))))))))))
theorem t_Md_readAppliance_46 {X : Bx} {Y : Yx} {x1 : Int32} {v2 : Int32} {K : Int32 → Sg → Prop}  (hY : YD Y) (C : Cx X Y prog_9_method_12_code 4 "LoadCyclesModel" 1 25) (hr : (xh X).sig.returnType = some .boolean)  : ∀ (n : Nat) (v3 : Int32) (σ : Sg), L_Md_readAppliance_46 x1 v2 K n v3 σ → St X Y 4 (QI X Y K) 46 [(0, .ref (ya Y 43)), (1, .int x1), (2, .int v2), (3, .int v3)] [] σ := by
  intro n
  induction n with
  | zero => intro v3 σ h; exact h.elim
  | succ n ih =>
    intro v3 σ h
    unfold L_Md_readAppliance_46 at h
    refine q_iload_n (pc := 46) C d_Md_readAppliance_46 rfl 3 rfl ?_
    refine q_iconst (pc := 47) (v := 3) C d_Md_readAppliance_47 (by decide) ?_
    obtain ⟨h12, h13⟩ := h
    refine q_icmp_ge (pc := 48) 122 C d_Md_readAppliance_48 (by decide) (fun hc => ?_) (fun hc => ?_)
    · have h := h12 hc
      refine q_sub [(0, .ref (ya Y 43)), (2, .int v2), (3, .int v3)] [0, 2, 3] rfl ?_
      exact t_Md_readAppliance_122 hY C hr h
    have h := h13 hc
    refine q_aload_n (pc := 51) C d_Md_readAppliance_51 rfl 0 rfl ?_
    refine q_get (pc := 52) (c := 43) (ci := 7) (k := 12) (v := .int (σ 43 12)) C rfl (by decide) (by decide) wd_745 rfl d_Md_readAppliance_52 ?_
    refine q_iload_n (pc := 55) C d_Md_readAppliance_55 rfl 1 rfl ?_
    obtain ⟨h10, h11⟩ := h
    refine q_icmp_ge (pc := 56) 122 C d_Md_readAppliance_56 (by decide) (fun hc => ?_) (fun hc => ?_)
    · have h := h10 hc
      refine q_sub [(0, .ref (ya Y 43)), (2, .int v2), (3, .int v3)] [0, 2, 3] rfl ?_
      exact t_Md_readAppliance_122 hY C hr h
    have h := h11 hc
    refine q_aload_n (pc := 59) C d_Md_readAppliance_59 rfl 0 rfl ?_
    refine q_get (pc := 60) (c := 43) (ci := 7) (k := 4) (v := .ref (ya Y 46)) C rfl (by decide) (by decide) wd_737 rfl d_Md_readAppliance_60 ?_
    refine q_aload_n (pc := 63) C d_Md_readAppliance_63 rfl 0 rfl ?_
    refine q_get (pc := 64) (c := 43) (ci := 7) (k := 12) (v := .int (σ 43 12)) C rfl (by decide) (by decide) wd_745 rfl d_Md_readAppliance_64 ?_
    obtain ⟨h5, h⟩ := h
    refine q_iald (pc := 67) (c := 46) C ⟨rfl, rfl⟩ h5 d_Md_readAppliance_67 ?_
    refine q_i2l (pc := 68) C d_Md_readAppliance_68 ?_
    refine q_ldc2 (pc := 69) C wd_871 d_Md_readAppliance_69 ?_
    refine q_ldc2 (pc := 72) C wd_872 d_Md_readAppliance_72 ?_
    refine q_callSIr (pc := 75) (st := []) C (m_Md_within hY h) mi_Md_within wd_841 rfl rfl (Nat.le_of_ble_eq_true rfl) (by decide) (by decide) d_Md_readAppliance_75 (fun u75 h => ?_)
    obtain ⟨h8, h9⟩ := h
    refine q_if_eq (pc := 78) 122 C d_Md_readAppliance_78 (by decide) (fun hc => ?_) (fun hc => ?_)
    · have h := h8 hc
      refine q_sub [(0, .ref (ya Y 43)), (2, .int v2), (3, .int v3)] [0, 2, 3] rfl ?_
      exact t_Md_readAppliance_122 hY C hr h
    have h := h9 hc
    refine q_aload_n (pc := 81) C d_Md_readAppliance_81 rfl 0 rfl ?_
    refine q_get (pc := 82) (c := 43) (ci := 7) (k := 16) (v := .ref (ya Y 53)) C rfl (by decide) (by decide) wd_749 rfl d_Md_readAppliance_82 ?_
    refine q_iconst (pc := 85) (v := 3) C d_Md_readAppliance_85 (by decide) ?_
    refine q_aload_n (pc := 86) C d_Md_readAppliance_86 rfl 0 rfl ?_
    refine q_get (pc := 87) (c := 43) (ci := 7) (k := 13) (v := .int (σ 43 13)) C rfl (by decide) (by decide) wd_746 rfl d_Md_readAppliance_87 ?_
    refine q_imul (pc := 90) C d_Md_readAppliance_90 ?_
    refine q_iload_n (pc := 91) C d_Md_readAppliance_91 rfl 3 rfl ?_
    refine q_iadd (pc := 92) C d_Md_readAppliance_92 ?_
    refine q_aload_n (pc := 93) C d_Md_readAppliance_93 rfl 0 rfl ?_
    refine q_get (pc := 94) (c := 43) (ci := 7) (k := 4) (v := .ref (ya Y 46)) C rfl (by decide) (by decide) wd_737 rfl d_Md_readAppliance_94 ?_
    refine q_aload_n (pc := 97) C d_Md_readAppliance_97 rfl 0 rfl ?_
    refine q_get (pc := 98) (c := 43) (ci := 7) (k := 12) (v := .int (σ 43 12)) C rfl (by decide) (by decide) wd_745 rfl d_Md_readAppliance_98 ?_
    obtain ⟨h6, h⟩ := h
    refine q_iald (pc := 101) (c := 46) C ⟨rfl, rfl⟩ h6 d_Md_readAppliance_101 ?_
    refine q_bipush (pc := 102) (v := 48) C d_Md_readAppliance_102 (by decide) ?_
    refine q_isub (pc := 104) C d_Md_readAppliance_104 ?_
    obtain ⟨h7, h⟩ := h
    refine q_iast (pc := 105) (c := 53) C ⟨rfl, rfl⟩ h7 d_Md_readAppliance_105 ?_
    refine q_nms (fun τ105 eτ105 => ?_)
    replace h := h τ105 eτ105
    refine q_iinc (pc := 106) (v3 + (1 : Int32)) [(3, .int (v3 + (1 : Int32))), (0, .ref (ya Y 43)), (1, .int x1), (2, .int v2)] C d_Md_readAppliance_106 3 rfl rfl (by decide) rfl ?_
    refine q_aload_n (pc := 109) C d_Md_readAppliance_109 rfl 1 rfl ?_
    refine q_dup (pc := 110) C d_Md_readAppliance_110 rfl ?_
    refine q_get (pc := 111) (c := 43) (ci := 7) (k := 12) (v := .int (τ105 43 12)) C rfl (by decide) (by decide) wd_745 rfl d_Md_readAppliance_111 ?_
    refine q_iconst (pc := 114) (v := 1) C d_Md_readAppliance_114 (by decide) ?_
    refine q_iadd (pc := 115) C d_Md_readAppliance_115 ?_
    refine q_put (pc := 116) (c := 43) (ci := 7) (k := 12) C rfl (by decide) (by decide) wd_745 rfl rfl rfl fs_7_12 d_Md_readAppliance_116 ?_
    refine q_nms (fun τ116 eτ116 => ?_)
    replace h := h τ116 eτ116
    refine q_goto (pc := 119) 46 C d_Md_readAppliance_119 (by decide) ?_
    refine q_sub [(0, .ref (ya Y 43)), (1, .int x1), (2, .int v2), (3, .int (v3 + (1 : Int32)))] [1, 2, 3, 0] rfl ?_
    exact ih (v3 + (1 : Int32)) τ116 h
def B_Md_readAppliance_25 (x1 : Int32) (K : Int32 → Sg → Prop) (vs0 : Int32) (σ : Sg) : Prop :=
  ((¬ vs0 = (-9 : Int32) → (∀ τ41 : Sg, τ41 = s2 σ 43 12 ((σ 43 12) + (1 : Int32)) → (∃ n14 : Nat, L_Md_readAppliance_46 x1 vs0 K n14 (0 : Int32) τ41))) ∧ (vs0 = (-9 : Int32) → K (0 : Int32) σ))
theorem t_Md_readAppliance_25 {X : Bx} {Y : Yx} {x1 : Int32} {vs0 : Int32} {K : Int32 → Sg → Prop}  (hY : YD Y) (C : Cx X Y prog_9_method_12_code 4 "LoadCyclesModel" 1 25) (hr : (xh X).sig.returnType = some .boolean)   {σ : Sg} (h : B_Md_readAppliance_25 x1 K vs0 σ) : St X Y 4 (QI X Y K) 25 [(0, .ref (ya Y 43)), (1, .int x1)] [.int vs0] σ := by
  unfold B_Md_readAppliance_25 at h
  refine q_istore_n (pc := 25) [(2, .int vs0), (0, .ref (ya Y 43)), (1, .int x1)] C d_Md_readAppliance_25 rfl (by decide) rfl ?_
  refine q_iload_n (pc := 26) C d_Md_readAppliance_26 rfl 0 rfl ?_
  refine q_bipush (pc := 27) (v := -9) C d_Md_readAppliance_27 (by decide) ?_
  obtain ⟨h15, h16⟩ := h
  refine q_icmp_ne (pc := 29) 34 C d_Md_readAppliance_29 (by decide) (fun hc => ?_) (fun hc => ?_)
  · have h := h15 hc
    refine q_aload_n (pc := 34) C d_Md_readAppliance_34 rfl 1 rfl ?_
    refine q_dup (pc := 35) C d_Md_readAppliance_35 rfl ?_
    refine q_get (pc := 36) (c := 43) (ci := 7) (k := 12) (v := .int (σ 43 12)) C rfl (by decide) (by decide) wd_745 rfl d_Md_readAppliance_36 ?_
    refine q_iconst (pc := 39) (v := 1) C d_Md_readAppliance_39 (by decide) ?_
    refine q_iadd (pc := 40) C d_Md_readAppliance_40 ?_
    refine q_put (pc := 41) (c := 43) (ci := 7) (k := 12) C rfl (by decide) (by decide) wd_745 rfl rfl rfl fs_7_12 d_Md_readAppliance_41 ?_
    refine q_nms (fun τ41 eτ41 => ?_)
    replace h := h τ41 eτ41
    refine q_iconst (pc := 44) (v := 0) C d_Md_readAppliance_44 (by decide) ?_
    refine q_istore_n (pc := 45) [(3, .int (0 : Int32)), (2, .int vs0), (0, .ref (ya Y 43)), (1, .int x1)] C d_Md_readAppliance_45 rfl (by decide) rfl ?_
    obtain ⟨n14, h⟩ := h
    refine q_sub [(0, .ref (ya Y 43)), (1, .int x1), (2, .int vs0), (3, .int (0 : Int32))] [2, 3, 1, 0] rfl ?_
    exact t_Md_readAppliance_46 hY C hr n14 (0 : Int32) τ41 h
  have h := h16 hc
  refine q_iconst (pc := 32) (v := 0) C d_Md_readAppliance_32 (by decide) ?_
  exact q_zret (pc := 33) C hr d_Md_readAppliance_33 bz0 h
def w_Md_readAppliance (x1 : Int32) (σ : Sg) (K : Int32 → Sg → Prop) : Prop :=
  ((x1 ≤ (σ 43 12) → B_Md_readAppliance_25 x1 K (-9 : Int32) σ) ∧ (¬ x1 ≤ (σ 43 12) → (vp_in (σ 43 12) 240 ∧ w_Md_kindBy (σ 46 (σ 43 12).toNatClampNeg) σ (fun u17 => B_Md_readAppliance_25 x1 K u17 σ))))
set_option maxHeartbeats 4000000 in
theorem m_Md_readAppliance {Y : Yx} {x1 : Int32} {σ : Sg} {K : Int32 → Sg → Prop} (hY : YD Y)  (h : w_Md_readAppliance x1 σ K) : MetI Y y_Md_readAppliance prog_9_method_12_code 4 (.boolean) 1 25 [.ref (ya Y 43), .int x1] σ K := by
  refine met_I [(0, .ref (ya Y 43)), (1, .int x1)] hY (by decide) (Nat.le_of_ble_eq_true rfl) rfl (fun X C hr => ?_)
  unfold w_Md_readAppliance at h
  refine q_aload_n (pc := 0) C d_Md_readAppliance_0 rfl 0 rfl ?_
  refine q_get (pc := 1) (c := 43) (ci := 7) (k := 12) (v := .int (σ 43 12)) C rfl (by decide) (by decide) wd_745 rfl d_Md_readAppliance_1 ?_
  refine q_iload_n (pc := 4) C d_Md_readAppliance_4 rfl 1 rfl ?_
  obtain ⟨h18, h19⟩ := h
  refine q_icmp_ge (pc := 5) 23 C d_Md_readAppliance_5 (by decide) (fun hc => ?_) (fun hc => ?_)
  · have h := h18 hc
    refine q_bipush (pc := 23) (v := -9) C d_Md_readAppliance_23 (by decide) ?_
    exact t_Md_readAppliance_25 hY C hr h
  have h := h19 hc
  refine q_aload_n (pc := 8) C d_Md_readAppliance_8 rfl 0 rfl ?_
  refine q_get (pc := 9) (c := 43) (ci := 7) (k := 4) (v := .ref (ya Y 46)) C rfl (by decide) (by decide) wd_737 rfl d_Md_readAppliance_9 ?_
  refine q_aload_n (pc := 12) C d_Md_readAppliance_12 rfl 0 rfl ?_
  refine q_get (pc := 13) (c := 43) (ci := 7) (k := 12) (v := .int (σ 43 12)) C rfl (by decide) (by decide) wd_745 rfl d_Md_readAppliance_13 ?_
  obtain ⟨h17, h⟩ := h
  refine q_iald (pc := 16) (c := 46) C ⟨rfl, rfl⟩ h17 d_Md_readAppliance_16 ?_
  refine q_callSIr (pc := 17) (st := []) C (m_Md_kindBy hY h) mi_Md_kindBy wd_868 rfl rfl (Nat.le_of_ble_eq_true rfl) (by decide) (by decide) d_Md_readAppliance_17 (fun u17 h => ?_)
  refine q_goto (pc := 20) 25 C d_Md_readAppliance_20 (by decide) ?_
  exact t_Md_readAppliance_25 hY C hr h
theorem d_Md_readAll_0 : decode prog_9_method_13_code 0 = .ok (.aload_n 0, 1) := by decide +kernel
theorem d_Md_readAll_1 : decode prog_9_method_13_code 1 = .ok (.iconst 0, 1) := by decide +kernel
theorem d_Md_readAll_2 : decode prog_9_method_13_code 2 = .ok (.putfield 110, 3) := by decide +kernel
theorem d_Md_readAll_5 : decode prog_9_method_13_code 5 = .ok (.aload_n 0, 1) := by decide +kernel
theorem d_Md_readAll_6 : decode prog_9_method_13_code 6 = .ok (.iload_n 1, 1) := by decide +kernel
theorem d_Md_readAll_7 : decode prog_9_method_13_code 7 = .ok (.bipush 117, 2) := by decide +kernel
theorem d_Md_readAll_9 : decode prog_9_method_13_code 9 = .ok (.invokevirtual 113, 3) := by decide +kernel
theorem d_Md_readAll_12 : decode prog_9_method_13_code 12 = .ok (.ifCond .eq 21, 3) := by decide +kernel
theorem d_Md_readAll_15 : decode prog_9_method_13_code 15 = .ok (.aload_n 0, 1) := by decide +kernel
theorem d_Md_readAll_16 : decode prog_9_method_13_code 16 = .ok (.iload_n 1, 1) := by decide +kernel
theorem d_Md_readAll_17 : decode prog_9_method_13_code 17 = .ok (.bipush 59, 2) := by decide +kernel
theorem d_Md_readAll_19 : decode prog_9_method_13_code 19 = .ok (.invokevirtual 113, 3) := by decide +kernel
theorem d_Md_readAll_22 : decode prog_9_method_13_code 22 = .ok (.ifCond .eq 11, 3) := by decide +kernel
theorem d_Md_readAll_25 : decode prog_9_method_13_code 25 = .ok (.aload_n 0, 1) := by decide +kernel
theorem d_Md_readAll_26 : decode prog_9_method_13_code 26 = .ok (.iload_n 1, 1) := by decide +kernel
theorem d_Md_readAll_27 : decode prog_9_method_13_code 27 = .ok (.invokevirtual 117, 3) := by decide +kernel
theorem d_Md_readAll_30 : decode prog_9_method_13_code 30 = .ok (.ifCond .ne 5, 3) := by decide +kernel
theorem d_Md_readAll_33 : decode prog_9_method_13_code 33 = .ok (.iconst 0, 1) := by decide +kernel
theorem d_Md_readAll_34 : decode prog_9_method_13_code 34 = .ok (.ireturn, 1) := by decide +kernel
theorem d_Md_readAll_35 : decode prog_9_method_13_code 35 = .ok (.aload_n 0, 1) := by decide +kernel
theorem d_Md_readAll_36 : decode prog_9_method_13_code 36 = .ok (.getfield 110, 3) := by decide +kernel
theorem d_Md_readAll_39 : decode prog_9_method_13_code 39 = .ok (.iconst 4, 1) := by decide +kernel
theorem d_Md_readAll_40 : decode prog_9_method_13_code 40 = .ok (.if_icmp .ge 23, 3) := by decide +kernel
theorem d_Md_readAll_43 : decode prog_9_method_13_code 43 = .ok (.aload_n 0, 1) := by decide +kernel
theorem d_Md_readAll_44 : decode prog_9_method_13_code 44 = .ok (.iload_n 1, 1) := by decide +kernel
theorem d_Md_readAll_45 : decode prog_9_method_13_code 45 = .ok (.bipush 59, 2) := by decide +kernel
theorem d_Md_readAll_47 : decode prog_9_method_13_code 47 = .ok (.invokevirtual 113, 3) := by decide +kernel
theorem d_Md_readAll_50 : decode prog_9_method_13_code 50 = .ok (.ifCond .eq 13, 3) := by decide +kernel
theorem d_Md_readAll_53 : decode prog_9_method_13_code 53 = .ok (.aload_n 0, 1) := by decide +kernel
theorem d_Md_readAll_54 : decode prog_9_method_13_code 54 = .ok (.iload_n 1, 1) := by decide +kernel
theorem d_Md_readAll_55 : decode prog_9_method_13_code 55 = .ok (.invokevirtual 117, 3) := by decide +kernel
theorem d_Md_readAll_58 : decode prog_9_method_13_code 58 = .ok (.ifCond .ne (-23), 3) := by decide +kernel
theorem d_Md_readAll_61 : decode prog_9_method_13_code 61 = .ok (.iconst 0, 1) := by decide +kernel
theorem d_Md_readAll_62 : decode prog_9_method_13_code 62 = .ok (.ireturn, 1) := by decide +kernel
theorem d_Md_readAll_63 : decode prog_9_method_13_code 63 = .ok (.aload_n 0, 1) := by decide +kernel
theorem d_Md_readAll_64 : decode prog_9_method_13_code 64 = .ok (.getfield 99, 3) := by decide +kernel
theorem d_Md_readAll_67 : decode prog_9_method_13_code 67 = .ok (.iload_n 1, 1) := by decide +kernel
theorem d_Md_readAll_68 : decode prog_9_method_13_code 68 = .ok (.if_icmp .ne 7, 3) := by decide +kernel
theorem d_Md_readAll_71 : decode prog_9_method_13_code 71 = .ok (.iconst 1, 1) := by decide +kernel
theorem d_Md_readAll_72 : decode prog_9_method_13_code 72 = .ok (.goto 4, 3) := by decide +kernel
theorem d_Md_readAll_75 : decode prog_9_method_13_code 75 = .ok (.iconst 0, 1) := by decide +kernel
theorem d_Md_readAll_76 : decode prog_9_method_13_code 76 = .ok (.ireturn, 1) := by decide +kernel
abbrev y_Md_readAll : MethodName := ⟨"LoadCyclesModel", "readAll", "(I)Z"⟩
theorem mi_Md_readAll : miV y_Md_readAll prog_9_method_13_code 2 (some .boolean) 1 := ⟨wd_858, wd_32, wd_72, wd_859, by decide, by decide, by decide +kernel⟩
def B_Md_readAll_63 (x1 : Int32) (K : Int32 → Sg → Prop)  (σ : Sg) : Prop :=
  ((¬ (σ 43 12) = x1 → K (0 : Int32) σ) ∧ ((σ 43 12) = x1 → K (1 : Int32) σ))
theorem t_Md_readAll_63 {X : Bx} {Y : Yx} {x1 : Int32} {K : Int32 → Sg → Prop}  (hY : YD Y) (C : Cx X Y prog_9_method_13_code 2 "LoadCyclesModel" 2 48) (hr : (xh X).sig.returnType = some .boolean)   {σ : Sg} (h : B_Md_readAll_63 x1 K σ) : St X Y 2 (QI X Y K) 63 [(0, .ref (ya Y 43)), (1, .int x1)] [] σ := by
  unfold B_Md_readAll_63 at h
  refine q_aload_n (pc := 63) C d_Md_readAll_63 rfl 0 rfl ?_
  refine q_get (pc := 64) (c := 43) (ci := 7) (k := 12) (v := .int (σ 43 12)) C rfl (by decide) (by decide) wd_745 rfl d_Md_readAll_64 ?_
  refine q_iload_n (pc := 67) C d_Md_readAll_67 rfl 1 rfl ?_
  obtain ⟨h1, h2⟩ := h
  refine q_icmp_ne (pc := 68) 75 C d_Md_readAll_68 (by decide) (fun hc => ?_) (fun hc => ?_)
  · have h := h1 hc
    refine q_iconst (pc := 75) (v := 0) C d_Md_readAll_75 (by decide) ?_
    exact q_zret (pc := 76) C hr d_Md_readAll_76 bz0 h
  have h := h2 hc
  refine q_iconst (pc := 71) (v := 1) C d_Md_readAll_71 (by decide) ?_
  refine q_goto (pc := 72) 76 C d_Md_readAll_72 (by decide) ?_
  exact q_zret (pc := 76) C hr d_Md_readAll_76 bz1 h
def L_Md_readAll_35 (x1 : Int32) (K : Int32 → Sg → Prop) : Nat → Sg → Prop
  | 0, _ => False
  | n + 1, σ =>
    (((4 : Int32) ≤ (σ 43 13) → B_Md_readAll_63 x1 K σ) ∧ (¬ (4 : Int32) ≤ (σ 43 13) → w_Md_isSign x1 (59 : Int32) σ (fun u47 τ47 => ((u47 = 0 → B_Md_readAll_63 x1 K τ47) ∧ (¬ u47 = 0 → w_Md_readAppliance x1 τ47 (fun u55 τ55 => ((¬ u55 = 0 → L_Md_readAll_35 x1 K n τ55) ∧ (u55 = 0 → K (0 : Int32) τ55))))))))
theorem t_Md_readAll_35 {X : Bx} {Y : Yx} {x1 : Int32} {K : Int32 → Sg → Prop}  (hY : YD Y) (C : Cx X Y prog_9_method_13_code 2 "LoadCyclesModel" 2 48) (hr : (xh X).sig.returnType = some .boolean)  : ∀ (n : Nat)  (σ : Sg), L_Md_readAll_35 x1 K n σ → St X Y 2 (QI X Y K) 35 [(0, .ref (ya Y 43)), (1, .int x1)] [] σ := by
  intro n
  induction n with
  | zero => intro σ h; exact h.elim
  | succ n ih =>
    intro σ h
    unfold L_Md_readAll_35 at h
    refine q_aload_n (pc := 35) C d_Md_readAll_35 rfl 0 rfl ?_
    refine q_get (pc := 36) (c := 43) (ci := 7) (k := 13) (v := .int (σ 43 13)) C rfl (by decide) (by decide) wd_746 rfl d_Md_readAll_36 ?_
    refine q_iconst (pc := 39) (v := 4) C d_Md_readAll_39 (by decide) ?_
    obtain ⟨h7, h8⟩ := h
    refine q_icmp_ge (pc := 40) 63 C d_Md_readAll_40 (by decide) (fun hc => ?_) (fun hc => ?_)
    · have h := h7 hc
      exact t_Md_readAll_63 hY C hr h
    have h := h8 hc
    refine q_aload_n (pc := 43) C d_Md_readAll_43 rfl 0 rfl ?_
    refine q_iload_n (pc := 44) C d_Md_readAll_44 rfl 1 rfl ?_
    refine q_bipush (pc := 45) (v := 59) C d_Md_readAll_45 (by decide) ?_
    refine q_callVI (pc := 47) (st := []) (d := 43) C (m_Md_isSign hY h) mi_Md_isSign rfl (by decide) rfl wd_860 rfl rfl (Nat.le_of_ble_eq_true rfl) (by decide) (by decide) d_Md_readAll_47 (fun u47 τ47 h => ?_)
    obtain ⟨h5, h6⟩ := h
    refine q_if_eq (pc := 50) 63 C d_Md_readAll_50 (by decide) (fun hc => ?_) (fun hc => ?_)
    · have h := h5 hc
      exact t_Md_readAll_63 hY C hr h
    have h := h6 hc
    refine q_aload_n (pc := 53) C d_Md_readAll_53 rfl 0 rfl ?_
    refine q_iload_n (pc := 54) C d_Md_readAll_54 rfl 1 rfl ?_
    refine q_callVI (pc := 55) (st := []) (d := 43) C (m_Md_readAppliance hY h) mi_Md_readAppliance rfl (by decide) rfl wd_864 rfl rfl (Nat.le_of_ble_eq_true rfl) (by decide) (by decide) d_Md_readAll_55 (fun u55 τ55 h => ?_)
    obtain ⟨h3, h4⟩ := h
    refine q_if_ne (pc := 58) 35 C d_Md_readAll_58 (by decide) (fun hc => ?_) (fun hc => ?_)
    · have h := h3 hc
      exact ih τ55 h
    have h := h4 hc
    refine q_iconst (pc := 61) (v := 0) C d_Md_readAll_61 (by decide) ?_
    exact q_zret (pc := 62) C hr d_Md_readAll_62 bz0 h
def w_Md_readAll (x1 : Int32) (σ : Sg) (K : Int32 → Sg → Prop) : Prop :=
  (∀ τ2 : Sg, τ2 = s2 σ 43 13 (0 : Int32) → w_Md_isSign x1 (117 : Int32) τ2 (fun u9 τ9 => ((u9 = 0 → K (0 : Int32) τ9) ∧ (¬ u9 = 0 → w_Md_isSign x1 (59 : Int32) τ9 (fun u19 τ19 => ((u19 = 0 → K (0 : Int32) τ19) ∧ (¬ u19 = 0 → w_Md_readAppliance x1 τ19 (fun u27 τ27 => ((¬ u27 = 0 → (∃ n9 : Nat, L_Md_readAll_35 x1 K n9 τ27)) ∧ (u27 = 0 → K (0 : Int32) τ27))))))))))
set_option maxHeartbeats 4000000 in
theorem m_Md_readAll {Y : Yx} {x1 : Int32} {σ : Sg} {K : Int32 → Sg → Prop} (hY : YD Y)  (h : w_Md_readAll x1 σ K) : MetI Y y_Md_readAll prog_9_method_13_code 2 (.boolean) 2 48 [.ref (ya Y 43), .int x1] σ K := by
  refine met_I [(0, .ref (ya Y 43)), (1, .int x1)] hY (by decide) (Nat.le_of_ble_eq_true rfl) rfl (fun X C hr => ?_)
  unfold w_Md_readAll at h
  refine q_aload_n (pc := 0) C d_Md_readAll_0 rfl 0 rfl ?_
  refine q_iconst (pc := 1) (v := 0) C d_Md_readAll_1 (by decide) ?_
  refine q_put (pc := 2) (c := 43) (ci := 7) (k := 13) C rfl (by decide) (by decide) wd_746 rfl rfl rfl fs_7_13 d_Md_readAll_2 ?_
  refine q_nms (fun τ2 eτ2 => ?_)
  replace h := h τ2 eτ2
  refine q_aload_n (pc := 5) C d_Md_readAll_5 rfl 0 rfl ?_
  refine q_iload_n (pc := 6) C d_Md_readAll_6 rfl 1 rfl ?_
  refine q_bipush (pc := 7) (v := 117) C d_Md_readAll_7 (by decide) ?_
  refine q_callVI (pc := 9) (st := []) (d := 43) C (m_Md_isSign hY h) mi_Md_isSign rfl (by decide) rfl wd_860 rfl rfl (Nat.le_of_ble_eq_true rfl) (by decide) (by decide) d_Md_readAll_9 (fun u9 τ9 h => ?_)
  obtain ⟨h14, h15⟩ := h
  refine q_if_eq (pc := 12) 33 C d_Md_readAll_12 (by decide) (fun hc => ?_) (fun hc => ?_)
  · have h := h14 hc
    refine q_iconst (pc := 33) (v := 0) C d_Md_readAll_33 (by decide) ?_
    exact q_zret (pc := 34) C hr d_Md_readAll_34 bz0 h
  have h := h15 hc
  refine q_aload_n (pc := 15) C d_Md_readAll_15 rfl 0 rfl ?_
  refine q_iload_n (pc := 16) C d_Md_readAll_16 rfl 1 rfl ?_
  refine q_bipush (pc := 17) (v := 59) C d_Md_readAll_17 (by decide) ?_
  refine q_callVI (pc := 19) (st := []) (d := 43) C (m_Md_isSign hY h) mi_Md_isSign rfl (by decide) rfl wd_860 rfl rfl (Nat.le_of_ble_eq_true rfl) (by decide) (by decide) d_Md_readAll_19 (fun u19 τ19 h => ?_)
  obtain ⟨h12, h13⟩ := h
  refine q_if_eq (pc := 22) 33 C d_Md_readAll_22 (by decide) (fun hc => ?_) (fun hc => ?_)
  · have h := h12 hc
    refine q_iconst (pc := 33) (v := 0) C d_Md_readAll_33 (by decide) ?_
    exact q_zret (pc := 34) C hr d_Md_readAll_34 bz0 h
  have h := h13 hc
  refine q_aload_n (pc := 25) C d_Md_readAll_25 rfl 0 rfl ?_
  refine q_iload_n (pc := 26) C d_Md_readAll_26 rfl 1 rfl ?_
  refine q_callVI (pc := 27) (st := []) (d := 43) C (m_Md_readAppliance hY h) mi_Md_readAppliance rfl (by decide) rfl wd_864 rfl rfl (Nat.le_of_ble_eq_true rfl) (by decide) (by decide) d_Md_readAll_27 (fun u27 τ27 h => ?_)
  obtain ⟨h10, h11⟩ := h
  refine q_if_ne (pc := 30) 35 C d_Md_readAll_30 (by decide) (fun hc => ?_) (fun hc => ?_)
  · have h := h10 hc
    obtain ⟨n9, h⟩ := h
    exact t_Md_readAll_35 hY C hr n9 τ27 h
  have h := h11 hc
  refine q_iconst (pc := 33) (v := 0) C d_Md_readAll_33 (by decide) ?_
  exact q_zret (pc := 34) C hr d_Md_readAll_34 bz0 h
