theorem d_Lc_share_0 : decode prog_1_method_16_code 0 = .ok (.aload_n 0, 1) := by decide +kernel
theorem d_Lc_share_1 : decode prog_1_method_16_code 1 = .ok (.getfield 12, 3) := by decide +kernel
theorem d_Lc_share_4 : decode prog_1_method_16_code 4 = .ok (.iload_n 1, 1) := by decide +kernel
theorem d_Lc_share_5 : decode prog_1_method_16_code 5 = .ok (.invokevirtual 108, 3) := by decide +kernel
theorem d_Lc_share_8 : decode prog_1_method_16_code 8 = .ok (.ifCond .ne 5, 3) := by decide +kernel
theorem d_Lc_share_11 : decode prog_1_method_16_code 11 = .ok (.iconst (-1), 1) := by decide +kernel
theorem d_Lc_share_12 : decode prog_1_method_16_code 12 = .ok (.ireturn, 1) := by decide +kernel
theorem d_Lc_share_13 : decode prog_1_method_16_code 13 = .ok (.aload_n 0, 1) := by decide +kernel
theorem d_Lc_share_14 : decode prog_1_method_16_code 14 = .ok (.invokevirtual 169, 3) := by decide +kernel
theorem d_Lc_share_17 : decode prog_1_method_16_code 17 = .ok (.getfield 182, 3) := by decide +kernel
theorem d_Lc_share_20 : decode prog_1_method_16_code 20 = .ok (.iload_n 1, 1) := by decide +kernel
theorem d_Lc_share_21 : decode prog_1_method_16_code 21 = .ok (.iaload, 1) := by decide +kernel
theorem d_Lc_share_22 : decode prog_1_method_16_code 22 = .ok (.i2l, 1) := by decide +kernel
theorem d_Lc_share_23 : decode prog_1_method_16_code 23 = .ok (.aload_n 0, 1) := by decide +kernel
theorem d_Lc_share_24 : decode prog_1_method_16_code 24 = .ok (.getfield 12, 3) := by decide +kernel
theorem d_Lc_share_27 : decode prog_1_method_16_code 27 = .ok (.invokevirtual 210, 3) := by decide +kernel
theorem d_Lc_share_30 : decode prog_1_method_16_code 30 = .ok (.i2l, 1) := by decide +kernel
theorem d_Lc_share_31 : decode prog_1_method_16_code 31 = .ok (.bipush 23, 2) := by decide +kernel
theorem d_Lc_share_33 : decode prog_1_method_16_code 33 = .ok (.bipush 127, 2) := by decide +kernel
theorem d_Lc_share_35 : decode prog_1_method_16_code 35 = .ok (.invokestatic 214, 3) := by decide +kernel
theorem d_Lc_share_38 : decode prog_1_method_16_code 38 = .ok (.l2i, 1) := by decide +kernel
theorem d_Lc_share_39 : decode prog_1_method_16_code 39 = .ok (.ireturn, 1) := by decide +kernel
abbrev y_Lc_share : MethodName := ⟨"LoadCycles", "share", "(I)I"⟩
theorem mi_Lc_share : miV y_Lc_share prog_1_method_16_code 2 (some .int) 1 := ⟨wd_584, wd_585, wd_65, wd_586, by decide, by decide, by decide +kernel⟩
def w_Lc_share (x1 : Int32) (σ : Sg) (K : Int32 → Sg → Prop) : Prop :=
  w_Ho_hasAppliance 1 x1 σ (fun u5 => ((¬ u5 = 0 → w_Lc_knownBest σ (fun u14 τ14 => (kd u14 = 0 ∧ (vp_in x1 4 ∧ w_Ho_allValues 1 τ14 (fun u27 => w_Lc_nearestBits ((τ14 (u14 + 2) x1.toNatClampNeg).toInt64) (u27.toInt64) (23 : Int32) (127 : Int32) τ14 (fun u35 => K (u35.toInt32) τ14)))))) ∧ (u5 = 0 → K (-1 : Int32) σ)))
set_option maxHeartbeats 4000000 in
theorem m_Lc_share {Y : Yx} {x1 : Int32} {σ : Sg} {K : Int32 → Sg → Prop} (hY : YD Y)  (h : w_Lc_share x1 σ K) : MetI Y y_Lc_share prog_1_method_16_code 2 (.int) 5 131 [.ref (ya Y 0), .int x1] σ K := by
  refine met_I [(0, .ref (ya Y 0)), (1, .int x1)] hY (by decide) (Nat.le_of_ble_eq_true rfl) rfl (fun X C hr => ?_)
  unfold w_Lc_share at h
  refine q_aload_n (pc := 0) C d_Lc_share_0 rfl 0 rfl ?_
  refine q_get (pc := 1) (c := 0) (ci := 6) (k := 0) (v := .ref (ya Y 1)) C rfl (by decide) (by decide) wd_230 rfl d_Lc_share_1 ?_
  refine q_iload_n (pc := 4) C d_Lc_share_4 rfl 1 rfl ?_
  refine q_callVIr (pc := 5) (st := []) (d := 1) C (m_Ho_hasAppliance hY rfl h) mi_Ho_hasAppliance rfl (by decide) rfl wd_357 rfl rfl (Nat.le_of_ble_eq_true rfl) (by decide) (by decide) d_Lc_share_5 (fun u5 h => ?_)
  obtain ⟨h3, h4⟩ := h
  refine q_if_ne (pc := 8) 13 C d_Lc_share_8 (by decide) (fun hc => ?_) (fun hc => ?_)
  · have h := h3 hc
    refine q_aload_n (pc := 13) C d_Lc_share_13 rfl 0 rfl ?_
    refine q_callVR (pc := 14) (st := []) (d := 0) C (m_Lc_knownBest hY h) mi_Lc_knownBest rfl (by decide) rfl wd_421 rfl rfl (Nat.le_of_ble_eq_true rfl) (by decide) (by decide) d_Lc_share_14 (fun u14 τ14 h => ?_)
    obtain ⟨h1, h⟩ := h
    refine q_get (pc := 17) (c := u14) (ci := 0) (k := 1) (v := .ref (ya Y (u14 + 2))) C h1 (by decide) (by decide) wd_137 rfl d_Lc_share_17 ?_
    refine q_iload_n (pc := 20) C d_Lc_share_20 rfl 1 rfl ?_
    obtain ⟨h2, h⟩ := h
    refine q_iald (pc := 21) (c := (u14 + 2)) C (k0_2 h1) h2 d_Lc_share_21 ?_
    refine q_i2l (pc := 22) C d_Lc_share_22 ?_
    refine q_aload_n (pc := 23) C d_Lc_share_23 rfl 0 rfl ?_
    refine q_get (pc := 24) (c := 0) (ci := 6) (k := 0) (v := .ref (ya Y 1)) C rfl (by decide) (by decide) wd_230 rfl d_Lc_share_24 ?_
    refine q_callVIr (pc := 27) (st := [.long ((τ14 (u14 + 2) x1.toNatClampNeg).toInt64)]) (d := 1) C (m_Ho_allValues hY rfl h) mi_Ho_allValues rfl (by decide) rfl wd_587 rfl rfl (Nat.le_of_ble_eq_true rfl) (by decide) (by decide) d_Lc_share_27 (fun u27 h => ?_)
    refine q_i2l (pc := 30) C d_Lc_share_30 ?_
    refine q_bipush (pc := 31) (v := 23) C d_Lc_share_31 (by decide) ?_
    refine q_bipush (pc := 33) (v := 127) C d_Lc_share_33 (by decide) ?_
    refine q_callSLr (pc := 35) (st := []) C (m_Lc_nearestBits hY h) mi_Lc_nearestBits wd_588 rfl rfl (Nat.le_of_ble_eq_true rfl) (by decide) (by decide) d_Lc_share_35 (fun u35 h => ?_)
    refine q_l2i (pc := 38) C d_Lc_share_38 ?_
    exact q_iret (pc := 39) C hr d_Lc_share_39 h
  have h := h4 hc
  refine q_iconst (pc := 11) (v := -1) C d_Lc_share_11 (by decide) ?_
  exact q_iret (pc := 12) C hr d_Lc_share_12 h
theorem d_Lc_mean_0 : decode prog_1_method_17_code 0 = .ok (.aload_n 0, 1) := by decide +kernel
theorem d_Lc_mean_1 : decode prog_1_method_17_code 1 = .ok (.getfield 12, 3) := by decide +kernel
theorem d_Lc_mean_4 : decode prog_1_method_17_code 4 = .ok (.getfield 157, 3) := by decide +kernel
theorem d_Lc_mean_7 : decode prog_1_method_17_code 7 = .ok (.ifCond .ne 7, 3) := by decide +kernel
theorem d_Lc_mean_10 : decode prog_1_method_17_code 10 = .ok (.ldc2_w 218, 3) := by decide +kernel
theorem d_Lc_mean_13 : decode prog_1_method_17_code 13 = .ok (.lreturn, 1) := by decide +kernel
theorem d_Lc_mean_14 : decode prog_1_method_17_code 14 = .ok (.aload_n 0, 1) := by decide +kernel
theorem d_Lc_mean_15 : decode prog_1_method_17_code 15 = .ok (.getfield 12, 3) := by decide +kernel
theorem d_Lc_mean_18 : decode prog_1_method_17_code 18 = .ok (.invokevirtual 210, 3) := by decide +kernel
theorem d_Lc_mean_21 : decode prog_1_method_17_code 21 = .ok (.i2l, 1) := by decide +kernel
theorem d_Lc_mean_22 : decode prog_1_method_17_code 22 = .ok (.aload_n 0, 1) := by decide +kernel
theorem d_Lc_mean_23 : decode prog_1_method_17_code 23 = .ok (.getfield 12, 3) := by decide +kernel
theorem d_Lc_mean_26 : decode prog_1_method_17_code 26 = .ok (.getfield 157, 3) := by decide +kernel
theorem d_Lc_mean_29 : decode prog_1_method_17_code 29 = .ok (.i2l, 1) := by decide +kernel
theorem d_Lc_mean_30 : decode prog_1_method_17_code 30 = .ok (.bipush 52, 2) := by decide +kernel
theorem d_Lc_mean_32 : decode prog_1_method_17_code 32 = .ok (.sipush 1023, 3) := by decide +kernel
theorem d_Lc_mean_35 : decode prog_1_method_17_code 35 = .ok (.invokestatic 214, 3) := by decide +kernel
theorem d_Lc_mean_38 : decode prog_1_method_17_code 38 = .ok (.lreturn, 1) := by decide +kernel
abbrev y_Lc_mean : MethodName := ⟨"LoadCycles", "mean", "()J"⟩
theorem mi_Lc_mean : miV y_Lc_mean prog_1_method_17_code 1 (some .long) 0 := ⟨wd_593, wd_594, wd_65, wd_595, by decide, by decide, by decide +kernel⟩
def w_Lc_mean  (σ : Sg) (K : Int64 → Prop) : Prop :=
  ((¬ (σ 1 5) = 0 → w_Ho_allValues 1 σ (fun u18 => w_Lc_nearestBits (u18.toInt64) ((σ 1 5).toInt64) (52 : Int32) (1023 : Int32) σ (fun u35 => K u35))) ∧ ((σ 1 5) = 0 → K (-9223372036854775808 : Int64)))
set_option maxHeartbeats 4000000 in
theorem m_Lc_mean {Y : Yx}  {σ : Sg} {K : Int64 → Prop} (hY : YD Y)  (h : w_Lc_mean σ K) : MetL Y y_Lc_mean prog_1_method_17_code 1 1 34 [.ref (ya Y 0)] σ (fun r τ => τ = σ ∧ K r) := by
  refine met_L [(0, .ref (ya Y 0))] hY (by decide) (Nat.le_of_ble_eq_true rfl) rfl (fun X C hr => ?_)
  unfold w_Lc_mean at h
  refine q_aload_n (pc := 0) C d_Lc_mean_0 rfl 0 rfl ?_
  refine q_get (pc := 1) (c := 0) (ci := 6) (k := 0) (v := .ref (ya Y 1)) C rfl (by decide) (by decide) wd_230 rfl d_Lc_mean_1 ?_
  refine q_get (pc := 4) (c := 1) (ci := 2) (k := 5) (v := .int (σ 1 5)) C rfl (by decide) (by decide) wd_107 rfl d_Lc_mean_4 ?_
  obtain ⟨h1, h2⟩ := h
  refine q_if_ne (pc := 7) 14 C d_Lc_mean_7 (by decide) (fun hc => ?_) (fun hc => ?_)
  · have h := h1 hc
    refine q_aload_n (pc := 14) C d_Lc_mean_14 rfl 0 rfl ?_
    refine q_get (pc := 15) (c := 0) (ci := 6) (k := 0) (v := .ref (ya Y 1)) C rfl (by decide) (by decide) wd_230 rfl d_Lc_mean_15 ?_
    refine q_callVIr (pc := 18) (st := []) (d := 1) C (m_Ho_allValues hY rfl h) mi_Ho_allValues rfl (by decide) rfl wd_587 rfl rfl (Nat.le_of_ble_eq_true rfl) (by decide) (by decide) d_Lc_mean_18 (fun u18 h => ?_)
    refine q_i2l (pc := 21) C d_Lc_mean_21 ?_
    refine q_aload_n (pc := 22) C d_Lc_mean_22 rfl 0 rfl ?_
    refine q_get (pc := 23) (c := 0) (ci := 6) (k := 0) (v := .ref (ya Y 1)) C rfl (by decide) (by decide) wd_230 rfl d_Lc_mean_23 ?_
    refine q_get (pc := 26) (c := 1) (ci := 2) (k := 5) (v := .int (σ 1 5)) C rfl (by decide) (by decide) wd_107 rfl d_Lc_mean_26 ?_
    refine q_i2l (pc := 29) C d_Lc_mean_29 ?_
    refine q_bipush (pc := 30) (v := 52) C d_Lc_mean_30 (by decide) ?_
    refine q_sipush (pc := 32) (v := 1023) C d_Lc_mean_32 (by decide) ?_
    refine q_callSLr (pc := 35) (st := []) C (m_Lc_nearestBits hY h) mi_Lc_nearestBits wd_588 rfl rfl (Nat.le_of_ble_eq_true rfl) (by decide) (by decide) d_Lc_mean_35 (fun u35 h => ?_)
    exact q_lret (pc := 38) C hr d_Lc_mean_38 ⟨rfl, h⟩
  have h := h2 hc
  refine q_ldc2 (pc := 10) C wd_596 d_Lc_mean_10 ?_
  exact q_lret (pc := 13) C hr d_Lc_mean_13 ⟨rfl, h⟩
theorem d_Lc_reading_0 : decode prog_1_method_18_code 0 = .ok (.aload_n 0, 1) := by decide +kernel
theorem d_Lc_reading_1 : decode prog_1_method_18_code 1 = .ok (.getfield 12, 3) := by decide +kernel
theorem d_Lc_reading_4 : decode prog_1_method_18_code 4 = .ok (.iload_n 1, 1) := by decide +kernel
theorem d_Lc_reading_5 : decode prog_1_method_18_code 5 = .ok (.invokevirtual 108, 3) := by decide +kernel
theorem d_Lc_reading_8 : decode prog_1_method_18_code 8 = .ok (.ifCond .ne 5, 3) := by decide +kernel
theorem d_Lc_reading_11 : decode prog_1_method_18_code 11 = .ok (.iconst (-1), 1) := by decide +kernel
theorem d_Lc_reading_12 : decode prog_1_method_18_code 12 = .ok (.ireturn, 1) := by decide +kernel
theorem d_Lc_reading_13 : decode prog_1_method_18_code 13 = .ok (.iload_n 2, 1) := by decide +kernel
theorem d_Lc_reading_14 : decode prog_1_method_18_code 14 = .ok (.ifCond .lt 10, 3) := by decide +kernel
theorem d_Lc_reading_17 : decode prog_1_method_18_code 17 = .ok (.iload_n 2, 1) := by decide +kernel
theorem d_Lc_reading_18 : decode prog_1_method_18_code 18 = .ok (.sipush 2000, 3) := by decide +kernel
theorem d_Lc_reading_21 : decode prog_1_method_18_code 21 = .ok (.if_icmp .le 6, 3) := by decide +kernel
theorem d_Lc_reading_24 : decode prog_1_method_18_code 24 = .ok (.bipush (-2), 2) := by decide +kernel
theorem d_Lc_reading_26 : decode prog_1_method_18_code 26 = .ok (.ireturn, 1) := by decide +kernel
theorem d_Lc_reading_27 : decode prog_1_method_18_code 27 = .ok (.aload_n 0, 1) := by decide +kernel
theorem d_Lc_reading_28 : decode prog_1_method_18_code 28 = .ok (.getfield 99, 3) := by decide +kernel
theorem d_Lc_reading_31 : decode prog_1_method_18_code 31 = .ok (.bipush 8, 2) := by decide +kernel
theorem d_Lc_reading_33 : decode prog_1_method_18_code 33 = .ok (.if_icmp .lt 6, 3) := by decide +kernel
theorem d_Lc_reading_36 : decode prog_1_method_18_code 36 = .ok (.bipush (-4), 2) := by decide +kernel
theorem d_Lc_reading_38 : decode prog_1_method_18_code 38 = .ok (.ireturn, 1) := by decide +kernel
theorem d_Lc_reading_39 : decode prog_1_method_18_code 39 = .ok (.aload_n 0, 1) := by decide +kernel
theorem d_Lc_reading_40 : decode prog_1_method_18_code 40 = .ok (.getfield 58, 3) := by decide +kernel
theorem d_Lc_reading_43 : decode prog_1_method_18_code 43 = .ok (.aload_n 0, 1) := by decide +kernel
theorem d_Lc_reading_44 : decode prog_1_method_18_code 44 = .ok (.getfield 99, 3) := by decide +kernel
theorem d_Lc_reading_47 : decode prog_1_method_18_code 47 = .ok (.iload_n 1, 1) := by decide +kernel
theorem d_Lc_reading_48 : decode prog_1_method_18_code 48 = .ok (.iastore, 1) := by decide +kernel
theorem d_Lc_reading_49 : decode prog_1_method_18_code 49 = .ok (.aload_n 0, 1) := by decide +kernel
theorem d_Lc_reading_50 : decode prog_1_method_18_code 50 = .ok (.getfield 62, 3) := by decide +kernel
theorem d_Lc_reading_53 : decode prog_1_method_18_code 53 = .ok (.aload_n 0, 1) := by decide +kernel
theorem d_Lc_reading_54 : decode prog_1_method_18_code 54 = .ok (.getfield 99, 3) := by decide +kernel
theorem d_Lc_reading_57 : decode prog_1_method_18_code 57 = .ok (.iload_n 2, 1) := by decide +kernel
theorem d_Lc_reading_58 : decode prog_1_method_18_code 58 = .ok (.iastore, 1) := by decide +kernel
theorem d_Lc_reading_59 : decode prog_1_method_18_code 59 = .ok (.aload_n 0, 1) := by decide +kernel
theorem d_Lc_reading_60 : decode prog_1_method_18_code 60 = .ok (.dup, 1) := by decide +kernel
theorem d_Lc_reading_61 : decode prog_1_method_18_code 61 = .ok (.getfield 99, 3) := by decide +kernel
theorem d_Lc_reading_64 : decode prog_1_method_18_code 64 = .ok (.iconst 1, 1) := by decide +kernel
theorem d_Lc_reading_65 : decode prog_1_method_18_code 65 = .ok (.iadd, 1) := by decide +kernel
theorem d_Lc_reading_66 : decode prog_1_method_18_code 66 = .ok (.putfield 99, 3) := by decide +kernel
theorem d_Lc_reading_69 : decode prog_1_method_18_code 69 = .ok (.aload_n 0, 1) := by decide +kernel
theorem d_Lc_reading_70 : decode prog_1_method_18_code 70 = .ok (.getfield 99, 3) := by decide +kernel
theorem d_Lc_reading_73 : decode prog_1_method_18_code 73 = .ok (.iconst 1, 1) := by decide +kernel
theorem d_Lc_reading_74 : decode prog_1_method_18_code 74 = .ok (.isub, 1) := by decide +kernel
theorem d_Lc_reading_75 : decode prog_1_method_18_code 75 = .ok (.ireturn, 1) := by decide +kernel
abbrev y_Lc_reading : MethodName := ⟨"LoadCycles", "reading", "(II)I"⟩
theorem mi_Lc_reading : miV y_Lc_reading prog_1_method_18_code 3 (some .int) 2 := ⟨wd_598, wd_599, wd_65, wd_600, by decide, by decide, by decide +kernel⟩
def w_Lc_reading (x1 : Int32) (x2 : Int32) (σ : Sg) (K : Int32 → Sg → Prop) : Prop :=
  w_Ho_hasAppliance 1 x1 σ (fun u5 => ((¬ u5 = 0 → ((x2 < 0 → K (-2 : Int32) σ) ∧ (¬ x2 < 0 → ((x2 ≤ (2000 : Int32) → (((σ 0 10) < (8 : Int32) → (vp_in (σ 0 10) 8 ∧ (∀ τ48 : Sg, τ48 = s2 σ 41 (σ 0 10).toNatClampNeg x1 → (vp_in (τ48 0 10) 8 ∧ (∀ τ58 : Sg, τ58 = s2 τ48 42 (τ48 0 10).toNatClampNeg x2 → (∀ τ66 : Sg, τ66 = s2 τ58 0 10 ((τ58 0 10) + (1 : Int32)) → K ((τ66 0 10) - (1 : Int32)) τ66)))))) ∧ (¬ (σ 0 10) < (8 : Int32) → K (-4 : Int32) σ))) ∧ (¬ x2 ≤ (2000 : Int32) → K (-2 : Int32) σ))))) ∧ (u5 = 0 → K (-1 : Int32) σ)))
set_option maxHeartbeats 4000000 in
theorem m_Lc_reading {Y : Yx} {x1 : Int32} {x2 : Int32} {σ : Sg} {K : Int32 → Sg → Prop} (hY : YD Y)  (h : w_Lc_reading x1 x2 σ K) : MetI Y y_Lc_reading prog_1_method_18_code 3 (.int) 1 21 [.ref (ya Y 0), .int x1, .int x2] σ K := by
  refine met_I [(0, .ref (ya Y 0)), (1, .int x1), (2, .int x2)] hY (by decide) (Nat.le_of_ble_eq_true rfl) rfl (fun X C hr => ?_)
  unfold w_Lc_reading at h
  refine q_aload_n (pc := 0) C d_Lc_reading_0 rfl 0 rfl ?_
  refine q_get (pc := 1) (c := 0) (ci := 6) (k := 0) (v := .ref (ya Y 1)) C rfl (by decide) (by decide) wd_230 rfl d_Lc_reading_1 ?_
  refine q_iload_n (pc := 4) C d_Lc_reading_4 rfl 1 rfl ?_
  refine q_callVIr (pc := 5) (st := []) (d := 1) C (m_Ho_hasAppliance hY rfl h) mi_Ho_hasAppliance rfl (by decide) rfl wd_357 rfl rfl (Nat.le_of_ble_eq_true rfl) (by decide) (by decide) d_Lc_reading_5 (fun u5 h => ?_)
  obtain ⟨h9, h10⟩ := h
  refine q_if_ne (pc := 8) 13 C d_Lc_reading_8 (by decide) (fun hc => ?_) (fun hc => ?_)
  · have h := h9 hc
    refine q_iload_n (pc := 13) C d_Lc_reading_13 rfl 2 rfl ?_
    obtain ⟨h7, h8⟩ := h
    refine q_if_lt (pc := 14) 24 C d_Lc_reading_14 (by decide) (fun hc => ?_) (fun hc => ?_)
    · have h := h7 hc
      refine q_bipush (pc := 24) (v := -2) C d_Lc_reading_24 (by decide) ?_
      exact q_iret (pc := 26) C hr d_Lc_reading_26 h
    have h := h8 hc
    refine q_iload_n (pc := 17) C d_Lc_reading_17 rfl 2 rfl ?_
    refine q_sipush (pc := 18) (v := 2000) C d_Lc_reading_18 (by decide) ?_
    obtain ⟨h5, h6⟩ := h
    refine q_icmp_le (pc := 21) 27 C d_Lc_reading_21 (by decide) (fun hc => ?_) (fun hc => ?_)
    · have h := h5 hc
      refine q_aload_n (pc := 27) C d_Lc_reading_27 rfl 0 rfl ?_
      refine q_get (pc := 28) (c := 0) (ci := 6) (k := 10) (v := .int (σ 0 10)) C rfl (by decide) (by decide) wd_240 rfl d_Lc_reading_28 ?_
      refine q_bipush (pc := 31) (v := 8) C d_Lc_reading_31 (by decide) ?_
      obtain ⟨h3, h4⟩ := h
      refine q_icmp_lt (pc := 33) 39 C d_Lc_reading_33 (by decide) (fun hc => ?_) (fun hc => ?_)
      · have h := h3 hc
        refine q_aload_n (pc := 39) C d_Lc_reading_39 rfl 0 rfl ?_
        refine q_get (pc := 40) (c := 0) (ci := 6) (k := 8) (v := .ref (ya Y 41)) C rfl (by decide) (by decide) wd_238 rfl d_Lc_reading_40 ?_
        refine q_aload_n (pc := 43) C d_Lc_reading_43 rfl 0 rfl ?_
        refine q_get (pc := 44) (c := 0) (ci := 6) (k := 10) (v := .int (σ 0 10)) C rfl (by decide) (by decide) wd_240 rfl d_Lc_reading_44 ?_
        refine q_iload_n (pc := 47) C d_Lc_reading_47 rfl 1 rfl ?_
        obtain ⟨h1, h⟩ := h
        refine q_iast (pc := 48) (c := 41) C ⟨rfl, rfl⟩ h1 d_Lc_reading_48 ?_
        refine q_nms (fun τ48 eτ48 => ?_)
        replace h := h τ48 eτ48
        refine q_aload_n (pc := 49) C d_Lc_reading_49 rfl 0 rfl ?_
        refine q_get (pc := 50) (c := 0) (ci := 6) (k := 9) (v := .ref (ya Y 42)) C rfl (by decide) (by decide) wd_239 rfl d_Lc_reading_50 ?_
        refine q_aload_n (pc := 53) C d_Lc_reading_53 rfl 0 rfl ?_
        refine q_get (pc := 54) (c := 0) (ci := 6) (k := 10) (v := .int (τ48 0 10)) C rfl (by decide) (by decide) wd_240 rfl d_Lc_reading_54 ?_
        refine q_iload_n (pc := 57) C d_Lc_reading_57 rfl 2 rfl ?_
        obtain ⟨h2, h⟩ := h
        refine q_iast (pc := 58) (c := 42) C ⟨rfl, rfl⟩ h2 d_Lc_reading_58 ?_
        refine q_nms (fun τ58 eτ58 => ?_)
        replace h := h τ58 eτ58
        refine q_aload_n (pc := 59) C d_Lc_reading_59 rfl 0 rfl ?_
        refine q_dup (pc := 60) C d_Lc_reading_60 rfl ?_
        refine q_get (pc := 61) (c := 0) (ci := 6) (k := 10) (v := .int (τ58 0 10)) C rfl (by decide) (by decide) wd_240 rfl d_Lc_reading_61 ?_
        refine q_iconst (pc := 64) (v := 1) C d_Lc_reading_64 (by decide) ?_
        refine q_iadd (pc := 65) C d_Lc_reading_65 ?_
        refine q_put (pc := 66) (c := 0) (ci := 6) (k := 10) C rfl (by decide) (by decide) wd_240 rfl rfl rfl fs_6_10 d_Lc_reading_66 ?_
        refine q_nms (fun τ66 eτ66 => ?_)
        replace h := h τ66 eτ66
        refine q_aload_n (pc := 69) C d_Lc_reading_69 rfl 0 rfl ?_
        refine q_get (pc := 70) (c := 0) (ci := 6) (k := 10) (v := .int (τ66 0 10)) C rfl (by decide) (by decide) wd_240 rfl d_Lc_reading_70 ?_
        refine q_iconst (pc := 73) (v := 1) C d_Lc_reading_73 (by decide) ?_
        refine q_isub (pc := 74) C d_Lc_reading_74 ?_
        exact q_iret (pc := 75) C hr d_Lc_reading_75 h
      have h := h4 hc
      refine q_bipush (pc := 36) (v := -4) C d_Lc_reading_36 (by decide) ?_
      exact q_iret (pc := 38) C hr d_Lc_reading_38 h
    have h := h6 hc
    refine q_bipush (pc := 24) (v := -2) C d_Lc_reading_24 (by decide) ?_
    exact q_iret (pc := 26) C hr d_Lc_reading_26 h
  have h := h10 hc
  refine q_iconst (pc := 11) (v := -1) C d_Lc_reading_11 (by decide) ?_
  exact q_iret (pc := 12) C hr d_Lc_reading_12 h
theorem d_Lc_back_0 : decode prog_1_method_19_code 0 = .ok (.iload_n 1, 1) := by decide +kernel
theorem d_Lc_back_1 : decode prog_1_method_19_code 1 = .ok (.ifCond .lt 11, 3) := by decide +kernel
theorem d_Lc_back_4 : decode prog_1_method_19_code 4 = .ok (.iload_n 1, 1) := by decide +kernel
theorem d_Lc_back_5 : decode prog_1_method_19_code 5 = .ok (.aload_n 0, 1) := by decide +kernel
theorem d_Lc_back_6 : decode prog_1_method_19_code 6 = .ok (.getfield 99, 3) := by decide +kernel
theorem d_Lc_back_9 : decode prog_1_method_19_code 9 = .ok (.if_icmp .le 6, 3) := by decide +kernel
theorem d_Lc_back_12 : decode prog_1_method_19_code 12 = .ok (.bipush (-2), 2) := by decide +kernel
theorem d_Lc_back_14 : decode prog_1_method_19_code 14 = .ok (.ireturn, 1) := by decide +kernel
theorem d_Lc_back_15 : decode prog_1_method_19_code 15 = .ok (.aload_n 0, 1) := by decide +kernel
theorem d_Lc_back_16 : decode prog_1_method_19_code 16 = .ok (.dup, 1) := by decide +kernel
theorem d_Lc_back_17 : decode prog_1_method_19_code 17 = .ok (.getfield 99, 3) := by decide +kernel
theorem d_Lc_back_20 : decode prog_1_method_19_code 20 = .ok (.iload_n 1, 1) := by decide +kernel
theorem d_Lc_back_21 : decode prog_1_method_19_code 21 = .ok (.isub, 1) := by decide +kernel
theorem d_Lc_back_22 : decode prog_1_method_19_code 22 = .ok (.putfield 99, 3) := by decide +kernel
theorem d_Lc_back_25 : decode prog_1_method_19_code 25 = .ok (.aload_n 0, 1) := by decide +kernel
theorem d_Lc_back_26 : decode prog_1_method_19_code 26 = .ok (.getfield 99, 3) := by decide +kernel
theorem d_Lc_back_29 : decode prog_1_method_19_code 29 = .ok (.ireturn, 1) := by decide +kernel
abbrev y_Lc_back : MethodName := ⟨"LoadCycles", "back", "(I)I"⟩
theorem mi_Lc_back : miV y_Lc_back prog_1_method_19_code 2 (some .int) 1 := ⟨wd_602, wd_603, wd_65, wd_604, by decide, by decide, by decide +kernel⟩
def w_Lc_back (x1 : Int32) (σ : Sg) (K : Int32 → Sg → Prop) : Prop :=
  ((x1 < 0 → K (-2 : Int32) σ) ∧ (¬ x1 < 0 → ((x1 ≤ (σ 0 10) → (∀ τ22 : Sg, τ22 = s2 σ 0 10 ((σ 0 10) - x1) → K (τ22 0 10) τ22)) ∧ (¬ x1 ≤ (σ 0 10) → K (-2 : Int32) σ))))
set_option maxHeartbeats 4000000 in
theorem m_Lc_back {Y : Yx} {x1 : Int32} {σ : Sg} {K : Int32 → Sg → Prop} (hY : YD Y)  (h : w_Lc_back x1 σ K) : MetI Y y_Lc_back prog_1_method_19_code 2 (.int) 0 0 [.ref (ya Y 0), .int x1] σ K := by
  refine met_I [(0, .ref (ya Y 0)), (1, .int x1)] hY (by decide) (Nat.le_of_ble_eq_true rfl) rfl (fun X C hr => ?_)
  unfold w_Lc_back at h
  refine q_iload_n (pc := 0) C d_Lc_back_0 rfl 1 rfl ?_
  obtain ⟨h3, h4⟩ := h
  refine q_if_lt (pc := 1) 12 C d_Lc_back_1 (by decide) (fun hc => ?_) (fun hc => ?_)
  · have h := h3 hc
    refine q_bipush (pc := 12) (v := -2) C d_Lc_back_12 (by decide) ?_
    exact q_iret (pc := 14) C hr d_Lc_back_14 h
  have h := h4 hc
  refine q_iload_n (pc := 4) C d_Lc_back_4 rfl 1 rfl ?_
  refine q_aload_n (pc := 5) C d_Lc_back_5 rfl 0 rfl ?_
  refine q_get (pc := 6) (c := 0) (ci := 6) (k := 10) (v := .int (σ 0 10)) C rfl (by decide) (by decide) wd_240 rfl d_Lc_back_6 ?_
  obtain ⟨h1, h2⟩ := h
  refine q_icmp_le (pc := 9) 15 C d_Lc_back_9 (by decide) (fun hc => ?_) (fun hc => ?_)
  · have h := h1 hc
    refine q_aload_n (pc := 15) C d_Lc_back_15 rfl 0 rfl ?_
    refine q_dup (pc := 16) C d_Lc_back_16 rfl ?_
    refine q_get (pc := 17) (c := 0) (ci := 6) (k := 10) (v := .int (σ 0 10)) C rfl (by decide) (by decide) wd_240 rfl d_Lc_back_17 ?_
    refine q_iload_n (pc := 20) C d_Lc_back_20 rfl 1 rfl ?_
    refine q_isub (pc := 21) C d_Lc_back_21 ?_
    refine q_put (pc := 22) (c := 0) (ci := 6) (k := 10) C rfl (by decide) (by decide) wd_240 rfl rfl rfl fs_6_10 d_Lc_back_22 ?_
    refine q_nms (fun τ22 eτ22 => ?_)
    replace h := h τ22 eτ22
    refine q_aload_n (pc := 25) C d_Lc_back_25 rfl 0 rfl ?_
    refine q_get (pc := 26) (c := 0) (ci := 6) (k := 10) (v := .int (τ22 0 10)) C rfl (by decide) (by decide) wd_240 rfl d_Lc_back_26 ?_
    exact q_iret (pc := 29) C hr d_Lc_back_29 h
  have h := h2 hc
  refine q_bipush (pc := 12) (v := -2) C d_Lc_back_12 (by decide) ?_
  exact q_iret (pc := 14) C hr d_Lc_back_14 h
theorem d_Gu_isKnown_0 : decode prog_3_method_3_code 0 = .ok (.aload_n 0, 1) := by decide +kernel
theorem d_Gu_isKnown_1 : decode prog_3_method_3_code 1 = .ok (.getfield 11, 3) := by decide +kernel
theorem d_Gu_isKnown_4 : decode prog_3_method_3_code 4 = .ok (.iload_n 1, 1) := by decide +kernel
theorem d_Gu_isKnown_5 : decode prog_3_method_3_code 5 = .ok (.bipush 12, 2) := by decide +kernel
theorem d_Gu_isKnown_7 : decode prog_3_method_3_code 7 = .ok (.imul, 1) := by decide +kernel
theorem d_Gu_isKnown_8 : decode prog_3_method_3_code 8 = .ok (.iload_n 2, 1) := by decide +kernel
theorem d_Gu_isKnown_9 : decode prog_3_method_3_code 9 = .ok (.iadd, 1) := by decide +kernel
theorem d_Gu_isKnown_10 : decode prog_3_method_3_code 10 = .ok (.baload, 1) := by decide +kernel
theorem d_Gu_isKnown_11 : decode prog_3_method_3_code 11 = .ok (.ireturn, 1) := by decide +kernel
abbrev y_Gu_isKnown : MethodName := ⟨"LoadCycles$Guesses", "isKnown", "(II)Z"⟩
theorem mi_Gu_isKnown : miV y_Gu_isKnown prog_3_method_3_code 3 (some .boolean) 2 := ⟨wd_614, wd_615, wd_70, wd_616, by decide, by decide, by decide +kernel⟩
def w_Gu_isKnown (x1 : Int32) (x2 : Int32) (σ : Sg) (K : Int32 → Prop) : Prop :=
  (vp_in ((x1 * (12 : Int32)) + x2) 48 ∧ (bz (σ 30 ((x1 * (12 : Int32)) + x2).toNatClampNeg) ∧ K (σ 30 ((x1 * (12 : Int32)) + x2).toNatClampNeg)))
set_option maxHeartbeats 4000000 in
theorem m_Gu_isKnown {Y : Yx} {x1 : Int32} {x2 : Int32} {σ : Sg} {K : Int32 → Prop} (hY : YD Y)  (h : w_Gu_isKnown x1 x2 σ K) : MetI Y y_Gu_isKnown prog_3_method_3_code 3 (.boolean) 0 0 [.ref (ya Y 29), .int x1, .int x2] σ (fun r τ => τ = σ ∧ K r) := by
  refine met_I [(0, .ref (ya Y 29)), (1, .int x1), (2, .int x2)] hY (by decide) (Nat.le_of_ble_eq_true rfl) rfl (fun X C hr => ?_)
  unfold w_Gu_isKnown at h
  refine q_aload_n (pc := 0) C d_Gu_isKnown_0 rfl 0 rfl ?_
  refine q_get (pc := 1) (c := 29) (ci := 1) (k := 0) (v := .ref (ya Y 30)) C rfl (by decide) (by decide) wd_202 rfl d_Gu_isKnown_1 ?_
  refine q_iload_n (pc := 4) C d_Gu_isKnown_4 rfl 1 rfl ?_
  refine q_bipush (pc := 5) (v := 12) C d_Gu_isKnown_5 (by decide) ?_
  refine q_imul (pc := 7) C d_Gu_isKnown_7 ?_
  refine q_iload_n (pc := 8) C d_Gu_isKnown_8 rfl 2 rfl ?_
  refine q_iadd (pc := 9) C d_Gu_isKnown_9 ?_
  obtain ⟨h1, h⟩ := h
  refine q_zald (pc := 10) (c := 30) C ⟨rfl, rfl⟩ h1 d_Gu_isKnown_10 ?_
  obtain ⟨h2, h⟩ := h
  exact q_zret (pc := 11) C hr d_Gu_isKnown_11 h2 ⟨rfl, h⟩
theorem d_Lc_unmixGuess_0 : decode prog_1_method_49_code 0 = .ok (.aload_n 0, 1) := by decide +kernel
theorem d_Lc_unmixGuess_1 : decode prog_1_method_49_code 1 = .ok (.getfield 18, 3) := by decide +kernel
theorem d_Lc_unmixGuess_4 : decode prog_1_method_49_code 4 = .ok (.aload_n 0, 1) := by decide +kernel
theorem d_Lc_unmixGuess_5 : decode prog_1_method_49_code 5 = .ok (.getfield 12, 3) := by decide +kernel
theorem d_Lc_unmixGuess_8 : decode prog_1_method_49_code 8 = .ok (.invokevirtual 95, 3) := by decide +kernel
theorem d_Lc_unmixGuess_11 : decode prog_1_method_49_code 11 = .ok (.iload_n 2, 1) := by decide +kernel
theorem d_Lc_unmixGuess_12 : decode prog_1_method_49_code 12 = .ok (.iconst 3, 1) := by decide +kernel
theorem d_Lc_unmixGuess_13 : decode prog_1_method_49_code 13 = .ok (.if_icmp .ge 16, 3) := by decide +kernel
theorem d_Lc_unmixGuess_16 : decode prog_1_method_49_code 16 = .ok (.aload_n 0, 1) := by decide +kernel
theorem d_Lc_unmixGuess_17 : decode prog_1_method_49_code 17 = .ok (.getfield 18, 3) := by decide +kernel
theorem d_Lc_unmixGuess_20 : decode prog_1_method_49_code 20 = .ok (.getfield 111, 3) := by decide +kernel
theorem d_Lc_unmixGuess_23 : decode prog_1_method_49_code 23 = .ok (.iload_n 1, 1) := by decide +kernel
theorem d_Lc_unmixGuess_24 : decode prog_1_method_49_code 24 = .ok (.iload_n 2, 1) := by decide +kernel
theorem d_Lc_unmixGuess_25 : decode prog_1_method_49_code 25 = .ok (.iastore, 1) := by decide +kernel
theorem d_Lc_unmixGuess_26 : decode prog_1_method_49_code 26 = .ok (.goto 17, 3) := by decide +kernel
theorem d_Lc_unmixGuess_29 : decode prog_1_method_49_code 29 = .ok (.aload_n 0, 1) := by decide +kernel
theorem d_Lc_unmixGuess_30 : decode prog_1_method_49_code 30 = .ok (.getfield 18, 3) := by decide +kernel
theorem d_Lc_unmixGuess_33 : decode prog_1_method_49_code 33 = .ok (.iload_n 1, 1) := by decide +kernel
theorem d_Lc_unmixGuess_34 : decode prog_1_method_49_code 34 = .ok (.iconst 0, 1) := by decide +kernel
theorem d_Lc_unmixGuess_35 : decode prog_1_method_49_code 35 = .ok (.iload_n 2, 1) := by decide +kernel
theorem d_Lc_unmixGuess_36 : decode prog_1_method_49_code 36 = .ok (.iconst 3, 1) := by decide +kernel
theorem d_Lc_unmixGuess_37 : decode prog_1_method_49_code 37 = .ok (.isub, 1) := by decide +kernel
theorem d_Lc_unmixGuess_38 : decode prog_1_method_49_code 38 = .ok (.iconst 1, 1) := by decide +kernel
theorem d_Lc_unmixGuess_39 : decode prog_1_method_49_code 39 = .ok (.iadd, 1) := by decide +kernel
theorem d_Lc_unmixGuess_40 : decode prog_1_method_49_code 40 = .ok (.invokevirtual 130, 3) := by decide +kernel
theorem d_Lc_unmixGuess_43 : decode prog_1_method_49_code 43 = .ok (.aload_n 0, 1) := by decide +kernel
theorem d_Lc_unmixGuess_44 : decode prog_1_method_49_code 44 = .ok (.getfield 34, 3) := by decide +kernel
theorem d_Lc_unmixGuess_47 : decode prog_1_method_49_code 47 = .ok (.aload_n 0, 1) := by decide +kernel
theorem d_Lc_unmixGuess_48 : decode prog_1_method_49_code 48 = .ok (.getfield 18, 3) := by decide +kernel
theorem d_Lc_unmixGuess_51 : decode prog_1_method_49_code 51 = .ok (.aload_n 0, 1) := by decide +kernel
theorem d_Lc_unmixGuess_52 : decode prog_1_method_49_code 52 = .ok (.getfield 28, 3) := by decide +kernel
theorem d_Lc_unmixGuess_55 : decode prog_1_method_49_code 55 = .ok (.invokevirtual 270, 3) := by decide +kernel
theorem d_Lc_unmixGuess_58 : decode prog_1_method_49_code 58 = .ok (.return_, 1) := by decide +kernel
abbrev y_Lc_unmixGuess : MethodName := ⟨"LoadCycles", "unmixGuess", "(II)V"⟩
theorem mi_Lc_unmixGuess : miV y_Lc_unmixGuess prog_1_method_49_code 3 none 2 := ⟨wd_619, wd_23, wd_65, wd_620, by decide, by decide, by decide +kernel⟩
def B_Lc_unmixGuess_43 (x1 : Int32) (x2 : Int32) (K : Sg → Prop)  (σ : Sg) : Prop :=
  w_Un_unmix 6 19 σ (fun τ55 => K τ55)
theorem t_Lc_unmixGuess_43 {X : Bx} {Y : Yx} {x1 : Int32} {x2 : Int32} {K : Sg → Prop}  (hY : YD Y) (C : Cx X Y prog_1_method_49_code 3 "LoadCycles" 4 111) (hr : (xh X).sig.returnType = none)   {σ : Sg} (h : B_Lc_unmixGuess_43 x1 x2 K σ) : St X Y 3 (QV X Y K) 43 [(0, .ref (ya Y 0))] [] σ := by
  unfold B_Lc_unmixGuess_43 at h
  refine q_aload_n (pc := 43) C d_Lc_unmixGuess_43 rfl 0 rfl ?_
  refine q_get (pc := 44) (c := 0) (ci := 6) (k := 4) (v := .ref (ya Y 22)) C rfl (by decide) (by decide) wd_234 rfl d_Lc_unmixGuess_44 ?_
  refine q_aload_n (pc := 47) C d_Lc_unmixGuess_47 rfl 0 rfl ?_
  refine q_get (pc := 48) (c := 0) (ci := 6) (k := 1) (v := .ref (ya Y 6)) C rfl (by decide) (by decide) wd_231 rfl d_Lc_unmixGuess_48 ?_
  refine q_aload_n (pc := 51) C d_Lc_unmixGuess_51 rfl 0 rfl ?_
  refine q_get (pc := 52) (c := 0) (ci := 6) (k := 3) (v := .ref (ya Y 19)) C rfl (by decide) (by decide) wd_233 rfl d_Lc_unmixGuess_52 ?_
  refine q_callVV (pc := 55) (st := []) (d := 22) C (m_Un_unmix hY rfl rfl h) mi_Un_unmix rfl (by decide) rfl wd_425 rfl rfl (Nat.le_of_ble_eq_true rfl) (by decide) (by decide) d_Lc_unmixGuess_55 (fun τ55 h => ?_)
  exact q_vret (pc := 58) C hr d_Lc_unmixGuess_58 h
def w_Lc_unmixGuess (x1 : Int32) (x2 : Int32) (σ : Sg) (K : Sg → Prop) : Prop :=
  w_Ho_become 6 1 σ (fun τ8 => (((3 : Int32) ≤ x2 → w_Ho_setLevel 6 x1 (0 : Int32) ((x2 - (3 : Int32)) + (1 : Int32)) τ8 (fun τ40 => B_Lc_unmixGuess_43 x1 x2 K τ40)) ∧ (¬ (3 : Int32) ≤ x2 → (vp_in x1 4 ∧ (∀ τ25 : Sg, τ25 = s2 τ8 7 x1.toNatClampNeg x2 → B_Lc_unmixGuess_43 x1 x2 K τ25)))))
set_option maxHeartbeats 4000000 in
theorem m_Lc_unmixGuess {Y : Yx} {x1 : Int32} {x2 : Int32} {σ : Sg} {K : Sg → Prop} (hY : YD Y)  (h : w_Lc_unmixGuess x1 x2 σ K) : MetV Y y_Lc_unmixGuess prog_1_method_49_code 3 4 111 [.ref (ya Y 0), .int x1, .int x2] σ K := by
  refine met_V [(0, .ref (ya Y 0)), (1, .int x1), (2, .int x2)] hY (by decide) (Nat.le_of_ble_eq_true rfl) rfl (fun X C hr => ?_)
  unfold w_Lc_unmixGuess at h
  refine q_aload_n (pc := 0) C d_Lc_unmixGuess_0 rfl 0 rfl ?_
  refine q_get (pc := 1) (c := 0) (ci := 6) (k := 1) (v := .ref (ya Y 6)) C rfl (by decide) (by decide) wd_231 rfl d_Lc_unmixGuess_1 ?_
  refine q_aload_n (pc := 4) C d_Lc_unmixGuess_4 rfl 0 rfl ?_
  refine q_get (pc := 5) (c := 0) (ci := 6) (k := 0) (v := .ref (ya Y 1)) C rfl (by decide) (by decide) wd_230 rfl d_Lc_unmixGuess_5 ?_
  refine q_callVV (pc := 8) (st := []) (d := 6) C (m_Ho_become hY rfl rfl h) mi_Ho_become rfl (by decide) rfl wd_338 rfl rfl (Nat.le_of_ble_eq_true rfl) (by decide) (by decide) d_Lc_unmixGuess_8 (fun τ8 h => ?_)
  refine q_iload_n (pc := 11) C d_Lc_unmixGuess_11 rfl 2 rfl ?_
  refine q_iconst (pc := 12) (v := 3) C d_Lc_unmixGuess_12 (by decide) ?_
  obtain ⟨h2, h3⟩ := h
  refine q_icmp_ge (pc := 13) 29 C d_Lc_unmixGuess_13 (by decide) (fun hc => ?_) (fun hc => ?_)
  · have h := h2 hc
    refine q_aload_n (pc := 29) C d_Lc_unmixGuess_29 rfl 0 rfl ?_
    refine q_get (pc := 30) (c := 0) (ci := 6) (k := 1) (v := .ref (ya Y 6)) C rfl (by decide) (by decide) wd_231 rfl d_Lc_unmixGuess_30 ?_
    refine q_iload_n (pc := 33) C d_Lc_unmixGuess_33 rfl 1 rfl ?_
    refine q_iconst (pc := 34) (v := 0) C d_Lc_unmixGuess_34 (by decide) ?_
    refine q_iload_n (pc := 35) C d_Lc_unmixGuess_35 rfl 2 rfl ?_
    refine q_iconst (pc := 36) (v := 3) C d_Lc_unmixGuess_36 (by decide) ?_
    refine q_isub (pc := 37) C d_Lc_unmixGuess_37 ?_
    refine q_iconst (pc := 38) (v := 1) C d_Lc_unmixGuess_38 (by decide) ?_
    refine q_iadd (pc := 39) C d_Lc_unmixGuess_39 ?_
    refine q_callVV (pc := 40) (st := []) (d := 6) C (m_Ho_setLevel hY rfl h) mi_Ho_setLevel rfl (by decide) rfl wd_382 rfl rfl (Nat.le_of_ble_eq_true rfl) (by decide) (by decide) d_Lc_unmixGuess_40 (fun τ40 h => ?_)
    refine q_sub [(0, .ref (ya Y 0))] [0] rfl ?_
    exact t_Lc_unmixGuess_43 hY C hr h
  have h := h3 hc
  refine q_aload_n (pc := 16) C d_Lc_unmixGuess_16 rfl 0 rfl ?_
  refine q_get (pc := 17) (c := 0) (ci := 6) (k := 1) (v := .ref (ya Y 6)) C rfl (by decide) (by decide) wd_231 rfl d_Lc_unmixGuess_17 ?_
  refine q_get (pc := 20) (c := 6) (ci := 2) (k := 0) (v := .ref (ya Y 7)) C rfl (by decide) (by decide) wd_92 rfl d_Lc_unmixGuess_20 ?_
  refine q_iload_n (pc := 23) C d_Lc_unmixGuess_23 rfl 1 rfl ?_
  refine q_iload_n (pc := 24) C d_Lc_unmixGuess_24 rfl 2 rfl ?_
  obtain ⟨h1, h⟩ := h
  refine q_iast (pc := 25) (c := 7) C ⟨rfl, rfl⟩ h1 d_Lc_unmixGuess_25 ?_
  refine q_nms (fun τ25 eτ25 => ?_)
  replace h := h τ25 eτ25
  refine q_goto (pc := 26) 43 C d_Lc_unmixGuess_26 (by decide) ?_
  refine q_sub [(0, .ref (ya Y 0))] [0] rfl ?_
  exact t_Lc_unmixGuess_43 hY C hr h
theorem d_Gu_keep_0 : decode prog_3_method_5_code 0 = .ok (.iload_n 1, 1) := by decide +kernel
theorem d_Gu_keep_1 : decode prog_3_method_5_code 1 = .ok (.bipush 12, 2) := by decide +kernel
theorem d_Gu_keep_3 : decode prog_3_method_5_code 3 = .ok (.imul, 1) := by decide +kernel
theorem d_Gu_keep_4 : decode prog_3_method_5_code 4 = .ok (.iload_n 2, 1) := by decide +kernel
theorem d_Gu_keep_5 : decode prog_3_method_5_code 5 = .ok (.iadd, 1) := by decide +kernel
theorem d_Gu_keep_6 : decode prog_3_method_5_code 6 = .ok (.istore 4, 2) := by decide +kernel
theorem d_Gu_keep_8 : decode prog_3_method_5_code 8 = .ok (.aload_n 0, 1) := by decide +kernel
theorem d_Gu_keep_9 : decode prog_3_method_5_code 9 = .ok (.getfield 11, 3) := by decide +kernel
theorem d_Gu_keep_12 : decode prog_3_method_5_code 12 = .ok (.iload 4, 2) := by decide +kernel
theorem d_Gu_keep_14 : decode prog_3_method_5_code 14 = .ok (.iconst 1, 1) := by decide +kernel
theorem d_Gu_keep_15 : decode prog_3_method_5_code 15 = .ok (.bastore, 1) := by decide +kernel
theorem d_Gu_keep_16 : decode prog_3_method_5_code 16 = .ok (.aload_n 3, 1) := by decide +kernel
theorem d_Gu_keep_17 : decode prog_3_method_5_code 17 = .ok (.getfield 19, 3) := by decide +kernel
theorem d_Gu_keep_20 : decode prog_3_method_5_code 20 = .ok (.iconst 0, 1) := by decide +kernel
theorem d_Gu_keep_21 : decode prog_3_method_5_code 21 = .ok (.aload_n 0, 1) := by decide +kernel
theorem d_Gu_keep_22 : decode prog_3_method_5_code 22 = .ok (.getfield 15, 3) := by decide +kernel
theorem d_Gu_keep_25 : decode prog_3_method_5_code 25 = .ok (.iload 4, 2) := by decide +kernel
theorem d_Gu_keep_27 : decode prog_3_method_5_code 27 = .ok (.iconst 4, 1) := by decide +kernel
theorem d_Gu_keep_28 : decode prog_3_method_5_code 28 = .ok (.imul, 1) := by decide +kernel
theorem d_Gu_keep_29 : decode prog_3_method_5_code 29 = .ok (.iconst 4, 1) := by decide +kernel
theorem d_Gu_keep_30 : decode prog_3_method_5_code 30 = .ok (.invokestatic 22, 3) := by decide +kernel
theorem d_Gu_keep_33 : decode prog_3_method_5_code 33 = .ok (.return_, 1) := by decide +kernel
abbrev y_Gu_keep : MethodName := ⟨"LoadCycles$Guesses", "keep", "(IILLoadCycles$Doing;)V"⟩
theorem mi_Gu_keep : miV y_Gu_keep prog_3_method_5_code 5 none 3 := ⟨wd_622, wd_623, wd_70, wd_624, by decide, by decide, by decide +kernel⟩
def w_Gu_keep (x1 : Int32) (x2 : Int32) (o3 : Nat) (σ : Sg) (K : Sg → Prop) : Prop :=
  (∀ y4_6 : Int32, y4_6 = ((x1 * (12 : Int32)) + x2) → (vp_in y4_6 48 ∧ (∀ τ15 : Sg, τ15 = s2 σ 30 y4_6.toNatClampNeg (1 : Int32) → (cpk (0 : Int32) (y4_6 * (4 : Int32)) (4 : Int32) 4 192 ∧ (∀ τ30 : Sg, τ30 = s1 τ15 31 (va_cpy (τ15 (o3 + 2)) (τ15 31) (0 : Int32).toNatClampNeg (y4_6 * (4 : Int32)).toNatClampNeg (4 : Int32).toNatClampNeg) → K τ30)))))
set_option maxHeartbeats 4000000 in
theorem m_Gu_keep {Y : Yx} {x1 : Int32} {x2 : Int32} {o3 : Nat} {σ : Sg} {K : Sg → Prop} (hY : YD Y) (ho3 : kd o3 = 0) (h : w_Gu_keep x1 x2 o3 σ K) : MetV Y y_Gu_keep prog_3_method_5_code 5 1 60 [.ref (ya Y 29), .int x1, .int x2, .ref (ya Y o3)] σ K := by
  refine met_V [(0, .ref (ya Y 29)), (1, .int x1), (2, .int x2), (3, .ref (ya Y o3))] hY (by decide) (Nat.le_of_ble_eq_true rfl) rfl (fun X C hr => ?_)
  unfold w_Gu_keep at h
  refine q_iload_n (pc := 0) C d_Gu_keep_0 rfl 1 rfl ?_
  refine q_bipush (pc := 1) (v := 12) C d_Gu_keep_1 (by decide) ?_
  refine q_imul (pc := 3) C d_Gu_keep_3 ?_
  refine q_iload_n (pc := 4) C d_Gu_keep_4 rfl 2 rfl ?_
  refine q_iadd (pc := 5) C d_Gu_keep_5 ?_
  refine q_nmi (fun y4_6 ey4_6 => ?_)
  replace h := h y4_6 ey4_6
  refine q_istore (pc := 6) [(4, .int y4_6), (0, .ref (ya Y 29)), (1, .int x1), (2, .int x2), (3, .ref (ya Y o3))] C d_Gu_keep_6 (by decide) rfl ?_
  refine q_aload_n (pc := 8) C d_Gu_keep_8 rfl 1 rfl ?_
  refine q_get (pc := 9) (c := 29) (ci := 1) (k := 0) (v := .ref (ya Y 30)) C rfl (by decide) (by decide) wd_202 rfl d_Gu_keep_9 ?_
  refine q_iload (pc := 12) C d_Gu_keep_12 0 rfl ?_
  refine q_iconst (pc := 14) (v := 1) C d_Gu_keep_14 (by decide) ?_
  obtain ⟨h1, h⟩ := h
  refine q_zast (pc := 15) (c := 30) C ⟨rfl, rfl⟩ h1 rfl d_Gu_keep_15 ?_
  refine q_nms (fun τ15 eτ15 => ?_)
  replace h := h τ15 eτ15
  refine q_aload_n (pc := 16) C d_Gu_keep_16 rfl 4 rfl ?_
  refine q_get (pc := 17) (c := o3) (ci := 0) (k := 1) (v := .ref (ya Y (o3 + 2))) C ho3 (by decide) (by decide) wd_136 rfl d_Gu_keep_17 ?_
  refine q_iconst (pc := 20) (v := 0) C d_Gu_keep_20 (by decide) ?_
  refine q_aload_n (pc := 21) C d_Gu_keep_21 rfl 1 rfl ?_
  refine q_get (pc := 22) (c := 29) (ci := 1) (k := 1) (v := .ref (ya Y 31)) C rfl (by decide) (by decide) wd_203 rfl d_Gu_keep_22 ?_
  refine q_iload (pc := 25) C d_Gu_keep_25 0 rfl ?_
  refine q_iconst (pc := 27) (v := 4) C d_Gu_keep_27 (by decide) ?_
  refine q_imul (pc := 28) C d_Gu_keep_28 ?_
  refine q_iconst (pc := 29) (v := 4) C d_Gu_keep_29 (by decide) ?_
  obtain ⟨h2, h⟩ := h
  refine q_copy (pc := 30) (c0 := (o3 + 2)) (c1 := 31) (st := []) C (k0_2 ho3) ⟨rfl, rfl⟩ h2 wd_625 wd_344 wd_343 wd_73 (by decide) (by decide) d_Gu_keep_30 ?_
  refine q_nms (fun τ30 eτ30 => ?_)
  replace h := h τ30 eτ30
  exact q_vret (pc := 33) C hr d_Gu_keep_33 h
theorem d_Gu_energyOf_0 : decode prog_3_method_4_code 0 = .ok (.aload_n 0, 1) := by decide +kernel
theorem d_Gu_energyOf_1 : decode prog_3_method_4_code 1 = .ok (.getfield 15, 3) := by decide +kernel
theorem d_Gu_energyOf_4 : decode prog_3_method_4_code 4 = .ok (.iload_n 1, 1) := by decide +kernel
theorem d_Gu_energyOf_5 : decode prog_3_method_4_code 5 = .ok (.bipush 12, 2) := by decide +kernel
theorem d_Gu_energyOf_7 : decode prog_3_method_4_code 7 = .ok (.imul, 1) := by decide +kernel
theorem d_Gu_energyOf_8 : decode prog_3_method_4_code 8 = .ok (.iload_n 2, 1) := by decide +kernel
theorem d_Gu_energyOf_9 : decode prog_3_method_4_code 9 = .ok (.iadd, 1) := by decide +kernel
theorem d_Gu_energyOf_10 : decode prog_3_method_4_code 10 = .ok (.iconst 4, 1) := by decide +kernel
theorem d_Gu_energyOf_11 : decode prog_3_method_4_code 11 = .ok (.imul, 1) := by decide +kernel
theorem d_Gu_energyOf_12 : decode prog_3_method_4_code 12 = .ok (.iload_n 3, 1) := by decide +kernel
theorem d_Gu_energyOf_13 : decode prog_3_method_4_code 13 = .ok (.iadd, 1) := by decide +kernel
theorem d_Gu_energyOf_14 : decode prog_3_method_4_code 14 = .ok (.iaload, 1) := by decide +kernel
theorem d_Gu_energyOf_15 : decode prog_3_method_4_code 15 = .ok (.ireturn, 1) := by decide +kernel
abbrev y_Gu_energyOf : MethodName := ⟨"LoadCycles$Guesses", "energyOf", "(III)I"⟩
theorem mi_Gu_energyOf : miV y_Gu_energyOf prog_3_method_4_code 4 (some .int) 3 := ⟨wd_627, wd_628, wd_70, wd_629, by decide, by decide, by decide +kernel⟩
def w_Gu_energyOf (x1 : Int32) (x2 : Int32) (x3 : Int32) (σ : Sg) (K : Int32 → Prop) : Prop :=
  (vp_in ((((x1 * (12 : Int32)) + x2) * (4 : Int32)) + x3) 192 ∧ K (σ 31 ((((x1 * (12 : Int32)) + x2) * (4 : Int32)) + x3).toNatClampNeg))
set_option maxHeartbeats 4000000 in
theorem m_Gu_energyOf {Y : Yx} {x1 : Int32} {x2 : Int32} {x3 : Int32} {σ : Sg} {K : Int32 → Prop} (hY : YD Y)  (h : w_Gu_energyOf x1 x2 x3 σ K) : MetI Y y_Gu_energyOf prog_3_method_4_code 4 (.int) 0 0 [.ref (ya Y 29), .int x1, .int x2, .int x3] σ (fun r τ => τ = σ ∧ K r) := by
  refine met_I [(0, .ref (ya Y 29)), (1, .int x1), (2, .int x2), (3, .int x3)] hY (by decide) (Nat.le_of_ble_eq_true rfl) rfl (fun X C hr => ?_)
  unfold w_Gu_energyOf at h
  refine q_aload_n (pc := 0) C d_Gu_energyOf_0 rfl 0 rfl ?_
  refine q_get (pc := 1) (c := 29) (ci := 1) (k := 1) (v := .ref (ya Y 31)) C rfl (by decide) (by decide) wd_203 rfl d_Gu_energyOf_1 ?_
  refine q_iload_n (pc := 4) C d_Gu_energyOf_4 rfl 1 rfl ?_
  refine q_bipush (pc := 5) (v := 12) C d_Gu_energyOf_5 (by decide) ?_
  refine q_imul (pc := 7) C d_Gu_energyOf_7 ?_
  refine q_iload_n (pc := 8) C d_Gu_energyOf_8 rfl 2 rfl ?_
  refine q_iadd (pc := 9) C d_Gu_energyOf_9 ?_
  refine q_iconst (pc := 10) (v := 4) C d_Gu_energyOf_10 (by decide) ?_
  refine q_imul (pc := 11) C d_Gu_energyOf_11 ?_
  refine q_iload_n (pc := 12) C d_Gu_energyOf_12 rfl 3 rfl ?_
  refine q_iadd (pc := 13) C d_Gu_energyOf_13 ?_
  obtain ⟨h1, h⟩ := h
  refine q_iald (pc := 14) (c := 31) C ⟨rfl, rfl⟩ h1 d_Gu_energyOf_14 ?_
  exact q_iret (pc := 15) C hr d_Gu_energyOf_15 ⟨rfl, h⟩
theorem d_Lc_readingsHold_0 : decode prog_1_method_48_code 0 = .ok (.aload_n 0, 1) := by decide +kernel
theorem d_Lc_readingsHold_1 : decode prog_1_method_48_code 1 = .ok (.getfield 99, 3) := by decide +kernel
theorem d_Lc_readingsHold_4 : decode prog_1_method_48_code 4 = .ok (.ifCond .ne 5, 3) := by decide +kernel
theorem d_Lc_readingsHold_7 : decode prog_1_method_48_code 7 = .ok (.iconst 1, 1) := by decide +kernel
theorem d_Lc_readingsHold_8 : decode prog_1_method_48_code 8 = .ok (.ireturn, 1) := by decide +kernel
theorem d_Lc_readingsHold_9 : decode prog_1_method_48_code 9 = .ok (.aload_n 0, 1) := by decide +kernel
theorem d_Lc_readingsHold_10 : decode prog_1_method_48_code 10 = .ok (.getfield 48, 3) := by decide +kernel
theorem d_Lc_readingsHold_13 : decode prog_1_method_48_code 13 = .ok (.iload_n 1, 1) := by decide +kernel
theorem d_Lc_readingsHold_14 : decode prog_1_method_48_code 14 = .ok (.iload_n 2, 1) := by decide +kernel
theorem d_Lc_readingsHold_15 : decode prog_1_method_48_code 15 = .ok (.invokevirtual 286, 3) := by decide +kernel
theorem d_Lc_readingsHold_18 : decode prog_1_method_48_code 18 = .ok (.ifCond .ne 22, 3) := by decide +kernel
theorem d_Lc_readingsHold_21 : decode prog_1_method_48_code 21 = .ok (.aload_n 0, 1) := by decide +kernel
theorem d_Lc_readingsHold_22 : decode prog_1_method_48_code 22 = .ok (.iload_n 1, 1) := by decide +kernel
theorem d_Lc_readingsHold_23 : decode prog_1_method_48_code 23 = .ok (.iload_n 2, 1) := by decide +kernel
theorem d_Lc_readingsHold_24 : decode prog_1_method_48_code 24 = .ok (.invokevirtual 289, 3) := by decide +kernel
theorem d_Lc_readingsHold_27 : decode prog_1_method_48_code 27 = .ok (.aload_n 0, 1) := by decide +kernel
theorem d_Lc_readingsHold_28 : decode prog_1_method_48_code 28 = .ok (.getfield 48, 3) := by decide +kernel
theorem d_Lc_readingsHold_31 : decode prog_1_method_48_code 31 = .ok (.iload_n 1, 1) := by decide +kernel
theorem d_Lc_readingsHold_32 : decode prog_1_method_48_code 32 = .ok (.iload_n 2, 1) := by decide +kernel
theorem d_Lc_readingsHold_33 : decode prog_1_method_48_code 33 = .ok (.aload_n 0, 1) := by decide +kernel
theorem d_Lc_readingsHold_34 : decode prog_1_method_48_code 34 = .ok (.getfield 28, 3) := by decide +kernel
theorem d_Lc_readingsHold_37 : decode prog_1_method_48_code 37 = .ok (.invokevirtual 292, 3) := by decide +kernel
theorem d_Lc_readingsHold_40 : decode prog_1_method_48_code 40 = .ok (.iconst 0, 1) := by decide +kernel
theorem d_Lc_readingsHold_41 : decode prog_1_method_48_code 41 = .ok (.istore_n 3, 1) := by decide +kernel
theorem d_Lc_readingsHold_42 : decode prog_1_method_48_code 42 = .ok (.iload_n 3, 1) := by decide +kernel
theorem d_Lc_readingsHold_43 : decode prog_1_method_48_code 43 = .ok (.aload_n 0, 1) := by decide +kernel
theorem d_Lc_readingsHold_44 : decode prog_1_method_48_code 44 = .ok (.getfield 99, 3) := by decide +kernel
theorem d_Lc_readingsHold_47 : decode prog_1_method_48_code 47 = .ok (.if_icmp .ge 35, 3) := by decide +kernel
theorem d_Lc_readingsHold_50 : decode prog_1_method_48_code 50 = .ok (.aload_n 0, 1) := by decide +kernel
theorem d_Lc_readingsHold_51 : decode prog_1_method_48_code 51 = .ok (.getfield 48, 3) := by decide +kernel
theorem d_Lc_readingsHold_54 : decode prog_1_method_48_code 54 = .ok (.iload_n 1, 1) := by decide +kernel
theorem d_Lc_readingsHold_55 : decode prog_1_method_48_code 55 = .ok (.iload_n 2, 1) := by decide +kernel
theorem d_Lc_readingsHold_56 : decode prog_1_method_48_code 56 = .ok (.aload_n 0, 1) := by decide +kernel
theorem d_Lc_readingsHold_57 : decode prog_1_method_48_code 57 = .ok (.getfield 58, 3) := by decide +kernel
theorem d_Lc_readingsHold_60 : decode prog_1_method_48_code 60 = .ok (.iload_n 3, 1) := by decide +kernel
theorem d_Lc_readingsHold_61 : decode prog_1_method_48_code 61 = .ok (.iaload, 1) := by decide +kernel
theorem d_Lc_readingsHold_62 : decode prog_1_method_48_code 62 = .ok (.invokevirtual 296, 3) := by decide +kernel
theorem d_Lc_readingsHold_65 : decode prog_1_method_48_code 65 = .ok (.aload_n 0, 1) := by decide +kernel
theorem d_Lc_readingsHold_66 : decode prog_1_method_48_code 66 = .ok (.getfield 62, 3) := by decide +kernel
theorem d_Lc_readingsHold_69 : decode prog_1_method_48_code 69 = .ok (.iload_n 3, 1) := by decide +kernel
theorem d_Lc_readingsHold_70 : decode prog_1_method_48_code 70 = .ok (.iaload, 1) := by decide +kernel
theorem d_Lc_readingsHold_71 : decode prog_1_method_48_code 71 = .ok (.if_icmp .eq 5, 3) := by decide +kernel
theorem d_Lc_readingsHold_74 : decode prog_1_method_48_code 74 = .ok (.iconst 0, 1) := by decide +kernel
theorem d_Lc_readingsHold_75 : decode prog_1_method_48_code 75 = .ok (.ireturn, 1) := by decide +kernel
theorem d_Lc_readingsHold_76 : decode prog_1_method_48_code 76 = .ok (.iinc 3 1, 3) := by decide +kernel
theorem d_Lc_readingsHold_79 : decode prog_1_method_48_code 79 = .ok (.goto (-37), 3) := by decide +kernel
theorem d_Lc_readingsHold_82 : decode prog_1_method_48_code 82 = .ok (.iconst 1, 1) := by decide +kernel
theorem d_Lc_readingsHold_83 : decode prog_1_method_48_code 83 = .ok (.ireturn, 1) := by decide +kernel
abbrev y_Lc_readingsHold : MethodName := ⟨"LoadCycles", "readingsHold", "(II)Z"⟩
theorem mi_Lc_readingsHold : miV y_Lc_readingsHold prog_1_method_48_code 4 (some .boolean) 2 := ⟨wd_611, wd_22, wd_65, wd_612, by decide, by decide, by decide +kernel⟩
def L_Lc_readingsHold_42 (x1 : Int32) (x2 : Int32) (K : Int32 → Sg → Prop) : Nat → Int32 → Sg → Prop
  | 0, _, _ => False
  | n + 1, v3, σ =>
    (((σ 0 10) ≤ v3 → K (1 : Int32) σ) ∧ (¬ (σ 0 10) ≤ v3 → (vp_in v3 8 ∧ w_Gu_energyOf x1 x2 (σ 41 v3.toNatClampNeg) σ (fun u62 => (vp_in v3 8 ∧ ((u62 = (σ 42 v3.toNatClampNeg) → L_Lc_readingsHold_42 x1 x2 K n (v3 + (1 : Int32)) σ) ∧ (¬ u62 = (σ 42 v3.toNatClampNeg) → K (0 : Int32) σ)))))))
theorem t_Lc_readingsHold_42 {X : Bx} {Y : Yx} {x1 : Int32} {x2 : Int32} {K : Int32 → Sg → Prop}  (hY : YD Y) (C : Cx X Y prog_1_method_48_code 4 "LoadCycles" 5 133) (hr : (xh X).sig.returnType = some .boolean)  : ∀ (n : Nat) (v3 : Int32) (σ : Sg), L_Lc_readingsHold_42 x1 x2 K n v3 σ → St X Y 4 (QI X Y K) 42 [(0, .ref (ya Y 0)), (1, .int x1), (2, .int x2), (3, .int v3)] [] σ := by
  intro n
  induction n with
  | zero => intro v3 σ h; exact h.elim
  | succ n ih =>
    intro v3 σ h
    unfold L_Lc_readingsHold_42 at h
    refine q_iload_n (pc := 42) C d_Lc_readingsHold_42 rfl 3 rfl ?_
    refine q_aload_n (pc := 43) C d_Lc_readingsHold_43 rfl 0 rfl ?_
    refine q_get (pc := 44) (c := 0) (ci := 6) (k := 10) (v := .int (σ 0 10)) C rfl (by decide) (by decide) wd_240 rfl d_Lc_readingsHold_44 ?_
    obtain ⟨h5, h6⟩ := h
    refine q_icmp_ge (pc := 47) 82 C d_Lc_readingsHold_47 (by decide) (fun hc => ?_) (fun hc => ?_)
    · have h := h5 hc
      refine q_iconst (pc := 82) (v := 1) C d_Lc_readingsHold_82 (by decide) ?_
      exact q_zret (pc := 83) C hr d_Lc_readingsHold_83 bz1 h
    have h := h6 hc
    refine q_aload_n (pc := 50) C d_Lc_readingsHold_50 rfl 0 rfl ?_
    refine q_get (pc := 51) (c := 0) (ci := 6) (k := 6) (v := .ref (ya Y 29)) C rfl (by decide) (by decide) wd_236 rfl d_Lc_readingsHold_51 ?_
    refine q_iload_n (pc := 54) C d_Lc_readingsHold_54 rfl 1 rfl ?_
    refine q_iload_n (pc := 55) C d_Lc_readingsHold_55 rfl 2 rfl ?_
    refine q_aload_n (pc := 56) C d_Lc_readingsHold_56 rfl 0 rfl ?_
    refine q_get (pc := 57) (c := 0) (ci := 6) (k := 8) (v := .ref (ya Y 41)) C rfl (by decide) (by decide) wd_238 rfl d_Lc_readingsHold_57 ?_
    refine q_iload_n (pc := 60) C d_Lc_readingsHold_60 rfl 3 rfl ?_
    obtain ⟨h1, h⟩ := h
    refine q_iald (pc := 61) (c := 41) C ⟨rfl, rfl⟩ h1 d_Lc_readingsHold_61 ?_
    refine q_callVIr (pc := 62) (st := []) (d := 29) C (m_Gu_energyOf hY h) mi_Gu_energyOf rfl (by decide) rfl wd_626 rfl rfl (Nat.le_of_ble_eq_true rfl) (by decide) (by decide) d_Lc_readingsHold_62 (fun u62 h => ?_)
    refine q_aload_n (pc := 65) C d_Lc_readingsHold_65 rfl 0 rfl ?_
    refine q_get (pc := 66) (c := 0) (ci := 6) (k := 9) (v := .ref (ya Y 42)) C rfl (by decide) (by decide) wd_239 rfl d_Lc_readingsHold_66 ?_
    refine q_iload_n (pc := 69) C d_Lc_readingsHold_69 rfl 3 rfl ?_
    obtain ⟨h2, h⟩ := h
    refine q_iald (pc := 70) (c := 42) C ⟨rfl, rfl⟩ h2 d_Lc_readingsHold_70 ?_
    obtain ⟨h3, h4⟩ := h
    refine q_icmp_eq (pc := 71) 76 C d_Lc_readingsHold_71 (by decide) (fun hc => ?_) (fun hc => ?_)
    · have h := h3 hc
      refine q_iinc (pc := 76) (v3 + (1 : Int32)) [(3, .int (v3 + (1 : Int32))), (0, .ref (ya Y 0)), (1, .int x1), (2, .int x2)] C d_Lc_readingsHold_76 3 rfl rfl (by decide) rfl ?_
      refine q_goto (pc := 79) 42 C d_Lc_readingsHold_79 (by decide) ?_
      refine q_sub [(0, .ref (ya Y 0)), (1, .int x1), (2, .int x2), (3, .int (v3 + (1 : Int32)))] [1, 2, 3, 0] rfl ?_
      exact ih (v3 + (1 : Int32)) σ h
    have h := h4 hc
    refine q_iconst (pc := 74) (v := 0) C d_Lc_readingsHold_74 (by decide) ?_
    exact q_zret (pc := 75) C hr d_Lc_readingsHold_75 bz0 h
def B_Lc_readingsHold_40 (x1 : Int32) (x2 : Int32) (K : Int32 → Sg → Prop)  (σ : Sg) : Prop :=
  (∃ n7 : Nat, L_Lc_readingsHold_42 x1 x2 K n7 (0 : Int32) σ)
theorem t_Lc_readingsHold_40 {X : Bx} {Y : Yx} {x1 : Int32} {x2 : Int32} {K : Int32 → Sg → Prop}  (hY : YD Y) (C : Cx X Y prog_1_method_48_code 4 "LoadCycles" 5 133) (hr : (xh X).sig.returnType = some .boolean)   {σ : Sg} (h : B_Lc_readingsHold_40 x1 x2 K σ) : St X Y 4 (QI X Y K) 40 [(0, .ref (ya Y 0)), (1, .int x1), (2, .int x2)] [] σ := by
  unfold B_Lc_readingsHold_40 at h
  refine q_iconst (pc := 40) (v := 0) C d_Lc_readingsHold_40 (by decide) ?_
  refine q_istore_n (pc := 41) [(3, .int (0 : Int32)), (0, .ref (ya Y 0)), (1, .int x1), (2, .int x2)] C d_Lc_readingsHold_41 rfl (by decide) rfl ?_
  obtain ⟨n7, h⟩ := h
  refine q_sub [(0, .ref (ya Y 0)), (1, .int x1), (2, .int x2), (3, .int (0 : Int32))] [1, 2, 3, 0] rfl ?_
  exact t_Lc_readingsHold_42 hY C hr n7 (0 : Int32) σ h
def w_Lc_readingsHold (x1 : Int32) (x2 : Int32) (σ : Sg) (K : Int32 → Sg → Prop) : Prop :=
  ((¬ (σ 0 10) = 0 → w_Gu_isKnown x1 x2 σ (fun u15 => ((¬ u15 = 0 → B_Lc_readingsHold_40 x1 x2 K σ) ∧ (u15 = 0 → w_Lc_unmixGuess x1 x2 σ (fun τ24 => w_Gu_keep x1 x2 19 τ24 (fun τ37 => B_Lc_readingsHold_40 x1 x2 K τ37)))))) ∧ ((σ 0 10) = 0 → K (1 : Int32) σ))
set_option maxHeartbeats 4000000 in
theorem m_Lc_readingsHold {Y : Yx} {x1 : Int32} {x2 : Int32} {σ : Sg} {K : Int32 → Sg → Prop} (hY : YD Y)  (h : w_Lc_readingsHold x1 x2 σ K) : MetI Y y_Lc_readingsHold prog_1_method_48_code 4 (.boolean) 5 133 [.ref (ya Y 0), .int x1, .int x2] σ K := by
  refine met_I [(0, .ref (ya Y 0)), (1, .int x1), (2, .int x2)] hY (by decide) (Nat.le_of_ble_eq_true rfl) rfl (fun X C hr => ?_)
  unfold w_Lc_readingsHold at h
  refine q_aload_n (pc := 0) C d_Lc_readingsHold_0 rfl 0 rfl ?_
  refine q_get (pc := 1) (c := 0) (ci := 6) (k := 10) (v := .int (σ 0 10)) C rfl (by decide) (by decide) wd_240 rfl d_Lc_readingsHold_1 ?_
  obtain ⟨h10, h11⟩ := h
  refine q_if_ne (pc := 4) 9 C d_Lc_readingsHold_4 (by decide) (fun hc => ?_) (fun hc => ?_)
  · have h := h10 hc
    refine q_aload_n (pc := 9) C d_Lc_readingsHold_9 rfl 0 rfl ?_
    refine q_get (pc := 10) (c := 0) (ci := 6) (k := 6) (v := .ref (ya Y 29)) C rfl (by decide) (by decide) wd_236 rfl d_Lc_readingsHold_10 ?_
    refine q_iload_n (pc := 13) C d_Lc_readingsHold_13 rfl 1 rfl ?_
    refine q_iload_n (pc := 14) C d_Lc_readingsHold_14 rfl 2 rfl ?_
    refine q_callVIr (pc := 15) (st := []) (d := 29) C (m_Gu_isKnown hY h) mi_Gu_isKnown rfl (by decide) rfl wd_613 rfl rfl (Nat.le_of_ble_eq_true rfl) (by decide) (by decide) d_Lc_readingsHold_15 (fun u15 h => ?_)
    obtain ⟨h8, h9⟩ := h
    refine q_if_ne (pc := 18) 40 C d_Lc_readingsHold_18 (by decide) (fun hc => ?_) (fun hc => ?_)
    · have h := h8 hc
      exact t_Lc_readingsHold_40 hY C hr h
    have h := h9 hc
    refine q_aload_n (pc := 21) C d_Lc_readingsHold_21 rfl 0 rfl ?_
    refine q_iload_n (pc := 22) C d_Lc_readingsHold_22 rfl 1 rfl ?_
    refine q_iload_n (pc := 23) C d_Lc_readingsHold_23 rfl 2 rfl ?_
    refine q_callVV (pc := 24) (st := []) (d := 0) C (m_Lc_unmixGuess hY h) mi_Lc_unmixGuess rfl (by decide) rfl wd_617 rfl rfl (Nat.le_of_ble_eq_true rfl) (by decide) (by decide) d_Lc_readingsHold_24 (fun τ24 h => ?_)
    refine q_aload_n (pc := 27) C d_Lc_readingsHold_27 rfl 0 rfl ?_
    refine q_get (pc := 28) (c := 0) (ci := 6) (k := 6) (v := .ref (ya Y 29)) C rfl (by decide) (by decide) wd_236 rfl d_Lc_readingsHold_28 ?_
    refine q_iload_n (pc := 31) C d_Lc_readingsHold_31 rfl 1 rfl ?_
    refine q_iload_n (pc := 32) C d_Lc_readingsHold_32 rfl 2 rfl ?_
    refine q_aload_n (pc := 33) C d_Lc_readingsHold_33 rfl 0 rfl ?_
    refine q_get (pc := 34) (c := 0) (ci := 6) (k := 3) (v := .ref (ya Y 19)) C rfl (by decide) (by decide) wd_233 rfl d_Lc_readingsHold_34 ?_
    refine q_callVV (pc := 37) (st := []) (d := 29) C (m_Gu_keep hY rfl h) mi_Gu_keep rfl (by decide) rfl wd_621 rfl rfl (Nat.le_of_ble_eq_true rfl) (by decide) (by decide) d_Lc_readingsHold_37 (fun τ37 h => ?_)
    exact t_Lc_readingsHold_40 hY C hr h
  have h := h11 hc
  refine q_iconst (pc := 7) (v := 1) C d_Lc_readingsHold_7 (by decide) ?_
  exact q_zret (pc := 8) C hr d_Lc_readingsHold_8 bz1 h
theorem d_Lc_kinds_0 : decode prog_1_method_20_code 0 = .ok (.aload_n 0, 1) := by decide +kernel
theorem d_Lc_kinds_1 : decode prog_1_method_20_code 1 = .ok (.getfield 12, 3) := by decide +kernel
theorem d_Lc_kinds_4 : decode prog_1_method_20_code 4 = .ok (.iload_n 1, 1) := by decide +kernel
theorem d_Lc_kinds_5 : decode prog_1_method_20_code 5 = .ok (.invokevirtual 108, 3) := by decide +kernel
theorem d_Lc_kinds_8 : decode prog_1_method_20_code 8 = .ok (.ifCond .ne 5, 3) := by decide +kernel
theorem d_Lc_kinds_11 : decode prog_1_method_20_code 11 = .ok (.iconst (-1), 1) := by decide +kernel
theorem d_Lc_kinds_12 : decode prog_1_method_20_code 12 = .ok (.ireturn, 1) := by decide +kernel
theorem d_Lc_kinds_13 : decode prog_1_method_20_code 13 = .ok (.iconst 0, 1) := by decide +kernel
theorem d_Lc_kinds_14 : decode prog_1_method_20_code 14 = .ok (.istore_n 2, 1) := by decide +kernel
theorem d_Lc_kinds_15 : decode prog_1_method_20_code 15 = .ok (.iconst 0, 1) := by decide +kernel
theorem d_Lc_kinds_16 : decode prog_1_method_20_code 16 = .ok (.istore_n 3, 1) := by decide +kernel
theorem d_Lc_kinds_17 : decode prog_1_method_20_code 17 = .ok (.iload_n 3, 1) := by decide +kernel
theorem d_Lc_kinds_18 : decode prog_1_method_20_code 18 = .ok (.iconst 3, 1) := by decide +kernel
theorem d_Lc_kinds_19 : decode prog_1_method_20_code 19 = .ok (.if_icmp .ge 24, 3) := by decide +kernel
theorem d_Lc_kinds_22 : decode prog_1_method_20_code 22 = .ok (.aload_n 0, 1) := by decide +kernel
theorem d_Lc_kinds_23 : decode prog_1_method_20_code 23 = .ok (.iload_n 1, 1) := by decide +kernel
theorem d_Lc_kinds_24 : decode prog_1_method_20_code 24 = .ok (.iload_n 3, 1) := by decide +kernel
theorem d_Lc_kinds_25 : decode prog_1_method_20_code 25 = .ok (.invokevirtual 220, 3) := by decide +kernel
theorem d_Lc_kinds_28 : decode prog_1_method_20_code 28 = .ok (.ifCond .eq 9, 3) := by decide +kernel
theorem d_Lc_kinds_31 : decode prog_1_method_20_code 31 = .ok (.iload_n 2, 1) := by decide +kernel
theorem d_Lc_kinds_32 : decode prog_1_method_20_code 32 = .ok (.iconst 1, 1) := by decide +kernel
theorem d_Lc_kinds_33 : decode prog_1_method_20_code 33 = .ok (.iload_n 3, 1) := by decide +kernel
theorem d_Lc_kinds_34 : decode prog_1_method_20_code 34 = .ok (.ishl, 1) := by decide +kernel
theorem d_Lc_kinds_35 : decode prog_1_method_20_code 35 = .ok (.ior, 1) := by decide +kernel
theorem d_Lc_kinds_36 : decode prog_1_method_20_code 36 = .ok (.istore_n 2, 1) := by decide +kernel
theorem d_Lc_kinds_37 : decode prog_1_method_20_code 37 = .ok (.iinc 3 1, 3) := by decide +kernel
theorem d_Lc_kinds_40 : decode prog_1_method_20_code 40 = .ok (.goto (-23), 3) := by decide +kernel
theorem d_Lc_kinds_43 : decode prog_1_method_20_code 43 = .ok (.iload_n 2, 1) := by decide +kernel
theorem d_Lc_kinds_44 : decode prog_1_method_20_code 44 = .ok (.ireturn, 1) := by decide +kernel
abbrev y_Lc_kinds : MethodName := ⟨"LoadCycles", "kinds", "(I)I"⟩
theorem mi_Lc_kinds : miV y_Lc_kinds prog_1_method_20_code 4 (some .int) 1 := ⟨wd_606, wd_607, wd_65, wd_608, by decide, by decide, by decide +kernel⟩
def L_Lc_kinds_17 (x1 : Int32) (K : Int32 → Sg → Prop) : Nat → Int32 → Int32 → Sg → Prop
  | 0, _, _, _ => False
  | n + 1, v2, v3, σ =>
    (((3 : Int32) ≤ v3 → K v2 σ) ∧ (¬ (3 : Int32) ≤ v3 → w_Lc_readingsHold x1 v3 σ (fun u25 τ25 => ((u25 = 0 → L_Lc_kinds_17 x1 K n v2 (v3 + (1 : Int32)) τ25) ∧ (¬ u25 = 0 → (∀ y2_36 : Int32, y2_36 = (v2 ||| ((1 : Int32) <<< (v3 &&& 31))) → L_Lc_kinds_17 x1 K n y2_36 (v3 + (1 : Int32)) τ25))))))
theorem t_Lc_kinds_17 {X : Bx} {Y : Yx} {x1 : Int32} {K : Int32 → Sg → Prop}  (hY : YD Y) (C : Cx X Y prog_1_method_20_code 4 "LoadCycles" 6 156) (hr : (xh X).sig.returnType = some .int)  : ∀ (n : Nat) (v2 : Int32) (v3 : Int32) (σ : Sg), L_Lc_kinds_17 x1 K n v2 v3 σ → St X Y 4 (QI X Y K) 17 [(0, .ref (ya Y 0)), (1, .int x1), (2, .int v2), (3, .int v3)] [] σ := by
  intro n
  induction n with
  | zero => intro v2 v3 σ h; exact h.elim
  | succ n ih =>
    intro v2 v3 σ h
    unfold L_Lc_kinds_17 at h
    refine q_iload_n (pc := 17) C d_Lc_kinds_17 rfl 3 rfl ?_
    refine q_iconst (pc := 18) (v := 3) C d_Lc_kinds_18 (by decide) ?_
    obtain ⟨h3, h4⟩ := h
    refine q_icmp_ge (pc := 19) 43 C d_Lc_kinds_19 (by decide) (fun hc => ?_) (fun hc => ?_)
    · have h := h3 hc
      refine q_iload_n (pc := 43) C d_Lc_kinds_43 rfl 2 rfl ?_
      exact q_iret (pc := 44) C hr d_Lc_kinds_44 h
    have h := h4 hc
    refine q_aload_n (pc := 22) C d_Lc_kinds_22 rfl 0 rfl ?_
    refine q_iload_n (pc := 23) C d_Lc_kinds_23 rfl 1 rfl ?_
    refine q_iload_n (pc := 24) C d_Lc_kinds_24 rfl 3 rfl ?_
    refine q_callVI (pc := 25) (st := []) (d := 0) C (m_Lc_readingsHold hY h) mi_Lc_readingsHold rfl (by decide) rfl wd_609 rfl rfl (Nat.le_of_ble_eq_true rfl) (by decide) (by decide) d_Lc_kinds_25 (fun u25 τ25 h => ?_)
    obtain ⟨h1, h2⟩ := h
    refine q_if_eq (pc := 28) 37 C d_Lc_kinds_28 (by decide) (fun hc => ?_) (fun hc => ?_)
    · have h := h1 hc
      refine q_iinc (pc := 37) (v3 + (1 : Int32)) [(3, .int (v3 + (1 : Int32))), (0, .ref (ya Y 0)), (1, .int x1), (2, .int v2)] C d_Lc_kinds_37 3 rfl rfl (by decide) rfl ?_
      refine q_goto (pc := 40) 17 C d_Lc_kinds_40 (by decide) ?_
      refine q_sub [(0, .ref (ya Y 0)), (1, .int x1), (2, .int v2), (3, .int (v3 + (1 : Int32)))] [1, 2, 3, 0] rfl ?_
      exact ih v2 (v3 + (1 : Int32)) τ25 h
    have h := h2 hc
    refine q_iload_n (pc := 31) C d_Lc_kinds_31 rfl 2 rfl ?_
    refine q_iconst (pc := 32) (v := 1) C d_Lc_kinds_32 (by decide) ?_
    refine q_iload_n (pc := 33) C d_Lc_kinds_33 rfl 3 rfl ?_
    refine q_ishl (pc := 34) C d_Lc_kinds_34 ?_
    refine q_ior (pc := 35) C d_Lc_kinds_35 ?_
    refine q_nmi (fun y2_36 ey2_36 => ?_)
    replace h := h y2_36 ey2_36
    refine q_istore_n (pc := 36) [(2, .int y2_36), (0, .ref (ya Y 0)), (1, .int x1), (3, .int v3)] C d_Lc_kinds_36 rfl (by decide) rfl ?_
    refine q_iinc (pc := 37) (v3 + (1 : Int32)) [(3, .int (v3 + (1 : Int32))), (2, .int y2_36), (0, .ref (ya Y 0)), (1, .int x1)] C d_Lc_kinds_37 3 rfl rfl (by decide) rfl ?_
    refine q_goto (pc := 40) 17 C d_Lc_kinds_40 (by decide) ?_
    refine q_sub [(0, .ref (ya Y 0)), (1, .int x1), (2, .int y2_36), (3, .int (v3 + (1 : Int32)))] [2, 3, 1, 0] rfl ?_
    exact ih y2_36 (v3 + (1 : Int32)) τ25 h
def w_Lc_kinds (x1 : Int32) (σ : Sg) (K : Int32 → Sg → Prop) : Prop :=
  w_Ho_hasAppliance 1 x1 σ (fun u5 => ((¬ u5 = 0 → (∃ n5 : Nat, L_Lc_kinds_17 x1 K n5 (0 : Int32) (0 : Int32) σ)) ∧ (u5 = 0 → K (-1 : Int32) σ)))
set_option maxHeartbeats 4000000 in
theorem m_Lc_kinds {Y : Yx} {x1 : Int32} {σ : Sg} {K : Int32 → Sg → Prop} (hY : YD Y)  (h : w_Lc_kinds x1 σ K) : MetI Y y_Lc_kinds prog_1_method_20_code 4 (.int) 6 156 [.ref (ya Y 0), .int x1] σ K := by
  refine met_I [(0, .ref (ya Y 0)), (1, .int x1)] hY (by decide) (Nat.le_of_ble_eq_true rfl) rfl (fun X C hr => ?_)
  unfold w_Lc_kinds at h
  refine q_aload_n (pc := 0) C d_Lc_kinds_0 rfl 0 rfl ?_
  refine q_get (pc := 1) (c := 0) (ci := 6) (k := 0) (v := .ref (ya Y 1)) C rfl (by decide) (by decide) wd_230 rfl d_Lc_kinds_1 ?_
  refine q_iload_n (pc := 4) C d_Lc_kinds_4 rfl 1 rfl ?_
  refine q_callVIr (pc := 5) (st := []) (d := 1) C (m_Ho_hasAppliance hY rfl h) mi_Ho_hasAppliance rfl (by decide) rfl wd_357 rfl rfl (Nat.le_of_ble_eq_true rfl) (by decide) (by decide) d_Lc_kinds_5 (fun u5 h => ?_)
  obtain ⟨h6, h7⟩ := h
  refine q_if_ne (pc := 8) 13 C d_Lc_kinds_8 (by decide) (fun hc => ?_) (fun hc => ?_)
  · have h := h6 hc
    refine q_iconst (pc := 13) (v := 0) C d_Lc_kinds_13 (by decide) ?_
    refine q_istore_n (pc := 14) [(2, .int (0 : Int32)), (0, .ref (ya Y 0)), (1, .int x1)] C d_Lc_kinds_14 rfl (by decide) rfl ?_
    refine q_iconst (pc := 15) (v := 0) C d_Lc_kinds_15 (by decide) ?_
    refine q_istore_n (pc := 16) [(3, .int (0 : Int32)), (2, .int (0 : Int32)), (0, .ref (ya Y 0)), (1, .int x1)] C d_Lc_kinds_16 rfl (by decide) rfl ?_
    obtain ⟨n5, h⟩ := h
    refine q_sub [(0, .ref (ya Y 0)), (1, .int x1), (2, .int (0 : Int32)), (3, .int (0 : Int32))] [2, 3, 1, 0] rfl ?_
    exact t_Lc_kinds_17 hY C hr n5 (0 : Int32) (0 : Int32) σ h
  have h := h7 hc
  refine q_iconst (pc := 11) (v := -1) C d_Lc_kinds_11 (by decide) ?_
  exact q_iret (pc := 12) C hr d_Lc_kinds_12 h
theorem d_Lc_firsts_0 : decode prog_1_method_21_code 0 = .ok (.aload_n 0, 1) := by decide +kernel
theorem d_Lc_firsts_1 : decode prog_1_method_21_code 1 = .ok (.getfield 12, 3) := by decide +kernel
theorem d_Lc_firsts_4 : decode prog_1_method_21_code 4 = .ok (.iload_n 1, 1) := by decide +kernel
theorem d_Lc_firsts_5 : decode prog_1_method_21_code 5 = .ok (.invokevirtual 108, 3) := by decide +kernel
theorem d_Lc_firsts_8 : decode prog_1_method_21_code 8 = .ok (.ifCond .ne 5, 3) := by decide +kernel
theorem d_Lc_firsts_11 : decode prog_1_method_21_code 11 = .ok (.iconst (-1), 1) := by decide +kernel
theorem d_Lc_firsts_12 : decode prog_1_method_21_code 12 = .ok (.ireturn, 1) := by decide +kernel
theorem d_Lc_firsts_13 : decode prog_1_method_21_code 13 = .ok (.iconst 0, 1) := by decide +kernel
theorem d_Lc_firsts_14 : decode prog_1_method_21_code 14 = .ok (.istore_n 2, 1) := by decide +kernel
theorem d_Lc_firsts_15 : decode prog_1_method_21_code 15 = .ok (.iconst 1, 1) := by decide +kernel
theorem d_Lc_firsts_16 : decode prog_1_method_21_code 16 = .ok (.istore_n 3, 1) := by decide +kernel
theorem d_Lc_firsts_17 : decode prog_1_method_21_code 17 = .ok (.iload_n 3, 1) := by decide +kernel
theorem d_Lc_firsts_18 : decode prog_1_method_21_code 18 = .ok (.bipush 9, 2) := by decide +kernel
theorem d_Lc_firsts_20 : decode prog_1_method_21_code 20 = .ok (.if_icmp .gt 28, 3) := by decide +kernel
theorem d_Lc_firsts_23 : decode prog_1_method_21_code 23 = .ok (.aload_n 0, 1) := by decide +kernel
theorem d_Lc_firsts_24 : decode prog_1_method_21_code 24 = .ok (.iload_n 1, 1) := by decide +kernel
theorem d_Lc_firsts_25 : decode prog_1_method_21_code 25 = .ok (.iconst 3, 1) := by decide +kernel
theorem d_Lc_firsts_26 : decode prog_1_method_21_code 26 = .ok (.iload_n 3, 1) := by decide +kernel
theorem d_Lc_firsts_27 : decode prog_1_method_21_code 27 = .ok (.iadd, 1) := by decide +kernel
theorem d_Lc_firsts_28 : decode prog_1_method_21_code 28 = .ok (.iconst 1, 1) := by decide +kernel
theorem d_Lc_firsts_29 : decode prog_1_method_21_code 29 = .ok (.isub, 1) := by decide +kernel
theorem d_Lc_firsts_30 : decode prog_1_method_21_code 30 = .ok (.invokevirtual 220, 3) := by decide +kernel
theorem d_Lc_firsts_33 : decode prog_1_method_21_code 33 = .ok (.ifCond .eq 9, 3) := by decide +kernel
theorem d_Lc_firsts_36 : decode prog_1_method_21_code 36 = .ok (.iload_n 2, 1) := by decide +kernel
theorem d_Lc_firsts_37 : decode prog_1_method_21_code 37 = .ok (.iconst 1, 1) := by decide +kernel
theorem d_Lc_firsts_38 : decode prog_1_method_21_code 38 = .ok (.iload_n 3, 1) := by decide +kernel
theorem d_Lc_firsts_39 : decode prog_1_method_21_code 39 = .ok (.ishl, 1) := by decide +kernel
theorem d_Lc_firsts_40 : decode prog_1_method_21_code 40 = .ok (.ior, 1) := by decide +kernel
theorem d_Lc_firsts_41 : decode prog_1_method_21_code 41 = .ok (.istore_n 2, 1) := by decide +kernel
theorem d_Lc_firsts_42 : decode prog_1_method_21_code 42 = .ok (.iinc 3 1, 3) := by decide +kernel
theorem d_Lc_firsts_45 : decode prog_1_method_21_code 45 = .ok (.goto (-28), 3) := by decide +kernel
theorem d_Lc_firsts_48 : decode prog_1_method_21_code 48 = .ok (.iload_n 2, 1) := by decide +kernel
theorem d_Lc_firsts_49 : decode prog_1_method_21_code 49 = .ok (.ireturn, 1) := by decide +kernel
abbrev y_Lc_firsts : MethodName := ⟨"LoadCycles", "firsts", "(I)I"⟩
theorem mi_Lc_firsts : miV y_Lc_firsts prog_1_method_21_code 4 (some .int) 1 := ⟨wd_631, wd_632, wd_65, wd_633, by decide, by decide, by decide +kernel⟩
def L_Lc_firsts_17 (x1 : Int32) (K : Int32 → Sg → Prop) : Nat → Int32 → Int32 → Sg → Prop
  | 0, _, _, _ => False
  | n + 1, v2, v3, σ =>
    (((9 : Int32) < v3 → K v2 σ) ∧ (¬ (9 : Int32) < v3 → w_Lc_readingsHold x1 (((3 : Int32) + v3) - (1 : Int32)) σ (fun u30 τ30 => ((u30 = 0 → L_Lc_firsts_17 x1 K n v2 (v3 + (1 : Int32)) τ30) ∧ (¬ u30 = 0 → (∀ y2_41 : Int32, y2_41 = (v2 ||| ((1 : Int32) <<< (v3 &&& 31))) → L_Lc_firsts_17 x1 K n y2_41 (v3 + (1 : Int32)) τ30))))))
theorem t_Lc_firsts_17 {X : Bx} {Y : Yx} {x1 : Int32} {K : Int32 → Sg → Prop}  (hY : YD Y) (C : Cx X Y prog_1_method_21_code 4 "LoadCycles" 6 156) (hr : (xh X).sig.returnType = some .int)  : ∀ (n : Nat) (v2 : Int32) (v3 : Int32) (σ : Sg), L_Lc_firsts_17 x1 K n v2 v3 σ → St X Y 4 (QI X Y K) 17 [(0, .ref (ya Y 0)), (1, .int x1), (2, .int v2), (3, .int v3)] [] σ := by
  intro n
  induction n with
  | zero => intro v2 v3 σ h; exact h.elim
  | succ n ih =>
    intro v2 v3 σ h
    unfold L_Lc_firsts_17 at h
    refine q_iload_n (pc := 17) C d_Lc_firsts_17 rfl 3 rfl ?_
    refine q_bipush (pc := 18) (v := 9) C d_Lc_firsts_18 (by decide) ?_
    obtain ⟨h3, h4⟩ := h
    refine q_icmp_gt (pc := 20) 48 C d_Lc_firsts_20 (by decide) (fun hc => ?_) (fun hc => ?_)
    · have h := h3 hc
      refine q_iload_n (pc := 48) C d_Lc_firsts_48 rfl 2 rfl ?_
      exact q_iret (pc := 49) C hr d_Lc_firsts_49 h
    have h := h4 hc
    refine q_aload_n (pc := 23) C d_Lc_firsts_23 rfl 0 rfl ?_
    refine q_iload_n (pc := 24) C d_Lc_firsts_24 rfl 1 rfl ?_
    refine q_iconst (pc := 25) (v := 3) C d_Lc_firsts_25 (by decide) ?_
    refine q_iload_n (pc := 26) C d_Lc_firsts_26 rfl 3 rfl ?_
    refine q_iadd (pc := 27) C d_Lc_firsts_27 ?_
    refine q_iconst (pc := 28) (v := 1) C d_Lc_firsts_28 (by decide) ?_
    refine q_isub (pc := 29) C d_Lc_firsts_29 ?_
    refine q_callVI (pc := 30) (st := []) (d := 0) C (m_Lc_readingsHold hY h) mi_Lc_readingsHold rfl (by decide) rfl wd_609 rfl rfl (Nat.le_of_ble_eq_true rfl) (by decide) (by decide) d_Lc_firsts_30 (fun u30 τ30 h => ?_)
    obtain ⟨h1, h2⟩ := h
    refine q_if_eq (pc := 33) 42 C d_Lc_firsts_33 (by decide) (fun hc => ?_) (fun hc => ?_)
    · have h := h1 hc
      refine q_iinc (pc := 42) (v3 + (1 : Int32)) [(3, .int (v3 + (1 : Int32))), (0, .ref (ya Y 0)), (1, .int x1), (2, .int v2)] C d_Lc_firsts_42 3 rfl rfl (by decide) rfl ?_
      refine q_goto (pc := 45) 17 C d_Lc_firsts_45 (by decide) ?_
      refine q_sub [(0, .ref (ya Y 0)), (1, .int x1), (2, .int v2), (3, .int (v3 + (1 : Int32)))] [1, 2, 3, 0] rfl ?_
      exact ih v2 (v3 + (1 : Int32)) τ30 h
    have h := h2 hc
    refine q_iload_n (pc := 36) C d_Lc_firsts_36 rfl 2 rfl ?_
    refine q_iconst (pc := 37) (v := 1) C d_Lc_firsts_37 (by decide) ?_
    refine q_iload_n (pc := 38) C d_Lc_firsts_38 rfl 3 rfl ?_
    refine q_ishl (pc := 39) C d_Lc_firsts_39 ?_
    refine q_ior (pc := 40) C d_Lc_firsts_40 ?_
    refine q_nmi (fun y2_41 ey2_41 => ?_)
    replace h := h y2_41 ey2_41
    refine q_istore_n (pc := 41) [(2, .int y2_41), (0, .ref (ya Y 0)), (1, .int x1), (3, .int v3)] C d_Lc_firsts_41 rfl (by decide) rfl ?_
    refine q_iinc (pc := 42) (v3 + (1 : Int32)) [(3, .int (v3 + (1 : Int32))), (2, .int y2_41), (0, .ref (ya Y 0)), (1, .int x1)] C d_Lc_firsts_42 3 rfl rfl (by decide) rfl ?_
    refine q_goto (pc := 45) 17 C d_Lc_firsts_45 (by decide) ?_
    refine q_sub [(0, .ref (ya Y 0)), (1, .int x1), (2, .int y2_41), (3, .int (v3 + (1 : Int32)))] [2, 3, 1, 0] rfl ?_
    exact ih y2_41 (v3 + (1 : Int32)) τ30 h
def w_Lc_firsts (x1 : Int32) (σ : Sg) (K : Int32 → Sg → Prop) : Prop :=
  w_Ho_hasAppliance 1 x1 σ (fun u5 => ((¬ u5 = 0 → (∃ n5 : Nat, L_Lc_firsts_17 x1 K n5 (0 : Int32) (1 : Int32) σ)) ∧ (u5 = 0 → K (-1 : Int32) σ)))
set_option maxHeartbeats 4000000 in
theorem m_Lc_firsts {Y : Yx} {x1 : Int32} {σ : Sg} {K : Int32 → Sg → Prop} (hY : YD Y)  (h : w_Lc_firsts x1 σ K) : MetI Y y_Lc_firsts prog_1_method_21_code 4 (.int) 6 156 [.ref (ya Y 0), .int x1] σ K := by
  refine met_I [(0, .ref (ya Y 0)), (1, .int x1)] hY (by decide) (Nat.le_of_ble_eq_true rfl) rfl (fun X C hr => ?_)
  unfold w_Lc_firsts at h
  refine q_aload_n (pc := 0) C d_Lc_firsts_0 rfl 0 rfl ?_
  refine q_get (pc := 1) (c := 0) (ci := 6) (k := 0) (v := .ref (ya Y 1)) C rfl (by decide) (by decide) wd_230 rfl d_Lc_firsts_1 ?_
  refine q_iload_n (pc := 4) C d_Lc_firsts_4 rfl 1 rfl ?_
  refine q_callVIr (pc := 5) (st := []) (d := 1) C (m_Ho_hasAppliance hY rfl h) mi_Ho_hasAppliance rfl (by decide) rfl wd_357 rfl rfl (Nat.le_of_ble_eq_true rfl) (by decide) (by decide) d_Lc_firsts_5 (fun u5 h => ?_)
  obtain ⟨h6, h7⟩ := h
  refine q_if_ne (pc := 8) 13 C d_Lc_firsts_8 (by decide) (fun hc => ?_) (fun hc => ?_)
  · have h := h6 hc
    refine q_iconst (pc := 13) (v := 0) C d_Lc_firsts_13 (by decide) ?_
    refine q_istore_n (pc := 14) [(2, .int (0 : Int32)), (0, .ref (ya Y 0)), (1, .int x1)] C d_Lc_firsts_14 rfl (by decide) rfl ?_
    refine q_iconst (pc := 15) (v := 1) C d_Lc_firsts_15 (by decide) ?_
    refine q_istore_n (pc := 16) [(3, .int (1 : Int32)), (2, .int (0 : Int32)), (0, .ref (ya Y 0)), (1, .int x1)] C d_Lc_firsts_16 rfl (by decide) rfl ?_
    obtain ⟨n5, h⟩ := h
    refine q_sub [(0, .ref (ya Y 0)), (1, .int x1), (2, .int (0 : Int32)), (3, .int (1 : Int32))] [2, 3, 1, 0] rfl ?_
    exact t_Lc_firsts_17 hY C hr n5 (0 : Int32) (1 : Int32) σ h
  have h := h7 hc
  refine q_iconst (pc := 11) (v := -1) C d_Lc_firsts_11 (by decide) ?_
  exact q_iret (pc := 12) C hr d_Lc_firsts_12 h
theorem d_Lc_commonDivisor_0 : decode prog_1_method_50_code 0 = .ok (.iload_n 1, 1) := by decide +kernel
theorem d_Lc_commonDivisor_1 : decode prog_1_method_50_code 1 = .ok (.istore_n 2, 1) := by decide +kernel
theorem d_Lc_commonDivisor_2 : decode prog_1_method_50_code 2 = .ok (.iload_n 2, 1) := by decide +kernel
theorem d_Lc_commonDivisor_3 : decode prog_1_method_50_code 3 = .ok (.iconst 1, 1) := by decide +kernel
theorem d_Lc_commonDivisor_4 : decode prog_1_method_50_code 4 = .ok (.if_icmp .le 23, 3) := by decide +kernel
theorem d_Lc_commonDivisor_7 : decode prog_1_method_50_code 7 = .ok (.iload_n 0, 1) := by decide +kernel
theorem d_Lc_commonDivisor_8 : decode prog_1_method_50_code 8 = .ok (.iload_n 2, 1) := by decide +kernel
theorem d_Lc_commonDivisor_9 : decode prog_1_method_50_code 9 = .ok (.irem, 1) := by decide +kernel
theorem d_Lc_commonDivisor_10 : decode prog_1_method_50_code 10 = .ok (.ifCond .ne 11, 3) := by decide +kernel
theorem d_Lc_commonDivisor_13 : decode prog_1_method_50_code 13 = .ok (.iload_n 1, 1) := by decide +kernel
theorem d_Lc_commonDivisor_14 : decode prog_1_method_50_code 14 = .ok (.iload_n 2, 1) := by decide +kernel
theorem d_Lc_commonDivisor_15 : decode prog_1_method_50_code 15 = .ok (.irem, 1) := by decide +kernel
theorem d_Lc_commonDivisor_16 : decode prog_1_method_50_code 16 = .ok (.ifCond .ne 5, 3) := by decide +kernel
theorem d_Lc_commonDivisor_19 : decode prog_1_method_50_code 19 = .ok (.iload_n 2, 1) := by decide +kernel
theorem d_Lc_commonDivisor_20 : decode prog_1_method_50_code 20 = .ok (.ireturn, 1) := by decide +kernel
theorem d_Lc_commonDivisor_21 : decode prog_1_method_50_code 21 = .ok (.iinc 2 (-1), 3) := by decide +kernel
theorem d_Lc_commonDivisor_24 : decode prog_1_method_50_code 24 = .ok (.goto (-22), 3) := by decide +kernel
theorem d_Lc_commonDivisor_27 : decode prog_1_method_50_code 27 = .ok (.iconst 1, 1) := by decide +kernel
theorem d_Lc_commonDivisor_28 : decode prog_1_method_50_code 28 = .ok (.ireturn, 1) := by decide +kernel
abbrev y_Lc_commonDivisor : MethodName := ⟨"LoadCycles", "commonDivisor", "(II)I"⟩
theorem mi_Lc_commonDivisor : miS y_Lc_commonDivisor prog_1_method_50_code 3 (some .int) 2 := ⟨wd_639, wd_65, wd_640, by decide, by decide, by decide +kernel⟩
def L_Lc_commonDivisor_2 (x0 : Int32) (x1 : Int32) (σ : Sg) (K : Int32 → Prop) : Nat → Int32 → Prop
  | 0, _ => False
  | n + 1, v2 =>
    ((v2 ≤ (1 : Int32) → K (1 : Int32)) ∧ (¬ v2 ≤ (1 : Int32) → (¬ v2 = 0 ∧ ((¬ (x0 - x0 / v2 * v2) = 0 → L_Lc_commonDivisor_2 x0 x1 σ K n (v2 + (-1 : Int32))) ∧ ((x0 - x0 / v2 * v2) = 0 → (¬ v2 = 0 ∧ ((¬ (x1 - x1 / v2 * v2) = 0 → L_Lc_commonDivisor_2 x0 x1 σ K n (v2 + (-1 : Int32))) ∧ ((x1 - x1 / v2 * v2) = 0 → K v2))))))))
theorem t_Lc_commonDivisor_2 {X : Bx} {Y : Yx} {x0 : Int32} {x1 : Int32} {σ : Sg} {K : Int32 → Prop}  (hY : YD Y) (C : Cx X Y prog_1_method_50_code 3 "LoadCycles" 0 0) (hr : (xh X).sig.returnType = some .int)  : ∀ (n : Nat) (v2 : Int32), L_Lc_commonDivisor_2 x0 x1 σ K n v2 → St X Y 3 (QI X Y (fun r τ => τ = σ ∧ K r)) 2 [(0, .int x0), (1, .int x1), (2, .int v2)] [] σ := by
  intro n
  induction n with
  | zero => intro v2 h; exact h.elim
  | succ n ih =>
    intro v2 h
    unfold L_Lc_commonDivisor_2 at h
    refine q_iload_n (pc := 2) C d_Lc_commonDivisor_2 rfl 2 rfl ?_
    refine q_iconst (pc := 3) (v := 1) C d_Lc_commonDivisor_3 (by decide) ?_
    obtain ⟨h7, h8⟩ := h
    refine q_icmp_le (pc := 4) 27 C d_Lc_commonDivisor_4 (by decide) (fun hc => ?_) (fun hc => ?_)
    · have h := h7 hc
      refine q_iconst (pc := 27) (v := 1) C d_Lc_commonDivisor_27 (by decide) ?_
      exact q_iret (pc := 28) C hr d_Lc_commonDivisor_28 ⟨rfl, h⟩
    have h := h8 hc
    refine q_iload_n (pc := 7) C d_Lc_commonDivisor_7 rfl 0 rfl ?_
    refine q_iload_n (pc := 8) C d_Lc_commonDivisor_8 rfl 2 rfl ?_
    obtain ⟨h1, h⟩ := h
    refine q_irem (pc := 9) C d_Lc_commonDivisor_9 h1 ?_
    obtain ⟨h5, h6⟩ := h
    refine q_if_ne (pc := 10) 21 C d_Lc_commonDivisor_10 (by decide) (fun hc => ?_) (fun hc => ?_)
    · have h := h5 hc
      refine q_iinc (pc := 21) (v2 + (-1 : Int32)) [(2, .int (v2 + (-1 : Int32))), (0, .int x0), (1, .int x1)] C d_Lc_commonDivisor_21 2 rfl rfl (by decide) rfl ?_
      refine q_goto (pc := 24) 2 C d_Lc_commonDivisor_24 (by decide) ?_
      refine q_sub [(0, .int x0), (1, .int x1), (2, .int (v2 + (-1 : Int32)))] [1, 2, 0] rfl ?_
      exact ih (v2 + (-1 : Int32)) h
    have h := h6 hc
    refine q_iload_n (pc := 13) C d_Lc_commonDivisor_13 rfl 1 rfl ?_
    refine q_iload_n (pc := 14) C d_Lc_commonDivisor_14 rfl 2 rfl ?_
    obtain ⟨h2, h⟩ := h
    refine q_irem (pc := 15) C d_Lc_commonDivisor_15 h2 ?_
    obtain ⟨h3, h4⟩ := h
    refine q_if_ne (pc := 16) 21 C d_Lc_commonDivisor_16 (by decide) (fun hc => ?_) (fun hc => ?_)
    · have h := h3 hc
      refine q_iinc (pc := 21) (v2 + (-1 : Int32)) [(2, .int (v2 + (-1 : Int32))), (0, .int x0), (1, .int x1)] C d_Lc_commonDivisor_21 2 rfl rfl (by decide) rfl ?_
      refine q_goto (pc := 24) 2 C d_Lc_commonDivisor_24 (by decide) ?_
      refine q_sub [(0, .int x0), (1, .int x1), (2, .int (v2 + (-1 : Int32)))] [1, 2, 0] rfl ?_
      exact ih (v2 + (-1 : Int32)) h
    have h := h4 hc
    refine q_iload_n (pc := 19) C d_Lc_commonDivisor_19 rfl 2 rfl ?_
    exact q_iret (pc := 20) C hr d_Lc_commonDivisor_20 ⟨rfl, h⟩
def w_Lc_commonDivisor (x0 : Int32) (x1 : Int32) (σ : Sg) (K : Int32 → Prop) : Prop :=
  (∃ n9 : Nat, L_Lc_commonDivisor_2 x0 x1 σ K n9 x1)
set_option maxHeartbeats 4000000 in
theorem m_Lc_commonDivisor {Y : Yx} {x0 : Int32} {x1 : Int32} {σ : Sg} {K : Int32 → Prop} (hY : YD Y)  (h : w_Lc_commonDivisor x0 x1 σ K) : MetI Y y_Lc_commonDivisor prog_1_method_50_code 3 (.int) 0 0 [.int x0, .int x1] σ (fun r τ => τ = σ ∧ K r) := by
  refine met_I [(0, .int x0), (1, .int x1)] hY (by decide) (Nat.le_of_ble_eq_true rfl) rfl (fun X C hr => ?_)
  unfold w_Lc_commonDivisor at h
  refine q_iload_n (pc := 0) C d_Lc_commonDivisor_0 rfl 1 rfl ?_
  refine q_istore_n (pc := 1) [(2, .int x1), (0, .int x0), (1, .int x1)] C d_Lc_commonDivisor_1 rfl (by decide) rfl ?_
  obtain ⟨n9, h⟩ := h
  refine q_sub [(0, .int x0), (1, .int x1), (2, .int x1)] [1, 2, 0] rfl ?_
  exact t_Lc_commonDivisor_2 hY C hr n9 x1 h
theorem d_Lc_odds_0 : decode prog_1_method_22_code 0 = .ok (.aload_n 0, 1) := by decide +kernel
theorem d_Lc_odds_1 : decode prog_1_method_22_code 1 = .ok (.getfield 12, 3) := by decide +kernel
theorem d_Lc_odds_4 : decode prog_1_method_22_code 4 = .ok (.iload_n 1, 1) := by decide +kernel
theorem d_Lc_odds_5 : decode prog_1_method_22_code 5 = .ok (.invokevirtual 108, 3) := by decide +kernel
theorem d_Lc_odds_8 : decode prog_1_method_22_code 8 = .ok (.ifCond .eq 22, 3) := by decide +kernel
theorem d_Lc_odds_11 : decode prog_1_method_22_code 11 = .ok (.iload_n 2, 1) := by decide +kernel
theorem d_Lc_odds_12 : decode prog_1_method_22_code 12 = .ok (.ifCond .lt 18, 3) := by decide +kernel
theorem d_Lc_odds_15 : decode prog_1_method_22_code 15 = .ok (.iload_n 2, 1) := by decide +kernel
theorem d_Lc_odds_16 : decode prog_1_method_22_code 16 = .ok (.iconst 1, 1) := by decide +kernel
theorem d_Lc_odds_17 : decode prog_1_method_22_code 17 = .ok (.if_icmp .gt 13, 3) := by decide +kernel
theorem d_Lc_odds_20 : decode prog_1_method_22_code 20 = .ok (.aload_n 0, 1) := by decide +kernel
theorem d_Lc_odds_21 : decode prog_1_method_22_code 21 = .ok (.getfield 12, 3) := by decide +kernel
theorem d_Lc_odds_24 : decode prog_1_method_22_code 24 = .ok (.getfield 157, 3) := by decide +kernel
theorem d_Lc_odds_27 : decode prog_1_method_22_code 27 = .ok (.ifCond .ne 7, 3) := by decide +kernel
theorem d_Lc_odds_30 : decode prog_1_method_22_code 30 = .ok (.ldc2_w 218, 3) := by decide +kernel
theorem d_Lc_odds_33 : decode prog_1_method_22_code 33 = .ok (.lreturn, 1) := by decide +kernel
theorem d_Lc_odds_34 : decode prog_1_method_22_code 34 = .ok (.aload_n 0, 1) := by decide +kernel
theorem d_Lc_odds_35 : decode prog_1_method_22_code 35 = .ok (.invokevirtual 169, 3) := by decide +kernel
theorem d_Lc_odds_38 : decode prog_1_method_22_code 38 = .ok (.astore_n 3, 1) := by decide +kernel
theorem d_Lc_odds_39 : decode prog_1_method_22_code 39 = .ok (.iconst 0, 1) := by decide +kernel
theorem d_Lc_odds_40 : decode prog_1_method_22_code 40 = .ok (.istore 4, 2) := by decide +kernel
theorem d_Lc_odds_42 : decode prog_1_method_22_code 42 = .ok (.iconst 0, 1) := by decide +kernel
theorem d_Lc_odds_43 : decode prog_1_method_22_code 43 = .ok (.istore 5, 2) := by decide +kernel
theorem d_Lc_odds_45 : decode prog_1_method_22_code 45 = .ok (.iload 5, 2) := by decide +kernel
theorem d_Lc_odds_47 : decode prog_1_method_22_code 47 = .ok (.aload_n 0, 1) := by decide +kernel
theorem d_Lc_odds_48 : decode prog_1_method_22_code 48 = .ok (.getfield 12, 3) := by decide +kernel
theorem d_Lc_odds_51 : decode prog_1_method_22_code 51 = .ok (.getfield 157, 3) := by decide +kernel
theorem d_Lc_odds_54 : decode prog_1_method_22_code 54 = .ok (.if_icmp .ge 22, 3) := by decide +kernel
theorem d_Lc_odds_57 : decode prog_1_method_22_code 57 = .ok (.aload_n 3, 1) := by decide +kernel
theorem d_Lc_odds_58 : decode prog_1_method_22_code 58 = .ok (.iload 5, 2) := by decide +kernel
theorem d_Lc_odds_60 : decode prog_1_method_22_code 60 = .ok (.iload_n 1, 1) := by decide +kernel
theorem d_Lc_odds_61 : decode prog_1_method_22_code 61 = .ok (.invokevirtual 173, 3) := by decide +kernel
theorem d_Lc_odds_64 : decode prog_1_method_22_code 64 = .ok (.ifCond .eq 6, 3) := by decide +kernel
theorem d_Lc_odds_67 : decode prog_1_method_22_code 67 = .ok (.iinc 4 1, 3) := by decide +kernel
theorem d_Lc_odds_70 : decode prog_1_method_22_code 70 = .ok (.iinc 5 1, 3) := by decide +kernel
theorem d_Lc_odds_73 : decode prog_1_method_22_code 73 = .ok (.goto (-28), 3) := by decide +kernel
theorem d_Lc_odds_76 : decode prog_1_method_22_code 76 = .ok (.iload 4, 2) := by decide +kernel
theorem d_Lc_odds_78 : decode prog_1_method_22_code 78 = .ok (.aload_n 0, 1) := by decide +kernel
theorem d_Lc_odds_79 : decode prog_1_method_22_code 79 = .ok (.getfield 12, 3) := by decide +kernel
theorem d_Lc_odds_82 : decode prog_1_method_22_code 82 = .ok (.getfield 157, 3) := by decide +kernel
theorem d_Lc_odds_85 : decode prog_1_method_22_code 85 = .ok (.invokestatic 223, 3) := by decide +kernel
theorem d_Lc_odds_88 : decode prog_1_method_22_code 88 = .ok (.istore 5, 2) := by decide +kernel
theorem d_Lc_odds_90 : decode prog_1_method_22_code 90 = .ok (.iload_n 2, 1) := by decide +kernel
theorem d_Lc_odds_91 : decode prog_1_method_22_code 91 = .ok (.ifCond .ne 8, 3) := by decide +kernel
theorem d_Lc_odds_94 : decode prog_1_method_22_code 94 = .ok (.iload 4, 2) := by decide +kernel
theorem d_Lc_odds_96 : decode prog_1_method_22_code 96 = .ok (.goto 10, 3) := by decide +kernel
theorem d_Lc_odds_99 : decode prog_1_method_22_code 99 = .ok (.aload_n 0, 1) := by decide +kernel
theorem d_Lc_odds_100 : decode prog_1_method_22_code 100 = .ok (.getfield 12, 3) := by decide +kernel
theorem d_Lc_odds_103 : decode prog_1_method_22_code 103 = .ok (.getfield 157, 3) := by decide +kernel
theorem d_Lc_odds_106 : decode prog_1_method_22_code 106 = .ok (.iload 5, 2) := by decide +kernel
theorem d_Lc_odds_108 : decode prog_1_method_22_code 108 = .ok (.idiv, 1) := by decide +kernel
theorem d_Lc_odds_109 : decode prog_1_method_22_code 109 = .ok (.i2l, 1) := by decide +kernel
theorem d_Lc_odds_110 : decode prog_1_method_22_code 110 = .ok (.lreturn, 1) := by decide +kernel
abbrev y_Lc_odds : MethodName := ⟨"LoadCycles", "odds", "(II)J"⟩
theorem mi_Lc_odds : miV y_Lc_odds prog_1_method_22_code 6 (some .long) 2 := ⟨wd_635, wd_636, wd_65, wd_637, by decide, by decide, by decide +kernel⟩
def B_Lc_odds_106 (x1 : Int32) (x2 : Int32) (K : Int64 → Sg → Prop) (v5 : Int32) (vs0 : Int32) (σ : Sg) : Prop :=
  (¬ v5 = 0 ∧ K ((vs0 / v5).toInt64) σ)
theorem t_Lc_odds_106 {X : Bx} {Y : Yx} {x1 : Int32} {x2 : Int32} {v5 : Int32} {vs0 : Int32} {K : Int64 → Sg → Prop}  (hY : YD Y) (C : Cx X Y prog_1_method_22_code 6 "LoadCycles" 5 131) (hr : (xh X).sig.returnType = some .long)   {σ : Sg} (h : B_Lc_odds_106 x1 x2 K v5 vs0 σ) : St X Y 6 (QL X Y K) 106 [(5, .int v5)] [.int vs0] σ := by
  unfold B_Lc_odds_106 at h
  refine q_iload (pc := 106) C d_Lc_odds_106 0 rfl ?_
  obtain ⟨h2, h⟩ := h
  refine q_idiv (pc := 108) C d_Lc_odds_108 h2 ?_
  refine q_i2l (pc := 109) C d_Lc_odds_109 ?_
  exact q_lret (pc := 110) C hr d_Lc_odds_110 h
def L_Lc_odds_45 (x1 : Int32) (x2 : Int32) (c3 : Nat) (K : Int64 → Sg → Prop) : Nat → Int32 → Int32 → Sg → Prop
  | 0, _, _, _ => False
  | n + 1, v4, v5, σ =>
    (((σ 1 5) ≤ v5 → w_Lc_commonDivisor v4 (σ 1 5) σ (fun u85 => ((¬ x2 = 0 → B_Lc_odds_106 x1 x2 K u85 (σ 1 5) σ) ∧ (x2 = 0 → B_Lc_odds_106 x1 x2 K u85 v4 σ)))) ∧ (¬ (σ 1 5) ≤ v5 → w_Do_stateOf c3 v5 x1 σ (fun u61 => ((u61 = 0 → L_Lc_odds_45 x1 x2 c3 K n v4 (v5 + (1 : Int32)) σ) ∧ (¬ u61 = 0 → L_Lc_odds_45 x1 x2 c3 K n (v4 + (1 : Int32)) (v5 + (1 : Int32)) σ)))))
theorem t_Lc_odds_45 {X : Bx} {Y : Yx} {x1 : Int32} {x2 : Int32} {c3 : Nat} {K : Int64 → Sg → Prop}  (hY : YD Y) (C : Cx X Y prog_1_method_22_code 6 "LoadCycles" 5 131) (hr : (xh X).sig.returnType = some .long) (hkc3 : kd c3 = 0) : ∀ (n : Nat) (v4 : Int32) (v5 : Int32) (σ : Sg), L_Lc_odds_45 x1 x2 c3 K n v4 v5 σ → St X Y 6 (QL X Y K) 45 [(0, .ref (ya Y 0)), (1, .int x1), (2, .int x2), (3, .ref (ya Y c3)), (4, .int v4), (5, .int v5)] [] σ := by
  intro n
  induction n with
  | zero => intro v4 v5 σ h; exact h.elim
  | succ n ih =>
    intro v4 v5 σ h
    unfold L_Lc_odds_45 at h
    refine q_iload (pc := 45) C d_Lc_odds_45 5 rfl ?_
    refine q_aload_n (pc := 47) C d_Lc_odds_47 rfl 0 rfl ?_
    refine q_get (pc := 48) (c := 0) (ci := 6) (k := 0) (v := .ref (ya Y 1)) C rfl (by decide) (by decide) wd_230 rfl d_Lc_odds_48 ?_
    refine q_get (pc := 51) (c := 1) (ci := 2) (k := 5) (v := .int (σ 1 5)) C rfl (by decide) (by decide) wd_107 rfl d_Lc_odds_51 ?_
    obtain ⟨h7, h8⟩ := h
    refine q_icmp_ge (pc := 54) 76 C d_Lc_odds_54 (by decide) (fun hc => ?_) (fun hc => ?_)
    · have h := h7 hc
      refine q_iload (pc := 76) C d_Lc_odds_76 4 rfl ?_
      refine q_aload_n (pc := 78) C d_Lc_odds_78 rfl 0 rfl ?_
      refine q_get (pc := 79) (c := 0) (ci := 6) (k := 0) (v := .ref (ya Y 1)) C rfl (by decide) (by decide) wd_230 rfl d_Lc_odds_79 ?_
      refine q_get (pc := 82) (c := 1) (ci := 2) (k := 5) (v := .int (σ 1 5)) C rfl (by decide) (by decide) wd_107 rfl d_Lc_odds_82 ?_
      refine q_callSIr (pc := 85) (st := []) C (m_Lc_commonDivisor hY h) mi_Lc_commonDivisor wd_638 rfl rfl (Nat.le_of_ble_eq_true rfl) (by decide) (by decide) d_Lc_odds_85 (fun u85 h => ?_)
      refine q_istore (pc := 88) [(5, .int u85), (0, .ref (ya Y 0)), (1, .int x1), (2, .int x2), (3, .ref (ya Y c3)), (4, .int v4)] C d_Lc_odds_88 (by decide) rfl ?_
      refine q_iload_n (pc := 90) C d_Lc_odds_90 rfl 3 rfl ?_
      obtain ⟨h3, h4⟩ := h
      refine q_if_ne (pc := 91) 99 C d_Lc_odds_91 (by decide) (fun hc => ?_) (fun hc => ?_)
      · have h := h3 hc
        refine q_aload_n (pc := 99) C d_Lc_odds_99 rfl 1 rfl ?_
        refine q_get (pc := 100) (c := 0) (ci := 6) (k := 0) (v := .ref (ya Y 1)) C rfl (by decide) (by decide) wd_230 rfl d_Lc_odds_100 ?_
        refine q_get (pc := 103) (c := 1) (ci := 2) (k := 5) (v := .int (σ 1 5)) C rfl (by decide) (by decide) wd_107 rfl d_Lc_odds_103 ?_
        refine q_sub [(5, .int u85)] [0] rfl ?_
        exact t_Lc_odds_106 hY C hr h
      have h := h4 hc
      refine q_iload (pc := 94) C d_Lc_odds_94 5 rfl ?_
      refine q_goto (pc := 96) 106 C d_Lc_odds_96 (by decide) ?_
      refine q_sub [(5, .int u85)] [0] rfl ?_
      exact t_Lc_odds_106 hY C hr h
    have h := h8 hc
    refine q_aload_n (pc := 57) C d_Lc_odds_57 rfl 3 rfl ?_
    refine q_iload (pc := 58) C d_Lc_odds_58 5 rfl ?_
    refine q_iload_n (pc := 60) C d_Lc_odds_60 rfl 1 rfl ?_
    refine q_callVIr (pc := 61) (st := []) (d := c3) C (m_Do_stateOf hY hkc3 h) mi_Do_stateOf hkc3 (by decide) rfl wd_499 rfl rfl (Nat.le_of_ble_eq_true rfl) (by decide) (by decide) d_Lc_odds_61 (fun u61 h => ?_)
    obtain ⟨h5, h6⟩ := h
    refine q_if_eq (pc := 64) 70 C d_Lc_odds_64 (by decide) (fun hc => ?_) (fun hc => ?_)
    · have h := h5 hc
      refine q_iinc (pc := 70) (v5 + (1 : Int32)) [(5, .int (v5 + (1 : Int32))), (0, .ref (ya Y 0)), (1, .int x1), (2, .int x2), (3, .ref (ya Y c3)), (4, .int v4)] C d_Lc_odds_70 5 rfl rfl (by decide) rfl ?_
      refine q_goto (pc := 73) 45 C d_Lc_odds_73 (by decide) ?_
      refine q_sub [(0, .ref (ya Y 0)), (1, .int x1), (2, .int x2), (3, .ref (ya Y c3)), (4, .int v4), (5, .int (v5 + (1 : Int32)))] [1, 2, 3, 4, 5, 0] rfl ?_
      exact ih v4 (v5 + (1 : Int32)) σ h
    have h := h6 hc
    refine q_iinc (pc := 67) (v4 + (1 : Int32)) [(4, .int (v4 + (1 : Int32))), (0, .ref (ya Y 0)), (1, .int x1), (2, .int x2), (3, .ref (ya Y c3)), (5, .int v5)] C d_Lc_odds_67 4 rfl rfl (by decide) rfl ?_
    refine q_iinc (pc := 70) (v5 + (1 : Int32)) [(5, .int (v5 + (1 : Int32))), (4, .int (v4 + (1 : Int32))), (0, .ref (ya Y 0)), (1, .int x1), (2, .int x2), (3, .ref (ya Y c3))] C d_Lc_odds_70 5 rfl rfl (by decide) rfl ?_
    refine q_goto (pc := 73) 45 C d_Lc_odds_73 (by decide) ?_
    refine q_sub [(0, .ref (ya Y 0)), (1, .int x1), (2, .int x2), (3, .ref (ya Y c3)), (4, .int (v4 + (1 : Int32))), (5, .int (v5 + (1 : Int32)))] [2, 3, 4, 5, 1, 0] rfl ?_
    exact ih (v4 + (1 : Int32)) (v5 + (1 : Int32)) σ h
def w_Lc_odds (x1 : Int32) (x2 : Int32) (σ : Sg) (K : Int64 → Sg → Prop) : Prop :=
  w_Ho_hasAppliance 1 x1 σ (fun u5 => ((u5 = 0 → K (-9223372036854775808 : Int64) σ) ∧ (¬ u5 = 0 → ((x2 < 0 → K (-9223372036854775808 : Int64) σ) ∧ (¬ x2 < 0 → (((1 : Int32) < x2 → K (-9223372036854775808 : Int64) σ) ∧ (¬ (1 : Int32) < x2 → ((¬ (σ 1 5) = 0 → w_Lc_knownBest σ (fun u35 τ35 => (kd u35 = 0 ∧ (∃ n9 : Nat, L_Lc_odds_45 x1 x2 u35 K n9 (0 : Int32) (0 : Int32) τ35)))) ∧ ((σ 1 5) = 0 → K (-9223372036854775808 : Int64) σ)))))))))
set_option maxHeartbeats 4000000 in
theorem m_Lc_odds {Y : Yx} {x1 : Int32} {x2 : Int32} {σ : Sg} {K : Int64 → Sg → Prop} (hY : YD Y)  (h : w_Lc_odds x1 x2 σ K) : MetL Y y_Lc_odds prog_1_method_22_code 6 5 131 [.ref (ya Y 0), .int x1, .int x2] σ K := by
  refine met_L [(0, .ref (ya Y 0)), (1, .int x1), (2, .int x2)] hY (by decide) (Nat.le_of_ble_eq_true rfl) rfl (fun X C hr => ?_)
  unfold w_Lc_odds at h
  refine q_aload_n (pc := 0) C d_Lc_odds_0 rfl 0 rfl ?_
  refine q_get (pc := 1) (c := 0) (ci := 6) (k := 0) (v := .ref (ya Y 1)) C rfl (by decide) (by decide) wd_230 rfl d_Lc_odds_1 ?_
  refine q_iload_n (pc := 4) C d_Lc_odds_4 rfl 1 rfl ?_
  refine q_callVIr (pc := 5) (st := []) (d := 1) C (m_Ho_hasAppliance hY rfl h) mi_Ho_hasAppliance rfl (by decide) rfl wd_357 rfl rfl (Nat.le_of_ble_eq_true rfl) (by decide) (by decide) d_Lc_odds_5 (fun u5 h => ?_)
  obtain ⟨h16, h17⟩ := h
  refine q_if_eq (pc := 8) 30 C d_Lc_odds_8 (by decide) (fun hc => ?_) (fun hc => ?_)
  · have h := h16 hc
    refine q_ldc2 (pc := 30) C wd_596 d_Lc_odds_30 ?_
    exact q_lret (pc := 33) C hr d_Lc_odds_33 h
  have h := h17 hc
  refine q_iload_n (pc := 11) C d_Lc_odds_11 rfl 2 rfl ?_
  obtain ⟨h14, h15⟩ := h
  refine q_if_lt (pc := 12) 30 C d_Lc_odds_12 (by decide) (fun hc => ?_) (fun hc => ?_)
  · have h := h14 hc
    refine q_ldc2 (pc := 30) C wd_596 d_Lc_odds_30 ?_
    exact q_lret (pc := 33) C hr d_Lc_odds_33 h
  have h := h15 hc
  refine q_iload_n (pc := 15) C d_Lc_odds_15 rfl 2 rfl ?_
  refine q_iconst (pc := 16) (v := 1) C d_Lc_odds_16 (by decide) ?_
  obtain ⟨h12, h13⟩ := h
  refine q_icmp_gt (pc := 17) 30 C d_Lc_odds_17 (by decide) (fun hc => ?_) (fun hc => ?_)
  · have h := h12 hc
    refine q_ldc2 (pc := 30) C wd_596 d_Lc_odds_30 ?_
    exact q_lret (pc := 33) C hr d_Lc_odds_33 h
  have h := h13 hc
  refine q_aload_n (pc := 20) C d_Lc_odds_20 rfl 0 rfl ?_
  refine q_get (pc := 21) (c := 0) (ci := 6) (k := 0) (v := .ref (ya Y 1)) C rfl (by decide) (by decide) wd_230 rfl d_Lc_odds_21 ?_
  refine q_get (pc := 24) (c := 1) (ci := 2) (k := 5) (v := .int (σ 1 5)) C rfl (by decide) (by decide) wd_107 rfl d_Lc_odds_24 ?_
  obtain ⟨h10, h11⟩ := h
  refine q_if_ne (pc := 27) 34 C d_Lc_odds_27 (by decide) (fun hc => ?_) (fun hc => ?_)
  · have h := h10 hc
    refine q_aload_n (pc := 34) C d_Lc_odds_34 rfl 0 rfl ?_
    refine q_callVR (pc := 35) (st := []) (d := 0) C (m_Lc_knownBest hY h) mi_Lc_knownBest rfl (by decide) rfl wd_421 rfl rfl (Nat.le_of_ble_eq_true rfl) (by decide) (by decide) d_Lc_odds_35 (fun u35 τ35 h => ?_)
    obtain ⟨h1, h⟩ := h
    refine q_astore_n (pc := 38) [(3, .ref (ya Y u35)), (0, .ref (ya Y 0)), (1, .int x1), (2, .int x2)] C d_Lc_odds_38 rfl (by decide) rfl ?_
    refine q_iconst (pc := 39) (v := 0) C d_Lc_odds_39 (by decide) ?_
    refine q_istore (pc := 40) [(4, .int (0 : Int32)), (3, .ref (ya Y u35)), (0, .ref (ya Y 0)), (1, .int x1), (2, .int x2)] C d_Lc_odds_40 (by decide) rfl ?_
    refine q_iconst (pc := 42) (v := 0) C d_Lc_odds_42 (by decide) ?_
    refine q_istore (pc := 43) [(5, .int (0 : Int32)), (4, .int (0 : Int32)), (3, .ref (ya Y u35)), (0, .ref (ya Y 0)), (1, .int x1), (2, .int x2)] C d_Lc_odds_43 (by decide) rfl ?_
    obtain ⟨n9, h⟩ := h
    refine q_sub [(0, .ref (ya Y 0)), (1, .int x1), (2, .int x2), (3, .ref (ya Y u35)), (4, .int (0 : Int32)), (5, .int (0 : Int32))] [3, 4, 5, 2, 1, 0] rfl ?_
    exact t_Lc_odds_45 hY C hr h1 n9 (0 : Int32) (0 : Int32) τ35 h
  have h := h11 hc
  refine q_ldc2 (pc := 30) C wd_596 d_Lc_odds_30 ?_
  exact q_lret (pc := 33) C hr d_Lc_odds_33 h
theorem d_Sh_renew_0 : decode prog_5_method_4_code 0 = .ok (.aload_n 0, 1) := by decide +kernel
theorem d_Sh_renew_1 : decode prog_5_method_4_code 1 = .ok (.iload_n 1, 1) := by decide +kernel
theorem d_Sh_renew_2 : decode prog_5_method_4_code 2 = .ok (.putfield 19, 3) := by decide +kernel
theorem d_Sh_renew_5 : decode prog_5_method_4_code 5 = .ok (.aload_n 0, 1) := by decide +kernel
theorem d_Sh_renew_6 : decode prog_5_method_4_code 6 = .ok (.iload_n 2, 1) := by decide +kernel
theorem d_Sh_renew_7 : decode prog_5_method_4_code 7 = .ok (.putfield 15, 3) := by decide +kernel
theorem d_Sh_renew_10 : decode prog_5_method_4_code 10 = .ok (.aload_n 0, 1) := by decide +kernel
theorem d_Sh_renew_11 : decode prog_5_method_4_code 11 = .ok (.getfield 9, 3) := by decide +kernel
theorem d_Sh_renew_14 : decode prog_5_method_4_code 14 = .ok (.iconst 0, 1) := by decide +kernel
theorem d_Sh_renew_15 : decode prog_5_method_4_code 15 = .ok (.invokestatic 22, 3) := by decide +kernel
theorem d_Sh_renew_18 : decode prog_5_method_4_code 18 = .ok (.return_, 1) := by decide +kernel
abbrev y_Sh_renew : MethodName := ⟨"LoadCycles$Sheet", "renew", "(II)V"⟩
theorem mi_Sh_renew : miV y_Sh_renew prog_5_method_4_code 3 none 2 := ⟨wd_646, wd_647, wd_71, wd_648, by decide, by decide, by decide +kernel⟩
def w_Sh_renew (o : Nat) (x1 : Int32) (x2 : Int32) (σ : Sg) (K : Sg → Prop) : Prop :=
  (∀ τ2 : Sg, τ2 = s2 σ o 1 x1 → (∀ τ7 : Sg, τ7 = s2 τ2 o 2 x2 → w_Ja_fill (o + 1) (0 : Int32) τ7 (fun τ15 => K τ15)))
set_option maxHeartbeats 4000000 in
theorem m_Sh_renew {Y : Yx} {o : Nat} {x1 : Int32} {x2 : Int32} {σ : Sg} {K : Sg → Prop} (hY : YD Y) (ho : kd o = 3) (h : w_Sh_renew o x1 x2 σ K) : MetV Y y_Sh_renew prog_5_method_4_code 3 1 23 [.ref (ya Y o), .int x1, .int x2] σ K := by
  refine met_V [(0, .ref (ya Y o)), (1, .int x1), (2, .int x2)] hY (by decide) (Nat.le_of_ble_eq_true rfl) rfl (fun X C hr => ?_)
  unfold w_Sh_renew at h
  refine q_aload_n (pc := 0) C d_Sh_renew_0 rfl 0 rfl ?_
  refine q_iload_n (pc := 1) C d_Sh_renew_1 rfl 1 rfl ?_
  refine q_put (pc := 2) (c := o) (ci := 3) (k := 1) C ho (by decide) (by decide) wd_220 rfl rfl rfl fs_3_1 d_Sh_renew_2 ?_
  refine q_nms (fun τ2 eτ2 => ?_)
  replace h := h τ2 eτ2
  refine q_aload_n (pc := 5) C d_Sh_renew_5 rfl 0 rfl ?_
  refine q_iload_n (pc := 6) C d_Sh_renew_6 rfl 2 rfl ?_
  refine q_put (pc := 7) (c := o) (ci := 3) (k := 2) C ho (by decide) (by decide) wd_222 rfl rfl rfl fs_3_2 d_Sh_renew_7 ?_
  refine q_nms (fun τ7 eτ7 => ?_)
  replace h := h τ7 eτ7
  refine q_aload_n (pc := 10) C d_Sh_renew_10 rfl 0 rfl ?_
  refine q_get (pc := 11) (c := o) (ci := 3) (k := 0) (v := .ref (ya Y (o + 1))) C ho (by decide) (by decide) wd_217 rfl d_Sh_renew_11 ?_
  refine q_iconst (pc := 14) (v := 0) C d_Sh_renew_14 (by decide) ?_
  refine q_callSV (pc := 15) (st := []) C (m_Ja_fill hY (iaL (k3_1 ho) : ia (o + 1) (ln (o + 1))) h) mi_Ja_fill wd_649 rfl rfl (Nat.le_of_ble_eq_true rfl) (by decide) (by decide) d_Sh_renew_15 (fun τ15 h => ?_)
  exact q_vret (pc := 18) C hr d_Sh_renew_18 h
theorem d_Lc_sheet_0 : decode prog_1_method_23_code 0 = .ok (.aload_n 0, 1) := by decide +kernel
theorem d_Lc_sheet_1 : decode prog_1_method_23_code 1 = .ok (.iconst 0, 1) := by decide +kernel
theorem d_Lc_sheet_2 : decode prog_1_method_23_code 2 = .ok (.putfield 66, 3) := by decide +kernel
theorem d_Lc_sheet_5 : decode prog_1_method_23_code 5 = .ok (.iload_n 1, 1) := by decide +kernel
theorem d_Lc_sheet_6 : decode prog_1_method_23_code 6 = .ok (.invokestatic 70, 3) := by decide +kernel
theorem d_Lc_sheet_9 : decode prog_1_method_23_code 9 = .ok (.ifCond .ne 5, 3) := by decide +kernel
theorem d_Lc_sheet_12 : decode prog_1_method_23_code 12 = .ok (.iconst (-1), 1) := by decide +kernel
theorem d_Lc_sheet_13 : decode prog_1_method_23_code 13 = .ok (.ireturn, 1) := by decide +kernel
theorem d_Lc_sheet_14 : decode prog_1_method_23_code 14 = .ok (.iload_n 2, 1) := by decide +kernel
theorem d_Lc_sheet_15 : decode prog_1_method_23_code 15 = .ok (.invokestatic 74, 3) := by decide +kernel
theorem d_Lc_sheet_18 : decode prog_1_method_23_code 18 = .ok (.ifCond .eq 9, 3) := by decide +kernel
theorem d_Lc_sheet_21 : decode prog_1_method_23_code 21 = .ok (.iload_n 3, 1) := by decide +kernel
theorem d_Lc_sheet_22 : decode prog_1_method_23_code 22 = .ok (.bipush 60, 2) := by decide +kernel
theorem d_Lc_sheet_24 : decode prog_1_method_23_code 24 = .ok (.if_icmp .le 6, 3) := by decide +kernel
theorem d_Lc_sheet_27 : decode prog_1_method_23_code 27 = .ok (.bipush (-2), 2) := by decide +kernel
theorem d_Lc_sheet_29 : decode prog_1_method_23_code 29 = .ok (.ireturn, 1) := by decide +kernel
theorem d_Lc_sheet_30 : decode prog_1_method_23_code 30 = .ok (.iload_n 3, 1) := by decide +kernel
theorem d_Lc_sheet_31 : decode prog_1_method_23_code 31 = .ok (.ifCond .ge 9, 3) := by decide +kernel
theorem d_Lc_sheet_34 : decode prog_1_method_23_code 34 = .ok (.aload_n 0, 1) := by decide +kernel
theorem d_Lc_sheet_35 : decode prog_1_method_23_code 35 = .ok (.iconst 4, 1) := by decide +kernel
theorem d_Lc_sheet_36 : decode prog_1_method_23_code 36 = .ok (.invokevirtual 85, 3) := by decide +kernel
theorem d_Lc_sheet_39 : decode prog_1_method_23_code 39 = .ok (.ireturn, 1) := by decide +kernel
theorem d_Lc_sheet_40 : decode prog_1_method_23_code 40 = .ok (.aload_n 0, 1) := by decide +kernel
theorem d_Lc_sheet_41 : decode prog_1_method_23_code 41 = .ok (.getfield 54, 3) := by decide +kernel
theorem d_Lc_sheet_44 : decode prog_1_method_23_code 44 = .ok (.iload_n 1, 1) := by decide +kernel
theorem d_Lc_sheet_45 : decode prog_1_method_23_code 45 = .ok (.aaload, 1) := by decide +kernel
theorem d_Lc_sheet_46 : decode prog_1_method_23_code 46 = .ok (.iload_n 2, 1) := by decide +kernel
theorem d_Lc_sheet_47 : decode prog_1_method_23_code 47 = .ok (.iload_n 3, 1) := by decide +kernel
theorem d_Lc_sheet_48 : decode prog_1_method_23_code 48 = .ok (.invokevirtual 226, 3) := by decide +kernel
theorem d_Lc_sheet_51 : decode prog_1_method_23_code 51 = .ok (.iconst 1, 1) := by decide +kernel
theorem d_Lc_sheet_52 : decode prog_1_method_23_code 52 = .ok (.ireturn, 1) := by decide +kernel
abbrev y_Lc_sheet : MethodName := ⟨"LoadCycles", "sheet", "(III)I"⟩
theorem mi_Lc_sheet : miV y_Lc_sheet prog_1_method_23_code 4 (some .int) 3 := ⟨wd_642, wd_643, wd_65, wd_644, by decide, by decide, by decide +kernel⟩
def w_Lc_sheet (x1 : Int32) (x2 : Int32) (x3 : Int32) (σ : Sg) (K : Int32 → Sg → Prop) : Prop :=
  (∀ τ2 : Sg, τ2 = s2 σ 0 13 (0 : Int32) → w_Lc_isSheet x1 τ2 (fun u6 => ((¬ u6 = 0 → w_Lc_isLane x2 τ2 (fun u15 => ((u15 = 0 → K (-2 : Int32) τ2) ∧ (¬ u15 = 0 → ((x3 ≤ (60 : Int32) → ((0 ≤ x3 → (vp_in x1 4 ∧ w_Sh_renew (33 + 2 * x1.toNatClampNeg) x2 x3 τ2 (fun τ48 => K (1 : Int32) τ48))) ∧ (¬ 0 ≤ x3 → w_Lc_faulted (4 : Int32) τ2 (fun u36 τ36 => K u36 τ36)))) ∧ (¬ x3 ≤ (60 : Int32) → K (-2 : Int32) τ2)))))) ∧ (u6 = 0 → K (-1 : Int32) τ2))))
set_option maxHeartbeats 4000000 in
theorem m_Lc_sheet {Y : Yx} {x1 : Int32} {x2 : Int32} {x3 : Int32} {σ : Sg} {K : Int32 → Sg → Prop} (hY : YD Y)  (h : w_Lc_sheet x1 x2 x3 σ K) : MetI Y y_Lc_sheet prog_1_method_23_code 4 (.int) 2 45 [.ref (ya Y 0), .int x1, .int x2, .int x3] σ K := by
  refine met_I [(0, .ref (ya Y 0)), (1, .int x1), (2, .int x2), (3, .int x3)] hY (by decide) (Nat.le_of_ble_eq_true rfl) rfl (fun X C hr => ?_)
  unfold w_Lc_sheet at h
  refine q_aload_n (pc := 0) C d_Lc_sheet_0 rfl 0 rfl ?_
  refine q_iconst (pc := 1) (v := 0) C d_Lc_sheet_1 (by decide) ?_
  refine q_put (pc := 2) (c := 0) (ci := 6) (k := 13) C rfl (by decide) (by decide) wd_243 rfl rfl rfl fs_6_13 d_Lc_sheet_2 ?_
  refine q_nms (fun τ2 eτ2 => ?_)
  replace h := h τ2 eτ2
  refine q_iload_n (pc := 5) C d_Lc_sheet_5 rfl 1 rfl ?_
  refine q_callSIr (pc := 6) (st := []) C (m_Lc_isSheet hY h) mi_Lc_isSheet wd_277 rfl rfl (Nat.le_of_ble_eq_true rfl) (by decide) (by decide) d_Lc_sheet_6 (fun u6 h => ?_)
  obtain ⟨h8, h9⟩ := h
  refine q_if_ne (pc := 9) 14 C d_Lc_sheet_9 (by decide) (fun hc => ?_) (fun hc => ?_)
  · have h := h8 hc
    refine q_iload_n (pc := 14) C d_Lc_sheet_14 rfl 2 rfl ?_
    refine q_callSIr (pc := 15) (st := []) C (m_Lc_isLane hY h) mi_Lc_isLane wd_280 rfl rfl (Nat.le_of_ble_eq_true rfl) (by decide) (by decide) d_Lc_sheet_15 (fun u15 h => ?_)
    obtain ⟨h6, h7⟩ := h
    refine q_if_eq (pc := 18) 27 C d_Lc_sheet_18 (by decide) (fun hc => ?_) (fun hc => ?_)
    · have h := h6 hc
      refine q_bipush (pc := 27) (v := -2) C d_Lc_sheet_27 (by decide) ?_
      exact q_iret (pc := 29) C hr d_Lc_sheet_29 h
    have h := h7 hc
    refine q_iload_n (pc := 21) C d_Lc_sheet_21 rfl 3 rfl ?_
    refine q_bipush (pc := 22) (v := 60) C d_Lc_sheet_22 (by decide) ?_
    obtain ⟨h4, h5⟩ := h
    refine q_icmp_le (pc := 24) 30 C d_Lc_sheet_24 (by decide) (fun hc => ?_) (fun hc => ?_)
    · have h := h4 hc
      refine q_iload_n (pc := 30) C d_Lc_sheet_30 rfl 3 rfl ?_
      obtain ⟨h2, h3⟩ := h
      refine q_if_ge (pc := 31) 40 C d_Lc_sheet_31 (by decide) (fun hc => ?_) (fun hc => ?_)
      · have h := h2 hc
        refine q_aload_n (pc := 40) C d_Lc_sheet_40 rfl 0 rfl ?_
        refine q_get (pc := 41) (c := 0) (ci := 6) (k := 7) (v := .ref (ya Y 32)) C rfl (by decide) (by decide) wd_237 rfl d_Lc_sheet_41 ?_
        refine q_iload_n (pc := 44) C d_Lc_sheet_44 rfl 1 rfl ?_
        obtain ⟨h1, h⟩ := h
        refine q_aald (pc := 45) C h1 d_Lc_sheet_45 ?_
        refine q_iload_n (pc := 46) C d_Lc_sheet_46 rfl 2 rfl ?_
        refine q_iload_n (pc := 47) C d_Lc_sheet_47 rfl 3 rfl ?_
        refine q_callVV (pc := 48) (st := []) (d := (33 + 2 * x1.toNatClampNeg)) C (m_Sh_renew hY (iaS h1) h) mi_Sh_renew (iaS h1) (by decide) rfl wd_645 rfl rfl (Nat.le_of_ble_eq_true rfl) (by decide) (by decide) d_Lc_sheet_48 (fun τ48 h => ?_)
        refine q_iconst (pc := 51) (v := 1) C d_Lc_sheet_51 (by decide) ?_
        exact q_iret (pc := 52) C hr d_Lc_sheet_52 h
      have h := h3 hc
      refine q_aload_n (pc := 34) C d_Lc_sheet_34 rfl 0 rfl ?_
      refine q_iconst (pc := 35) (v := 4) C d_Lc_sheet_35 (by decide) ?_
      refine q_callVI (pc := 36) (st := []) (d := 0) C (m_Lc_faulted hY h) mi_Lc_faulted rfl (by decide) rfl wd_295 rfl rfl (Nat.le_of_ble_eq_true rfl) (by decide) (by decide) d_Lc_sheet_36 (fun u36 τ36 h => ?_)
      exact q_iret (pc := 39) C hr d_Lc_sheet_39 h
    have h := h5 hc
    refine q_bipush (pc := 27) (v := -2) C d_Lc_sheet_27 (by decide) ?_
    exact q_iret (pc := 29) C hr d_Lc_sheet_29 h
  have h := h9 hc
  refine q_iconst (pc := 12) (v := -1) C d_Lc_sheet_12 (by decide) ?_
  exact q_iret (pc := 13) C hr d_Lc_sheet_13 h
theorem d_Sh_empty_0 : decode prog_5_method_3_code 0 = .ok (.aload_n 0, 1) := by decide +kernel
theorem d_Sh_empty_1 : decode prog_5_method_3_code 1 = .ok (.iconst (-1), 1) := by decide +kernel
theorem d_Sh_empty_2 : decode prog_5_method_3_code 2 = .ok (.putfield 15, 3) := by decide +kernel
theorem d_Sh_empty_5 : decode prog_5_method_3_code 5 = .ok (.return_, 1) := by decide +kernel
abbrev y_Sh_empty : MethodName := ⟨"LoadCycles$Sheet", "empty", "()V"⟩
theorem mi_Sh_empty : miV y_Sh_empty prog_5_method_3_code 1 none 0 := ⟨wd_656, wd_657, wd_71, wd_658, by decide, by decide, by decide +kernel⟩
def w_Sh_empty (o : Nat) (σ : Sg) (K : Sg → Prop) : Prop :=
  (∀ τ2 : Sg, τ2 = s2 σ o 2 (-1 : Int32) → K τ2)
set_option maxHeartbeats 4000000 in
theorem m_Sh_empty {Y : Yx} {o : Nat} {σ : Sg} {K : Sg → Prop} (hY : YD Y) (ho : kd o = 3) (h : w_Sh_empty o σ K) : MetV Y y_Sh_empty prog_5_method_3_code 1 0 0 [.ref (ya Y o)] σ K := by
  refine met_V [(0, .ref (ya Y o))] hY (by decide) (Nat.le_of_ble_eq_true rfl) rfl (fun X C hr => ?_)
  unfold w_Sh_empty at h
  refine q_aload_n (pc := 0) C d_Sh_empty_0 rfl 0 rfl ?_
  refine q_iconst (pc := 1) (v := -1) C d_Sh_empty_1 (by decide) ?_
  refine q_put (pc := 2) (c := o) (ci := 3) (k := 2) C ho (by decide) (by decide) wd_222 rfl rfl rfl fs_3_2 d_Sh_empty_2 ?_
  refine q_nms (fun τ2 eτ2 => ?_)
  replace h := h τ2 eτ2
  exact q_vret (pc := 5) C hr d_Sh_empty_5 h
theorem d_Lc_lose_0 : decode prog_1_method_24_code 0 = .ok (.iload_n 1, 1) := by decide +kernel
theorem d_Lc_lose_1 : decode prog_1_method_24_code 1 = .ok (.invokestatic 70, 3) := by decide +kernel
theorem d_Lc_lose_4 : decode prog_1_method_24_code 4 = .ok (.ifCond .ne 5, 3) := by decide +kernel
theorem d_Lc_lose_7 : decode prog_1_method_24_code 7 = .ok (.iconst (-1), 1) := by decide +kernel
theorem d_Lc_lose_8 : decode prog_1_method_24_code 8 = .ok (.ireturn, 1) := by decide +kernel
theorem d_Lc_lose_9 : decode prog_1_method_24_code 9 = .ok (.aload_n 0, 1) := by decide +kernel
theorem d_Lc_lose_10 : decode prog_1_method_24_code 10 = .ok (.getfield 54, 3) := by decide +kernel
theorem d_Lc_lose_13 : decode prog_1_method_24_code 13 = .ok (.iload_n 1, 1) := by decide +kernel
theorem d_Lc_lose_14 : decode prog_1_method_24_code 14 = .ok (.aaload, 1) := by decide +kernel
theorem d_Lc_lose_15 : decode prog_1_method_24_code 15 = .ok (.invokevirtual 230, 3) := by decide +kernel
theorem d_Lc_lose_18 : decode prog_1_method_24_code 18 = .ok (.istore_n 2, 1) := by decide +kernel
theorem d_Lc_lose_19 : decode prog_1_method_24_code 19 = .ok (.aload_n 0, 1) := by decide +kernel
theorem d_Lc_lose_20 : decode prog_1_method_24_code 20 = .ok (.getfield 54, 3) := by decide +kernel
theorem d_Lc_lose_23 : decode prog_1_method_24_code 23 = .ok (.iload_n 1, 1) := by decide +kernel
theorem d_Lc_lose_24 : decode prog_1_method_24_code 24 = .ok (.aaload, 1) := by decide +kernel
theorem d_Lc_lose_25 : decode prog_1_method_24_code 25 = .ok (.invokevirtual 233, 3) := by decide +kernel
theorem d_Lc_lose_28 : decode prog_1_method_24_code 28 = .ok (.iload_n 2, 1) := by decide +kernel
theorem d_Lc_lose_29 : decode prog_1_method_24_code 29 = .ok (.ifCond .eq 7, 3) := by decide +kernel
theorem d_Lc_lose_32 : decode prog_1_method_24_code 32 = .ok (.iconst 1, 1) := by decide +kernel
theorem d_Lc_lose_33 : decode prog_1_method_24_code 33 = .ok (.goto 4, 3) := by decide +kernel
theorem d_Lc_lose_36 : decode prog_1_method_24_code 36 = .ok (.iconst 0, 1) := by decide +kernel
theorem d_Lc_lose_37 : decode prog_1_method_24_code 37 = .ok (.ireturn, 1) := by decide +kernel
abbrev y_Lc_lose : MethodName := ⟨"LoadCycles", "lose", "(I)I"⟩
theorem mi_Lc_lose : miV y_Lc_lose prog_1_method_24_code 3 (some .int) 1 := ⟨wd_651, wd_652, wd_65, wd_653, by decide, by decide, by decide +kernel⟩
def w_Lc_lose (x1 : Int32) (σ : Sg) (K : Int32 → Sg → Prop) : Prop :=
  w_Lc_isSheet x1 σ (fun u1 => ((¬ u1 = 0 → (vp_in x1 4 ∧ w_Sh_hasRow (33 + 2 * x1.toNatClampNeg) σ (fun u15 => (vp_in x1 4 ∧ w_Sh_empty (33 + 2 * x1.toNatClampNeg) σ (fun τ25 => ((u15 = 0 → K (0 : Int32) τ25) ∧ (¬ u15 = 0 → K (1 : Int32) τ25))))))) ∧ (u1 = 0 → K (-1 : Int32) σ)))
set_option maxHeartbeats 4000000 in
theorem m_Lc_lose {Y : Yx} {x1 : Int32} {σ : Sg} {K : Int32 → Sg → Prop} (hY : YD Y)  (h : w_Lc_lose x1 σ K) : MetI Y y_Lc_lose prog_1_method_24_code 3 (.int) 1 20 [.ref (ya Y 0), .int x1] σ K := by
  refine met_I [(0, .ref (ya Y 0)), (1, .int x1)] hY (by decide) (Nat.le_of_ble_eq_true rfl) rfl (fun X C hr => ?_)
  unfold w_Lc_lose at h
  refine q_iload_n (pc := 0) C d_Lc_lose_0 rfl 1 rfl ?_
  refine q_callSIr (pc := 1) (st := []) C (m_Lc_isSheet hY h) mi_Lc_isSheet wd_277 rfl rfl (Nat.le_of_ble_eq_true rfl) (by decide) (by decide) d_Lc_lose_1 (fun u1 h => ?_)
  obtain ⟨h5, h6⟩ := h
  refine q_if_ne (pc := 4) 9 C d_Lc_lose_4 (by decide) (fun hc => ?_) (fun hc => ?_)
  · have h := h5 hc
    refine q_aload_n (pc := 9) C d_Lc_lose_9 rfl 0 rfl ?_
    refine q_get (pc := 10) (c := 0) (ci := 6) (k := 7) (v := .ref (ya Y 32)) C rfl (by decide) (by decide) wd_237 rfl d_Lc_lose_10 ?_
    refine q_iload_n (pc := 13) C d_Lc_lose_13 rfl 1 rfl ?_
    obtain ⟨h1, h⟩ := h
    refine q_aald (pc := 14) C h1 d_Lc_lose_14 ?_
    refine q_callVIr (pc := 15) (st := []) (d := (33 + 2 * x1.toNatClampNeg)) C (m_Sh_hasRow hY (iaS h1) h) mi_Sh_hasRow (iaS h1) (by decide) rfl wd_654 rfl rfl (Nat.le_of_ble_eq_true rfl) (by decide) (by decide) d_Lc_lose_15 (fun u15 h => ?_)
    refine q_istore_n (pc := 18) [(2, .int u15), (0, .ref (ya Y 0)), (1, .int x1)] C d_Lc_lose_18 rfl (by decide) rfl ?_
    refine q_aload_n (pc := 19) C d_Lc_lose_19 rfl 1 rfl ?_
    refine q_get (pc := 20) (c := 0) (ci := 6) (k := 7) (v := .ref (ya Y 32)) C rfl (by decide) (by decide) wd_237 rfl d_Lc_lose_20 ?_
    refine q_iload_n (pc := 23) C d_Lc_lose_23 rfl 2 rfl ?_
    obtain ⟨h2, h⟩ := h
    refine q_aald (pc := 24) C h2 d_Lc_lose_24 ?_
    refine q_callVV (pc := 25) (st := []) (d := (33 + 2 * x1.toNatClampNeg)) C (m_Sh_empty hY (iaS h2) h) mi_Sh_empty (iaS h2) (by decide) rfl wd_655 rfl rfl (Nat.le_of_ble_eq_true rfl) (by decide) (by decide) d_Lc_lose_25 (fun τ25 h => ?_)
    refine q_iload_n (pc := 28) C d_Lc_lose_28 rfl 0 rfl ?_
    obtain ⟨h3, h4⟩ := h
    refine q_if_eq (pc := 29) 36 C d_Lc_lose_29 (by decide) (fun hc => ?_) (fun hc => ?_)
    · have h := h3 hc
      refine q_iconst (pc := 36) (v := 0) C d_Lc_lose_36 (by decide) ?_
      exact q_iret (pc := 37) C hr d_Lc_lose_37 h
    have h := h4 hc
    refine q_iconst (pc := 32) (v := 1) C d_Lc_lose_32 (by decide) ?_
    refine q_goto (pc := 33) 37 C d_Lc_lose_33 (by decide) ?_
    exact q_iret (pc := 37) C hr d_Lc_lose_37 h
  have h := h6 hc
  refine q_iconst (pc := 7) (v := -1) C d_Lc_lose_7 (by decide) ?_
  exact q_iret (pc := 8) C hr d_Lc_lose_8 h
theorem d_Sh_cut_0 : decode prog_5_method_6_code 0 = .ok (.aload_n 0, 1) := by decide +kernel
theorem d_Sh_cut_1 : decode prog_5_method_6_code 1 = .ok (.getfield 19, 3) := by decide +kernel
theorem d_Sh_cut_4 : decode prog_5_method_6_code 4 = .ok (.lookupswitch 34 #[(0, 28), (1, 31)], 28) := by decide +kernel
theorem d_Sh_cut_32 : decode prog_5_method_6_code 32 = .ok (.iload_n 1, 1) := by decide +kernel
theorem d_Sh_cut_33 : decode prog_5_method_6_code 33 = .ok (.i2b, 1) := by decide +kernel
theorem d_Sh_cut_34 : decode prog_5_method_6_code 34 = .ok (.ireturn, 1) := by decide +kernel
theorem d_Sh_cut_35 : decode prog_5_method_6_code 35 = .ok (.iload_n 1, 1) := by decide +kernel
theorem d_Sh_cut_36 : decode prog_5_method_6_code 36 = .ok (.i2s, 1) := by decide +kernel
theorem d_Sh_cut_37 : decode prog_5_method_6_code 37 = .ok (.ireturn, 1) := by decide +kernel
theorem d_Sh_cut_38 : decode prog_5_method_6_code 38 = .ok (.iload_n 1, 1) := by decide +kernel
theorem d_Sh_cut_39 : decode prog_5_method_6_code 39 = .ok (.ireturn, 1) := by decide +kernel
abbrev y_Sh_cut : MethodName := ⟨"LoadCycles$Sheet", "cut", "(I)I"⟩
theorem mi_Sh_cut : miV y_Sh_cut prog_5_method_6_code 2 (some .int) 1 := ⟨wd_664, wd_665, wd_71, wd_666, by decide, by decide, by decide +kernel⟩
def w_Sh_cut (o : Nat) (x1 : Int32) (σ : Sg) (K : Int32 → Prop) : Prop :=
  (((σ o 1) = (0 : Int32) → K (x1.toInt8.toInt32)) ∧ ((σ o 1) = (1 : Int32) → K (x1.toInt16.toInt32)) ∧ (¬ (σ o 1) = (0 : Int32) → ¬ (σ o 1) = (1 : Int32) → K x1))
set_option maxHeartbeats 4000000 in
theorem m_Sh_cut {Y : Yx} {o : Nat} {x1 : Int32} {σ : Sg} {K : Int32 → Prop} (hY : YD Y) (ho : kd o = 3) (h : w_Sh_cut o x1 σ K) : MetI Y y_Sh_cut prog_5_method_6_code 2 (.int) 0 0 [.ref (ya Y o), .int x1] σ (fun r τ => τ = σ ∧ K r) := by
  refine met_I [(0, .ref (ya Y o)), (1, .int x1)] hY (by decide) (Nat.le_of_ble_eq_true rfl) rfl (fun X C hr => ?_)
  unfold w_Sh_cut at h
  refine q_aload_n (pc := 0) C d_Sh_cut_0 rfl 0 rfl ?_
  refine q_get (pc := 1) (c := o) (ci := 3) (k := 1) (v := .int (σ o 1)) C ho (by decide) (by decide) wd_220 rfl d_Sh_cut_1 ?_
  obtain ⟨h2, h4, h5⟩ := h
  by_cases h1 : (σ o 1) = (0 : Int32)
  · refine q_lookupK (pc := 4) 32 (k := 0) (off := 28) C h1 (by decide) d_Sh_cut_4 (by decide) (by decide) (by decide) ?_
    have h := h2 h1
    refine q_iload_n (pc := 32) C d_Sh_cut_32 rfl 1 rfl ?_
    refine q_i2b (pc := 33) C d_Sh_cut_33 ?_
    exact q_iret (pc := 34) C hr d_Sh_cut_34 ⟨rfl, h⟩
  by_cases h3 : (σ o 1) = (1 : Int32)
  · refine q_lookupK (pc := 4) 35 (k := 1) (off := 31) C h3 (by decide) d_Sh_cut_4 (by decide) (by decide) (by decide) ?_
    have h := h4 h3
    refine q_iload_n (pc := 35) C d_Sh_cut_35 rfl 1 rfl ?_
    refine q_i2s (pc := 36) C d_Sh_cut_36 ?_
    exact q_iret (pc := 37) C hr d_Sh_cut_37 ⟨rfl, h⟩
  refine q_lookup (pc := 4) 38 (off := 34) C d_Sh_cut_4 (by decide) (by show Op.lookupswitch.offset [(0, 28), (1, 31)] 34 _ = _; rw [Op.lookupswitch.offset_cons, if_neg (Ne.symm (sw_ne (k := 0) rfl h1)), Op.lookupswitch.offset_cons, if_neg (Ne.symm (sw_ne (k := 1) rfl h3))]; rfl) (by decide) ?_
  have h := h5 h1 h3
  refine q_iload_n (pc := 38) C d_Sh_cut_38 rfl 1 rfl ?_
  exact q_iret (pc := 39) C hr d_Sh_cut_39 ⟨rfl, h⟩
theorem d_Lc_put_0 : decode prog_1_method_25_code 0 = .ok (.aload_n 0, 1) := by decide +kernel
theorem d_Lc_put_1 : decode prog_1_method_25_code 1 = .ok (.iconst 0, 1) := by decide +kernel
theorem d_Lc_put_2 : decode prog_1_method_25_code 2 = .ok (.putfield 66, 3) := by decide +kernel
theorem d_Lc_put_5 : decode prog_1_method_25_code 5 = .ok (.iload_n 1, 1) := by decide +kernel
theorem d_Lc_put_6 : decode prog_1_method_25_code 6 = .ok (.invokestatic 70, 3) := by decide +kernel
theorem d_Lc_put_9 : decode prog_1_method_25_code 9 = .ok (.ifCond .ne 5, 3) := by decide +kernel
theorem d_Lc_put_12 : decode prog_1_method_25_code 12 = .ok (.iconst (-1), 1) := by decide +kernel
theorem d_Lc_put_13 : decode prog_1_method_25_code 13 = .ok (.ireturn, 1) := by decide +kernel
theorem d_Lc_put_14 : decode prog_1_method_25_code 14 = .ok (.aload_n 0, 1) := by decide +kernel
theorem d_Lc_put_15 : decode prog_1_method_25_code 15 = .ok (.getfield 54, 3) := by decide +kernel
theorem d_Lc_put_18 : decode prog_1_method_25_code 18 = .ok (.iload_n 1, 1) := by decide +kernel
theorem d_Lc_put_19 : decode prog_1_method_25_code 19 = .ok (.aaload, 1) := by decide +kernel
theorem d_Lc_put_20 : decode prog_1_method_25_code 20 = .ok (.astore 4, 2) := by decide +kernel
theorem d_Lc_put_22 : decode prog_1_method_25_code 22 = .ok (.aload 4, 2) := by decide +kernel
theorem d_Lc_put_24 : decode prog_1_method_25_code 24 = .ok (.invokevirtual 230, 3) := by decide +kernel
theorem d_Lc_put_27 : decode prog_1_method_25_code 27 = .ok (.ifCond .ne 9, 3) := by decide +kernel
theorem d_Lc_put_30 : decode prog_1_method_25_code 30 = .ok (.aload_n 0, 1) := by decide +kernel
theorem d_Lc_put_31 : decode prog_1_method_25_code 31 = .ok (.iconst 1, 1) := by decide +kernel
theorem d_Lc_put_32 : decode prog_1_method_25_code 32 = .ok (.invokevirtual 85, 3) := by decide +kernel
theorem d_Lc_put_35 : decode prog_1_method_25_code 35 = .ok (.ireturn, 1) := by decide +kernel
theorem d_Lc_put_36 : decode prog_1_method_25_code 36 = .ok (.aload 4, 2) := by decide +kernel
theorem d_Lc_put_38 : decode prog_1_method_25_code 38 = .ok (.iload_n 2, 1) := by decide +kernel
theorem d_Lc_put_39 : decode prog_1_method_25_code 39 = .ok (.iconst 1, 1) := by decide +kernel
theorem d_Lc_put_40 : decode prog_1_method_25_code 40 = .ok (.invokevirtual 81, 3) := by decide +kernel
theorem d_Lc_put_43 : decode prog_1_method_25_code 43 = .ok (.ifCond .ne 9, 3) := by decide +kernel
theorem d_Lc_put_46 : decode prog_1_method_25_code 46 = .ok (.aload_n 0, 1) := by decide +kernel
theorem d_Lc_put_47 : decode prog_1_method_25_code 47 = .ok (.iconst 3, 1) := by decide +kernel
theorem d_Lc_put_48 : decode prog_1_method_25_code 48 = .ok (.invokevirtual 85, 3) := by decide +kernel
theorem d_Lc_put_51 : decode prog_1_method_25_code 51 = .ok (.ireturn, 1) := by decide +kernel
theorem d_Lc_put_52 : decode prog_1_method_25_code 52 = .ok (.aload 4, 2) := by decide +kernel
theorem d_Lc_put_54 : decode prog_1_method_25_code 54 = .ok (.getfield 142, 3) := by decide +kernel
theorem d_Lc_put_57 : decode prog_1_method_25_code 57 = .ok (.iload_n 2, 1) := by decide +kernel
theorem d_Lc_put_58 : decode prog_1_method_25_code 58 = .ok (.aload 4, 2) := by decide +kernel
theorem d_Lc_put_60 : decode prog_1_method_25_code 60 = .ok (.iload_n 3, 1) := by decide +kernel
theorem d_Lc_put_61 : decode prog_1_method_25_code 61 = .ok (.invokevirtual 236, 3) := by decide +kernel
theorem d_Lc_put_64 : decode prog_1_method_25_code 64 = .ok (.iastore, 1) := by decide +kernel
theorem d_Lc_put_65 : decode prog_1_method_25_code 65 = .ok (.iconst 1, 1) := by decide +kernel
theorem d_Lc_put_66 : decode prog_1_method_25_code 66 = .ok (.ireturn, 1) := by decide +kernel
abbrev y_Lc_put : MethodName := ⟨"LoadCycles", "put", "(III)I"⟩
theorem mi_Lc_put : miV y_Lc_put prog_1_method_25_code 5 (some .int) 3 := ⟨wd_660, wd_661, wd_65, wd_662, by decide, by decide, by decide +kernel⟩
def w_Lc_put (x1 : Int32) (x2 : Int32) (x3 : Int32) (σ : Sg) (K : Int32 → Sg → Prop) : Prop :=
  (∀ τ2 : Sg, τ2 = s2 σ 0 13 (0 : Int32) → w_Lc_isSheet x1 τ2 (fun u6 => ((¬ u6 = 0 → (vp_in x1 4 ∧ w_Sh_hasRow (33 + 2 * x1.toNatClampNeg) τ2 (fun u24 => ((¬ u24 = 0 → w_Sh_holds (33 + 2 * x1.toNatClampNeg) x2 (1 : Int32) τ2 (fun u40 => ((¬ u40 = 0 → w_Sh_cut (33 + 2 * x1.toNatClampNeg) x3 τ2 (fun u61 => (vp_in x2 60 ∧ (∀ τ64 : Sg, τ64 = s2 τ2 ((33 + 2 * x1.toNatClampNeg) + 1) x2.toNatClampNeg u61 → K (1 : Int32) τ64)))) ∧ (u40 = 0 → w_Lc_faulted (3 : Int32) τ2 (fun u48 τ48 => K u48 τ48))))) ∧ (u24 = 0 → w_Lc_faulted (1 : Int32) τ2 (fun u32 τ32 => K u32 τ32)))))) ∧ (u6 = 0 → K (-1 : Int32) τ2))))
set_option maxHeartbeats 4000000 in
theorem m_Lc_put {Y : Yx} {x1 : Int32} {x2 : Int32} {x3 : Int32} {σ : Sg} {K : Int32 → Sg → Prop} (hY : YD Y)  (h : w_Lc_put x1 x2 x3 σ K) : MetI Y y_Lc_put prog_1_method_25_code 5 (.int) 1 22 [.ref (ya Y 0), .int x1, .int x2, .int x3] σ K := by
  refine met_I [(0, .ref (ya Y 0)), (1, .int x1), (2, .int x2), (3, .int x3)] hY (by decide) (Nat.le_of_ble_eq_true rfl) rfl (fun X C hr => ?_)
  unfold w_Lc_put at h
  refine q_aload_n (pc := 0) C d_Lc_put_0 rfl 0 rfl ?_
  refine q_iconst (pc := 1) (v := 0) C d_Lc_put_1 (by decide) ?_
  refine q_put (pc := 2) (c := 0) (ci := 6) (k := 13) C rfl (by decide) (by decide) wd_243 rfl rfl rfl fs_6_13 d_Lc_put_2 ?_
  refine q_nms (fun τ2 eτ2 => ?_)
  replace h := h τ2 eτ2
  refine q_iload_n (pc := 5) C d_Lc_put_5 rfl 1 rfl ?_
  refine q_callSIr (pc := 6) (st := []) C (m_Lc_isSheet hY h) mi_Lc_isSheet wd_277 rfl rfl (Nat.le_of_ble_eq_true rfl) (by decide) (by decide) d_Lc_put_6 (fun u6 h => ?_)
  obtain ⟨h7, h8⟩ := h
  refine q_if_ne (pc := 9) 14 C d_Lc_put_9 (by decide) (fun hc => ?_) (fun hc => ?_)
  · have h := h7 hc
    refine q_aload_n (pc := 14) C d_Lc_put_14 rfl 0 rfl ?_
    refine q_get (pc := 15) (c := 0) (ci := 6) (k := 7) (v := .ref (ya Y 32)) C rfl (by decide) (by decide) wd_237 rfl d_Lc_put_15 ?_
    refine q_iload_n (pc := 18) C d_Lc_put_18 rfl 1 rfl ?_
    obtain ⟨h1, h⟩ := h
    refine q_aald (pc := 19) C h1 d_Lc_put_19 ?_
    refine q_astore (pc := 20) [(4, .ref (ya Y (33 + 2 * x1.toNatClampNeg))), (0, .ref (ya Y 0)), (1, .int x1), (2, .int x2), (3, .int x3)] C d_Lc_put_20 (by decide) rfl ?_
    refine q_aload (pc := 22) C d_Lc_put_22 0 rfl ?_
    refine q_callVIr (pc := 24) (st := []) (d := (33 + 2 * x1.toNatClampNeg)) C (m_Sh_hasRow hY (iaS h1) h) mi_Sh_hasRow (iaS h1) (by decide) rfl wd_654 rfl rfl (Nat.le_of_ble_eq_true rfl) (by decide) (by decide) d_Lc_put_24 (fun u24 h => ?_)
    obtain ⟨h5, h6⟩ := h
    refine q_if_ne (pc := 27) 36 C d_Lc_put_27 (by decide) (fun hc => ?_) (fun hc => ?_)
    · have h := h5 hc
      refine q_aload (pc := 36) C d_Lc_put_36 0 rfl ?_
      refine q_iload_n (pc := 38) C d_Lc_put_38 rfl 3 rfl ?_
      refine q_iconst (pc := 39) (v := 1) C d_Lc_put_39 (by decide) ?_
      refine q_callVIr (pc := 40) (st := []) (d := (33 + 2 * x1.toNatClampNeg)) C (m_Sh_holds hY (iaS h1) h) mi_Sh_holds (iaS h1) (by decide) rfl wd_291 rfl rfl (Nat.le_of_ble_eq_true rfl) (by decide) (by decide) d_Lc_put_40 (fun u40 h => ?_)
      obtain ⟨h3, h4⟩ := h
      refine q_if_ne (pc := 43) 52 C d_Lc_put_43 (by decide) (fun hc => ?_) (fun hc => ?_)
      · have h := h3 hc
        refine q_aload (pc := 52) C d_Lc_put_52 0 rfl ?_
        refine q_get (pc := 54) (c := (33 + 2 * x1.toNatClampNeg)) (ci := 3) (k := 0) (v := .ref (ya Y ((33 + 2 * x1.toNatClampNeg) + 1))) C (iaS h1) (by decide) (by decide) wd_219 rfl d_Lc_put_54 ?_
        refine q_iload_n (pc := 57) C d_Lc_put_57 rfl 3 rfl ?_
        refine q_aload (pc := 58) C d_Lc_put_58 0 rfl ?_
        refine q_iload_n (pc := 60) C d_Lc_put_60 rfl 4 rfl ?_
        refine q_callVIr (pc := 61) (st := [.int x2, .ref (ya Y ((33 + 2 * x1.toNatClampNeg) + 1))]) (d := (33 + 2 * x1.toNatClampNeg)) C (m_Sh_cut hY (iaS h1) h) mi_Sh_cut (iaS h1) (by decide) rfl wd_663 rfl rfl (Nat.le_of_ble_eq_true rfl) (by decide) (by decide) d_Lc_put_61 (fun u61 h => ?_)
        obtain ⟨h2, h⟩ := h
        refine q_iast (pc := 64) (c := ((33 + 2 * x1.toNatClampNeg) + 1)) C (k3_1 (iaS h1)) h2 d_Lc_put_64 ?_
        refine q_nms (fun τ64 eτ64 => ?_)
        replace h := h τ64 eτ64
        refine q_iconst (pc := 65) (v := 1) C d_Lc_put_65 (by decide) ?_
        exact q_iret (pc := 66) C hr d_Lc_put_66 h
      have h := h4 hc
      refine q_aload_n (pc := 46) C d_Lc_put_46 rfl 1 rfl ?_
      refine q_iconst (pc := 47) (v := 3) C d_Lc_put_47 (by decide) ?_
      refine q_callVI (pc := 48) (st := []) (d := 0) C (m_Lc_faulted hY h) mi_Lc_faulted rfl (by decide) rfl wd_295 rfl rfl (Nat.le_of_ble_eq_true rfl) (by decide) (by decide) d_Lc_put_48 (fun u48 τ48 h => ?_)
      exact q_iret (pc := 51) C hr d_Lc_put_51 h
    have h := h6 hc
    refine q_aload_n (pc := 30) C d_Lc_put_30 rfl 1 rfl ?_
    refine q_iconst (pc := 31) (v := 1) C d_Lc_put_31 (by decide) ?_
    refine q_callVI (pc := 32) (st := []) (d := 0) C (m_Lc_faulted hY h) mi_Lc_faulted rfl (by decide) rfl wd_295 rfl rfl (Nat.le_of_ble_eq_true rfl) (by decide) (by decide) d_Lc_put_32 (fun u32 τ32 h => ?_)
    exact q_iret (pc := 35) C hr d_Lc_put_35 h
  have h := h8 hc
  refine q_iconst (pc := 12) (v := -1) C d_Lc_put_12 (by decide) ?_
  exact q_iret (pc := 13) C hr d_Lc_put_13 h
theorem d_Lc_cell_0 : decode prog_1_method_26_code 0 = .ok (.aload_n 0, 1) := by decide +kernel
theorem d_Lc_cell_1 : decode prog_1_method_26_code 1 = .ok (.iconst 0, 1) := by decide +kernel
theorem d_Lc_cell_2 : decode prog_1_method_26_code 2 = .ok (.putfield 66, 3) := by decide +kernel
theorem d_Lc_cell_5 : decode prog_1_method_26_code 5 = .ok (.iload_n 1, 1) := by decide +kernel
theorem d_Lc_cell_6 : decode prog_1_method_26_code 6 = .ok (.invokestatic 70, 3) := by decide +kernel
theorem d_Lc_cell_9 : decode prog_1_method_26_code 9 = .ok (.ifCond .eq 10, 3) := by decide +kernel
theorem d_Lc_cell_12 : decode prog_1_method_26_code 12 = .ok (.iload_n 3, 1) := by decide +kernel
theorem d_Lc_cell_13 : decode prog_1_method_26_code 13 = .ok (.invokestatic 74, 3) := by decide +kernel
theorem d_Lc_cell_16 : decode prog_1_method_26_code 16 = .ok (.ifCond .ne 7, 3) := by decide +kernel
theorem d_Lc_cell_19 : decode prog_1_method_26_code 19 = .ok (.ldc2_w 218, 3) := by decide +kernel
theorem d_Lc_cell_22 : decode prog_1_method_26_code 22 = .ok (.lreturn, 1) := by decide +kernel
theorem d_Lc_cell_23 : decode prog_1_method_26_code 23 = .ok (.aload_n 0, 1) := by decide +kernel
theorem d_Lc_cell_24 : decode prog_1_method_26_code 24 = .ok (.getfield 54, 3) := by decide +kernel
theorem d_Lc_cell_27 : decode prog_1_method_26_code 27 = .ok (.iload_n 1, 1) := by decide +kernel
theorem d_Lc_cell_28 : decode prog_1_method_26_code 28 = .ok (.aaload, 1) := by decide +kernel
theorem d_Lc_cell_29 : decode prog_1_method_26_code 29 = .ok (.astore 4, 2) := by decide +kernel
theorem d_Lc_cell_31 : decode prog_1_method_26_code 31 = .ok (.aload_n 0, 1) := by decide +kernel
theorem d_Lc_cell_32 : decode prog_1_method_26_code 32 = .ok (.aload 4, 2) := by decide +kernel
theorem d_Lc_cell_34 : decode prog_1_method_26_code 34 = .ok (.iload_n 3, 1) := by decide +kernel
theorem d_Lc_cell_35 : decode prog_1_method_26_code 35 = .ok (.iload_n 2, 1) := by decide +kernel
theorem d_Lc_cell_36 : decode prog_1_method_26_code 36 = .ok (.iconst 1, 1) := by decide +kernel
theorem d_Lc_cell_37 : decode prog_1_method_26_code 37 = .ok (.invokevirtual 134, 3) := by decide +kernel
theorem d_Lc_cell_40 : decode prog_1_method_26_code 40 = .ok (.putfield 66, 3) := by decide +kernel
theorem d_Lc_cell_43 : decode prog_1_method_26_code 43 = .ok (.aload_n 0, 1) := by decide +kernel
theorem d_Lc_cell_44 : decode prog_1_method_26_code 44 = .ok (.getfield 66, 3) := by decide +kernel
theorem d_Lc_cell_47 : decode prog_1_method_26_code 47 = .ok (.ifCond .ne 14, 3) := by decide +kernel
theorem d_Lc_cell_50 : decode prog_1_method_26_code 50 = .ok (.aload 4, 2) := by decide +kernel
theorem d_Lc_cell_52 : decode prog_1_method_26_code 52 = .ok (.getfield 142, 3) := by decide +kernel
theorem d_Lc_cell_55 : decode prog_1_method_26_code 55 = .ok (.iload_n 2, 1) := by decide +kernel
theorem d_Lc_cell_56 : decode prog_1_method_26_code 56 = .ok (.iaload, 1) := by decide +kernel
theorem d_Lc_cell_57 : decode prog_1_method_26_code 57 = .ok (.i2l, 1) := by decide +kernel
theorem d_Lc_cell_58 : decode prog_1_method_26_code 58 = .ok (.goto 6, 3) := by decide +kernel
theorem d_Lc_cell_61 : decode prog_1_method_26_code 61 = .ok (.ldc2_w 218, 3) := by decide +kernel
theorem d_Lc_cell_64 : decode prog_1_method_26_code 64 = .ok (.lreturn, 1) := by decide +kernel
abbrev y_Lc_cell : MethodName := ⟨"LoadCycles", "cell", "(III)J"⟩
theorem mi_Lc_cell : miV y_Lc_cell prog_1_method_26_code 5 (some .long) 3 := ⟨wd_668, wd_669, wd_65, wd_670, by decide, by decide, by decide +kernel⟩
def w_Lc_cell (x1 : Int32) (x2 : Int32) (x3 : Int32) (σ : Sg) (K : Int64 → Sg → Prop) : Prop :=
  (∀ τ2 : Sg, τ2 = s2 σ 0 13 (0 : Int32) → w_Lc_isSheet x1 τ2 (fun u6 => ((u6 = 0 → K (-9223372036854775808 : Int64) τ2) ∧ (¬ u6 = 0 → w_Lc_isLane x3 τ2 (fun u13 => ((¬ u13 = 0 → (vp_in x1 4 ∧ w_Sh_faultOfCells (33 + 2 * x1.toNatClampNeg) x3 x2 (1 : Int32) τ2 (fun u37 => (∀ τ40 : Sg, τ40 = s2 τ2 0 13 u37 → ((¬ (τ40 0 13) = 0 → K (-9223372036854775808 : Int64) τ40) ∧ ((τ40 0 13) = 0 → (vp_in x2 60 ∧ K ((τ40 ((33 + 2 * x1.toNatClampNeg) + 1) x2.toNatClampNeg).toInt64) τ40))))))) ∧ (u13 = 0 → K (-9223372036854775808 : Int64) τ2)))))))
set_option maxHeartbeats 4000000 in
theorem m_Lc_cell {Y : Yx} {x1 : Int32} {x2 : Int32} {x3 : Int32} {σ : Sg} {K : Int64 → Sg → Prop} (hY : YD Y)  (h : w_Lc_cell x1 x2 x3 σ K) : MetL Y y_Lc_cell prog_1_method_26_code 5 3 65 [.ref (ya Y 0), .int x1, .int x2, .int x3] σ K := by
  refine met_L [(0, .ref (ya Y 0)), (1, .int x1), (2, .int x2), (3, .int x3)] hY (by decide) (Nat.le_of_ble_eq_true rfl) rfl (fun X C hr => ?_)
  unfold w_Lc_cell at h
  refine q_aload_n (pc := 0) C d_Lc_cell_0 rfl 0 rfl ?_
  refine q_iconst (pc := 1) (v := 0) C d_Lc_cell_1 (by decide) ?_
  refine q_put (pc := 2) (c := 0) (ci := 6) (k := 13) C rfl (by decide) (by decide) wd_243 rfl rfl rfl fs_6_13 d_Lc_cell_2 ?_
  refine q_nms (fun τ2 eτ2 => ?_)
  replace h := h τ2 eτ2
  refine q_iload_n (pc := 5) C d_Lc_cell_5 rfl 1 rfl ?_
  refine q_callSIr (pc := 6) (st := []) C (m_Lc_isSheet hY h) mi_Lc_isSheet wd_277 rfl rfl (Nat.le_of_ble_eq_true rfl) (by decide) (by decide) d_Lc_cell_6 (fun u6 h => ?_)
  obtain ⟨h7, h8⟩ := h
  refine q_if_eq (pc := 9) 19 C d_Lc_cell_9 (by decide) (fun hc => ?_) (fun hc => ?_)
  · have h := h7 hc
    refine q_ldc2 (pc := 19) C wd_596 d_Lc_cell_19 ?_
    exact q_lret (pc := 22) C hr d_Lc_cell_22 h
  have h := h8 hc
  refine q_iload_n (pc := 12) C d_Lc_cell_12 rfl 3 rfl ?_
  refine q_callSIr (pc := 13) (st := []) C (m_Lc_isLane hY h) mi_Lc_isLane wd_280 rfl rfl (Nat.le_of_ble_eq_true rfl) (by decide) (by decide) d_Lc_cell_13 (fun u13 h => ?_)
  obtain ⟨h5, h6⟩ := h
  refine q_if_ne (pc := 16) 23 C d_Lc_cell_16 (by decide) (fun hc => ?_) (fun hc => ?_)
  · have h := h5 hc
    refine q_aload_n (pc := 23) C d_Lc_cell_23 rfl 0 rfl ?_
    refine q_get (pc := 24) (c := 0) (ci := 6) (k := 7) (v := .ref (ya Y 32)) C rfl (by decide) (by decide) wd_237 rfl d_Lc_cell_24 ?_
    refine q_iload_n (pc := 27) C d_Lc_cell_27 rfl 1 rfl ?_
    obtain ⟨h1, h⟩ := h
    refine q_aald (pc := 28) C h1 d_Lc_cell_28 ?_
    refine q_astore (pc := 29) [(4, .ref (ya Y (33 + 2 * x1.toNatClampNeg))), (0, .ref (ya Y 0)), (1, .int x1), (2, .int x2), (3, .int x3)] C d_Lc_cell_29 (by decide) rfl ?_
    refine q_aload_n (pc := 31) C d_Lc_cell_31 rfl 1 rfl ?_
    refine q_aload (pc := 32) C d_Lc_cell_32 0 rfl ?_
    refine q_iload_n (pc := 34) C d_Lc_cell_34 rfl 4 rfl ?_
    refine q_iload_n (pc := 35) C d_Lc_cell_35 rfl 3 rfl ?_
    refine q_iconst (pc := 36) (v := 1) C d_Lc_cell_36 (by decide) ?_
    refine q_callVIr (pc := 37) (st := [.ref (ya Y 0)]) (d := (33 + 2 * x1.toNatClampNeg)) C (m_Sh_faultOfCells hY (iaS h1) h) mi_Sh_faultOfCells (iaS h1) (by decide) rfl wd_387 rfl rfl (Nat.le_of_ble_eq_true rfl) (by decide) (by decide) d_Lc_cell_37 (fun u37 h => ?_)
    refine q_put (pc := 40) (c := 0) (ci := 6) (k := 13) C rfl (by decide) (by decide) wd_243 rfl rfl rfl fs_6_13 d_Lc_cell_40 ?_
    refine q_nms (fun τ40 eτ40 => ?_)
    replace h := h τ40 eτ40
    refine q_aload_n (pc := 43) C d_Lc_cell_43 rfl 1 rfl ?_
    refine q_get (pc := 44) (c := 0) (ci := 6) (k := 13) (v := .int (τ40 0 13)) C rfl (by decide) (by decide) wd_243 rfl d_Lc_cell_44 ?_
    obtain ⟨h3, h4⟩ := h
    refine q_if_ne (pc := 47) 61 C d_Lc_cell_47 (by decide) (fun hc => ?_) (fun hc => ?_)
    · have h := h3 hc
      refine q_ldc2 (pc := 61) C wd_596 d_Lc_cell_61 ?_
      exact q_lret (pc := 64) C hr d_Lc_cell_64 h
    have h := h4 hc
    refine q_aload (pc := 50) C d_Lc_cell_50 0 rfl ?_
    refine q_get (pc := 52) (c := (33 + 2 * x1.toNatClampNeg)) (ci := 3) (k := 0) (v := .ref (ya Y ((33 + 2 * x1.toNatClampNeg) + 1))) C (iaS h1) (by decide) (by decide) wd_219 rfl d_Lc_cell_52 ?_
    refine q_iload_n (pc := 55) C d_Lc_cell_55 rfl 3 rfl ?_
    obtain ⟨h2, h⟩ := h
    refine q_iald (pc := 56) (c := ((33 + 2 * x1.toNatClampNeg) + 1)) C (k3_1 (iaS h1)) h2 d_Lc_cell_56 ?_
    refine q_i2l (pc := 57) C d_Lc_cell_57 ?_
    refine q_goto (pc := 58) 64 C d_Lc_cell_58 (by decide) ?_
    exact q_lret (pc := 64) C hr d_Lc_cell_64 h
  have h := h6 hc
  refine q_ldc2 (pc := 19) C wd_596 d_Lc_cell_19 ?_
  exact q_lret (pc := 22) C hr d_Lc_cell_22 h
