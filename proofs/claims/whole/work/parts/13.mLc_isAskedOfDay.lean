theorem d_Lc_isAskedOfDay_0 : decode prog_1_method_42_code 0 = .ok (.iload_n 0, 1) := by decide +kernel
theorem d_Lc_isAskedOfDay_1 : decode prog_1_method_42_code 1 = .ok (.ifCond .lt 8, 3) := by decide +kernel
theorem d_Lc_isAskedOfDay_4 : decode prog_1_method_42_code 4 = .ok (.iload_n 0, 1) := by decide +kernel
theorem d_Lc_isAskedOfDay_5 : decode prog_1_method_42_code 5 = .ok (.iconst 4, 1) := by decide +kernel
theorem d_Lc_isAskedOfDay_6 : decode prog_1_method_42_code 6 = .ok (.if_icmp .le 15, 3) := by decide +kernel
theorem d_Lc_isAskedOfDay_9 : decode prog_1_method_42_code 9 = .ok (.iload_n 0, 1) := by decide +kernel
theorem d_Lc_isAskedOfDay_10 : decode prog_1_method_42_code 10 = .ok (.bipush 10, 2) := by decide +kernel
theorem d_Lc_isAskedOfDay_12 : decode prog_1_method_42_code 12 = .ok (.if_icmp .lt 13, 3) := by decide +kernel
theorem d_Lc_isAskedOfDay_15 : decode prog_1_method_42_code 15 = .ok (.iload_n 0, 1) := by decide +kernel
theorem d_Lc_isAskedOfDay_16 : decode prog_1_method_42_code 16 = .ok (.bipush 14, 2) := by decide +kernel
theorem d_Lc_isAskedOfDay_18 : decode prog_1_method_42_code 18 = .ok (.if_icmp .ge 7, 3) := by decide +kernel
theorem d_Lc_isAskedOfDay_21 : decode prog_1_method_42_code 21 = .ok (.iconst 1, 1) := by decide +kernel
theorem d_Lc_isAskedOfDay_22 : decode prog_1_method_42_code 22 = .ok (.goto 4, 3) := by decide +kernel
theorem d_Lc_isAskedOfDay_25 : decode prog_1_method_42_code 25 = .ok (.iconst 0, 1) := by decide +kernel
theorem d_Lc_isAskedOfDay_26 : decode prog_1_method_42_code 26 = .ok (.ireturn, 1) := by decide +kernel
abbrev y_Lc_isAskedOfDay : MethodName := ⟨"LoadCycles", "isAskedOfDay", "(I)Z"⟩
theorem mi_Lc_isAskedOfDay : miS y_Lc_isAskedOfDay prog_1_method_42_code 1 (some .boolean) 1 := ⟨wd_522, wd_65, wd_523, by decide, by decide, by decide +kernel⟩
def B_Lc_isAskedOfDay_9 (x0 : Int32) (σ : Sg) (K : Int32 → Prop)  : Prop :=
  ((x0 < (10 : Int32) → K (0 : Int32)) ∧ (¬ x0 < (10 : Int32) → (((14 : Int32) ≤ x0 → K (0 : Int32)) ∧ (¬ (14 : Int32) ≤ x0 → K (1 : Int32)))))
theorem t_Lc_isAskedOfDay_9 {X : Bx} {Y : Yx} {x0 : Int32} {σ : Sg} {K : Int32 → Prop}  (hY : YD Y) (C : Cx X Y prog_1_method_42_code 1 "LoadCycles" 0 0) (hr : (xh X).sig.returnType = some .boolean)   (h : B_Lc_isAskedOfDay_9 x0 σ K) : St X Y 1 (QI X Y (fun r τ => τ = σ ∧ K r)) 9 [(0, .int x0)] [] σ := by
  unfold B_Lc_isAskedOfDay_9 at h
  refine q_iload_n (pc := 9) C d_Lc_isAskedOfDay_9 rfl 0 rfl ?_
  refine q_bipush (pc := 10) (v := 10) C d_Lc_isAskedOfDay_10 (by decide) ?_
  obtain ⟨h3, h4⟩ := h
  refine q_icmp_lt (pc := 12) 25 C d_Lc_isAskedOfDay_12 (by decide) (fun hc => ?_) (fun hc => ?_)
  · have h := h3 hc
    refine q_iconst (pc := 25) (v := 0) C d_Lc_isAskedOfDay_25 (by decide) ?_
    exact q_zret (pc := 26) C hr d_Lc_isAskedOfDay_26 bz0 ⟨rfl, h⟩
  have h := h4 hc
  refine q_iload_n (pc := 15) C d_Lc_isAskedOfDay_15 rfl 0 rfl ?_
  refine q_bipush (pc := 16) (v := 14) C d_Lc_isAskedOfDay_16 (by decide) ?_
  obtain ⟨h1, h2⟩ := h
  refine q_icmp_ge (pc := 18) 25 C d_Lc_isAskedOfDay_18 (by decide) (fun hc => ?_) (fun hc => ?_)
  · have h := h1 hc
    refine q_iconst (pc := 25) (v := 0) C d_Lc_isAskedOfDay_25 (by decide) ?_
    exact q_zret (pc := 26) C hr d_Lc_isAskedOfDay_26 bz0 ⟨rfl, h⟩
  have h := h2 hc
  refine q_iconst (pc := 21) (v := 1) C d_Lc_isAskedOfDay_21 (by decide) ?_
  refine q_goto (pc := 22) 26 C d_Lc_isAskedOfDay_22 (by decide) ?_
  exact q_zret (pc := 26) C hr d_Lc_isAskedOfDay_26 bz1 ⟨rfl, h⟩
def w_Lc_isAskedOfDay (x0 : Int32) (σ : Sg) (K : Int32 → Prop) : Prop :=
  ((x0 < 0 → B_Lc_isAskedOfDay_9 x0 σ K) ∧ (¬ x0 < 0 → ((x0 ≤ (4 : Int32) → K (1 : Int32)) ∧ (¬ x0 ≤ (4 : Int32) → B_Lc_isAskedOfDay_9 x0 σ K))))
set_option maxHeartbeats 4000000 in
theorem m_Lc_isAskedOfDay {Y : Yx} {x0 : Int32} {σ : Sg} {K : Int32 → Prop} (hY : YD Y)  (h : w_Lc_isAskedOfDay x0 σ K) : MetI Y y_Lc_isAskedOfDay prog_1_method_42_code 1 (.boolean) 0 0 [.int x0] σ (fun r τ => τ = σ ∧ K r) := by
  refine met_I [(0, .int x0)] hY (by decide) (Nat.le_of_ble_eq_true rfl) rfl (fun X C hr => ?_)
  unfold w_Lc_isAskedOfDay at h
  refine q_iload_n (pc := 0) C d_Lc_isAskedOfDay_0 rfl 0 rfl ?_
  obtain ⟨h7, h8⟩ := h
  refine q_if_lt (pc := 1) 9 C d_Lc_isAskedOfDay_1 (by decide) (fun hc => ?_) (fun hc => ?_)
  · have h := h7 hc
    exact t_Lc_isAskedOfDay_9 hY C hr h
  have h := h8 hc
  refine q_iload_n (pc := 4) C d_Lc_isAskedOfDay_4 rfl 0 rfl ?_
  refine q_iconst (pc := 5) (v := 4) C d_Lc_isAskedOfDay_5 (by decide) ?_
  obtain ⟨h5, h6⟩ := h
  refine q_icmp_le (pc := 6) 21 C d_Lc_isAskedOfDay_6 (by decide) (fun hc => ?_) (fun hc => ?_)
  · have h := h5 hc
    refine q_iconst (pc := 21) (v := 1) C d_Lc_isAskedOfDay_21 (by decide) ?_
    refine q_goto (pc := 22) 26 C d_Lc_isAskedOfDay_22 (by decide) ?_
    exact q_zret (pc := 26) C hr d_Lc_isAskedOfDay_26 bz1 ⟨rfl, h⟩
  have h := h6 hc
  exact t_Lc_isAskedOfDay_9 hY C hr h
theorem d_Lc_isPair_0 : decode prog_1_method_44_code 0 = .ok (.iload_n 1, 1) := by decide +kernel
theorem d_Lc_isPair_1 : decode prog_1_method_44_code 1 = .ok (.ifCond .lt 14, 3) := by decide +kernel
theorem d_Lc_isPair_4 : decode prog_1_method_44_code 4 = .ok (.iload_n 1, 1) := by decide +kernel
theorem d_Lc_isPair_5 : decode prog_1_method_44_code 5 = .ok (.bipush 12, 2) := by decide +kernel
theorem d_Lc_isPair_7 : decode prog_1_method_44_code 7 = .ok (.if_icmp .ge 8, 3) := by decide +kernel
theorem d_Lc_isPair_10 : decode prog_1_method_44_code 10 = .ok (.iload_n 0, 1) := by decide +kernel
theorem d_Lc_isPair_11 : decode prog_1_method_44_code 11 = .ok (.invokestatic 127, 3) := by decide +kernel
theorem d_Lc_isPair_14 : decode prog_1_method_44_code 14 = .ok (.ireturn, 1) := by decide +kernel
theorem d_Lc_isPair_15 : decode prog_1_method_44_code 15 = .ok (.iload_n 1, 1) := by decide +kernel
theorem d_Lc_isPair_16 : decode prog_1_method_44_code 16 = .ok (.bipush 20, 2) := by decide +kernel
theorem d_Lc_isPair_18 : decode prog_1_method_44_code 18 = .ok (.if_icmp .eq 15, 3) := by decide +kernel
theorem d_Lc_isPair_21 : decode prog_1_method_44_code 21 = .ok (.iload_n 1, 1) := by decide +kernel
theorem d_Lc_isPair_22 : decode prog_1_method_44_code 22 = .ok (.bipush 30, 2) := by decide +kernel
theorem d_Lc_isPair_24 : decode prog_1_method_44_code 24 = .ok (.if_icmp .lt 20, 3) := by decide +kernel
theorem d_Lc_isPair_27 : decode prog_1_method_44_code 27 = .ok (.iload_n 1, 1) := by decide +kernel
theorem d_Lc_isPair_28 : decode prog_1_method_44_code 28 = .ok (.bipush 50, 2) := by decide +kernel
theorem d_Lc_isPair_30 : decode prog_1_method_44_code 30 = .ok (.if_icmp .ge 14, 3) := by decide +kernel
theorem d_Lc_isPair_33 : decode prog_1_method_44_code 33 = .ok (.iload_n 0, 1) := by decide +kernel
theorem d_Lc_isPair_34 : decode prog_1_method_44_code 34 = .ok (.invokestatic 163, 3) := by decide +kernel
theorem d_Lc_isPair_37 : decode prog_1_method_44_code 37 = .ok (.ifCond .eq 7, 3) := by decide +kernel
theorem d_Lc_isPair_40 : decode prog_1_method_44_code 40 = .ok (.iconst 1, 1) := by decide +kernel
theorem d_Lc_isPair_41 : decode prog_1_method_44_code 41 = .ok (.goto 4, 3) := by decide +kernel
theorem d_Lc_isPair_44 : decode prog_1_method_44_code 44 = .ok (.iconst 0, 1) := by decide +kernel
theorem d_Lc_isPair_45 : decode prog_1_method_44_code 45 = .ok (.ireturn, 1) := by decide +kernel
abbrev y_Lc_isPair : MethodName := ⟨"LoadCycles", "isPair", "(II)Z"⟩
theorem mi_Lc_isPair : miS y_Lc_isPair prog_1_method_44_code 2 (some .boolean) 2 := ⟨wd_528, wd_65, wd_529, by decide, by decide, by decide +kernel⟩
def B_Lc_isPair_33 (x0 : Int32) (x1 : Int32) (σ : Sg) (K : Int32 → Prop)  : Prop :=
  w_Lc_isMeterValue x0 σ (fun u34 => ((u34 = 0 → K (0 : Int32)) ∧ (¬ u34 = 0 → K (1 : Int32))))
theorem t_Lc_isPair_33 {X : Bx} {Y : Yx} {x0 : Int32} {x1 : Int32} {σ : Sg} {K : Int32 → Prop}  (hY : YD Y) (C : Cx X Y prog_1_method_44_code 2 "LoadCycles" 1 20) (hr : (xh X).sig.returnType = some .boolean)   (h : B_Lc_isPair_33 x0 x1 σ K) : St X Y 2 (QI X Y (fun r τ => τ = σ ∧ K r)) 33 [(0, .int x0)] [] σ := by
  unfold B_Lc_isPair_33 at h
  refine q_iload_n (pc := 33) C d_Lc_isPair_33 rfl 0 rfl ?_
  refine q_callSIr (pc := 34) (st := []) C (m_Lc_isMeterValue hY h) mi_Lc_isMeterValue wd_410 rfl rfl (Nat.le_of_ble_eq_true rfl) (by decide) (by decide) d_Lc_isPair_34 (fun u34 h => ?_)
  obtain ⟨h1, h2⟩ := h
  refine q_if_eq (pc := 37) 44 C d_Lc_isPair_37 (by decide) (fun hc => ?_) (fun hc => ?_)
  · have h := h1 hc
    refine q_iconst (pc := 44) (v := 0) C d_Lc_isPair_44 (by decide) ?_
    exact q_zret (pc := 45) C hr d_Lc_isPair_45 bz0 ⟨rfl, h⟩
  have h := h2 hc
  refine q_iconst (pc := 40) (v := 1) C d_Lc_isPair_40 (by decide) ?_
  refine q_goto (pc := 41) 45 C d_Lc_isPair_41 (by decide) ?_
  exact q_zret (pc := 45) C hr d_Lc_isPair_45 bz1 ⟨rfl, h⟩
def B_Lc_isPair_15 (x0 : Int32) (x1 : Int32) (σ : Sg) (K : Int32 → Prop)  : Prop :=
  ((x1 = (20 : Int32) → B_Lc_isPair_33 x0 x1 σ K) ∧ (¬ x1 = (20 : Int32) → ((x1 < (30 : Int32) → K (0 : Int32)) ∧ (¬ x1 < (30 : Int32) → (((50 : Int32) ≤ x1 → K (0 : Int32)) ∧ (¬ (50 : Int32) ≤ x1 → B_Lc_isPair_33 x0 x1 σ K))))))
theorem t_Lc_isPair_15 {X : Bx} {Y : Yx} {x0 : Int32} {x1 : Int32} {σ : Sg} {K : Int32 → Prop}  (hY : YD Y) (C : Cx X Y prog_1_method_44_code 2 "LoadCycles" 1 20) (hr : (xh X).sig.returnType = some .boolean)   (h : B_Lc_isPair_15 x0 x1 σ K) : St X Y 2 (QI X Y (fun r τ => τ = σ ∧ K r)) 15 [(0, .int x0), (1, .int x1)] [] σ := by
  unfold B_Lc_isPair_15 at h
  refine q_iload_n (pc := 15) C d_Lc_isPair_15 rfl 1 rfl ?_
  refine q_bipush (pc := 16) (v := 20) C d_Lc_isPair_16 (by decide) ?_
  obtain ⟨h7, h8⟩ := h
  refine q_icmp_eq (pc := 18) 33 C d_Lc_isPair_18 (by decide) (fun hc => ?_) (fun hc => ?_)
  · have h := h7 hc
    refine q_sub [(0, .int x0)] [0] rfl ?_
    exact t_Lc_isPair_33 hY C hr h
  have h := h8 hc
  refine q_iload_n (pc := 21) C d_Lc_isPair_21 rfl 1 rfl ?_
  refine q_bipush (pc := 22) (v := 30) C d_Lc_isPair_22 (by decide) ?_
  obtain ⟨h5, h6⟩ := h
  refine q_icmp_lt (pc := 24) 44 C d_Lc_isPair_24 (by decide) (fun hc => ?_) (fun hc => ?_)
  · have h := h5 hc
    refine q_iconst (pc := 44) (v := 0) C d_Lc_isPair_44 (by decide) ?_
    exact q_zret (pc := 45) C hr d_Lc_isPair_45 bz0 ⟨rfl, h⟩
  have h := h6 hc
  refine q_iload_n (pc := 27) C d_Lc_isPair_27 rfl 1 rfl ?_
  refine q_bipush (pc := 28) (v := 50) C d_Lc_isPair_28 (by decide) ?_
  obtain ⟨h3, h4⟩ := h
  refine q_icmp_ge (pc := 30) 44 C d_Lc_isPair_30 (by decide) (fun hc => ?_) (fun hc => ?_)
  · have h := h3 hc
    refine q_iconst (pc := 44) (v := 0) C d_Lc_isPair_44 (by decide) ?_
    exact q_zret (pc := 45) C hr d_Lc_isPair_45 bz0 ⟨rfl, h⟩
  have h := h4 hc
  refine q_sub [(0, .int x0)] [0] rfl ?_
  exact t_Lc_isPair_33 hY C hr h
def w_Lc_isPair (x0 : Int32) (x1 : Int32) (σ : Sg) (K : Int32 → Prop) : Prop :=
  ((x1 < 0 → B_Lc_isPair_15 x0 x1 σ K) ∧ (¬ x1 < 0 → (((12 : Int32) ≤ x1 → B_Lc_isPair_15 x0 x1 σ K) ∧ (¬ (12 : Int32) ≤ x1 → w_Lc_isLevelValue x0 σ (fun u11 => (bz u11 ∧ K u11))))))
set_option maxHeartbeats 4000000 in
theorem m_Lc_isPair {Y : Yx} {x0 : Int32} {x1 : Int32} {σ : Sg} {K : Int32 → Prop} (hY : YD Y)  (h : w_Lc_isPair x0 x1 σ K) : MetI Y y_Lc_isPair prog_1_method_44_code 2 (.boolean) 1 20 [.int x0, .int x1] σ (fun r τ => τ = σ ∧ K r) := by
  refine met_I [(0, .int x0), (1, .int x1)] hY (by decide) (Nat.le_of_ble_eq_true rfl) rfl (fun X C hr => ?_)
  unfold w_Lc_isPair at h
  refine q_iload_n (pc := 0) C d_Lc_isPair_0 rfl 1 rfl ?_
  obtain ⟨h12, h13⟩ := h
  refine q_if_lt (pc := 1) 15 C d_Lc_isPair_1 (by decide) (fun hc => ?_) (fun hc => ?_)
  · have h := h12 hc
    exact t_Lc_isPair_15 hY C hr h
  have h := h13 hc
  refine q_iload_n (pc := 4) C d_Lc_isPair_4 rfl 1 rfl ?_
  refine q_bipush (pc := 5) (v := 12) C d_Lc_isPair_5 (by decide) ?_
  obtain ⟨h10, h11⟩ := h
  refine q_icmp_ge (pc := 7) 15 C d_Lc_isPair_7 (by decide) (fun hc => ?_) (fun hc => ?_)
  · have h := h10 hc
    exact t_Lc_isPair_15 hY C hr h
  have h := h11 hc
  refine q_iload_n (pc := 10) C d_Lc_isPair_10 rfl 0 rfl ?_
  refine q_callSIr (pc := 11) (st := []) C (m_Lc_isLevelValue hY h) mi_Lc_isLevelValue wd_381 rfl rfl (Nat.le_of_ble_eq_true rfl) (by decide) (by decide) d_Lc_isPair_11 (fun u11 h => ?_)
  obtain ⟨h9, h⟩ := h
  exact q_zret (pc := 14) C hr d_Lc_isPair_14 h9 ⟨rfl, h⟩
theorem d_Lc_arePairs_0 : decode prog_1_method_43_code 0 = .ok (.iconst 0, 1) := by decide +kernel
theorem d_Lc_arePairs_1 : decode prog_1_method_43_code 1 = .ok (.istore_n 3, 1) := by decide +kernel
theorem d_Lc_arePairs_2 : decode prog_1_method_43_code 2 = .ok (.iload_n 3, 1) := by decide +kernel
theorem d_Lc_arePairs_3 : decode prog_1_method_43_code 3 = .ok (.iload_n 2, 1) := by decide +kernel
theorem d_Lc_arePairs_4 : decode prog_1_method_43_code 4 = .ok (.if_icmp .ge 39, 3) := by decide +kernel
theorem d_Lc_arePairs_7 : decode prog_1_method_43_code 7 = .ok (.aload_n 0, 1) := by decide +kernel
theorem d_Lc_arePairs_8 : decode prog_1_method_43_code 8 = .ok (.getfield 142, 3) := by decide +kernel
theorem d_Lc_arePairs_11 : decode prog_1_method_43_code 11 = .ok (.iload_n 1, 1) := by decide +kernel
theorem d_Lc_arePairs_12 : decode prog_1_method_43_code 12 = .ok (.iconst 2, 1) := by decide +kernel
theorem d_Lc_arePairs_13 : decode prog_1_method_43_code 13 = .ok (.iload_n 3, 1) := by decide +kernel
theorem d_Lc_arePairs_14 : decode prog_1_method_43_code 14 = .ok (.imul, 1) := by decide +kernel
theorem d_Lc_arePairs_15 : decode prog_1_method_43_code 15 = .ok (.iadd, 1) := by decide +kernel
theorem d_Lc_arePairs_16 : decode prog_1_method_43_code 16 = .ok (.iaload, 1) := by decide +kernel
theorem d_Lc_arePairs_17 : decode prog_1_method_43_code 17 = .ok (.aload_n 0, 1) := by decide +kernel
theorem d_Lc_arePairs_18 : decode prog_1_method_43_code 18 = .ok (.getfield 142, 3) := by decide +kernel
theorem d_Lc_arePairs_21 : decode prog_1_method_43_code 21 = .ok (.iload_n 1, 1) := by decide +kernel
theorem d_Lc_arePairs_22 : decode prog_1_method_43_code 22 = .ok (.iconst 2, 1) := by decide +kernel
theorem d_Lc_arePairs_23 : decode prog_1_method_43_code 23 = .ok (.iload_n 3, 1) := by decide +kernel
theorem d_Lc_arePairs_24 : decode prog_1_method_43_code 24 = .ok (.imul, 1) := by decide +kernel
theorem d_Lc_arePairs_25 : decode prog_1_method_43_code 25 = .ok (.iadd, 1) := by decide +kernel
theorem d_Lc_arePairs_26 : decode prog_1_method_43_code 26 = .ok (.iconst 1, 1) := by decide +kernel
theorem d_Lc_arePairs_27 : decode prog_1_method_43_code 27 = .ok (.iadd, 1) := by decide +kernel
theorem d_Lc_arePairs_28 : decode prog_1_method_43_code 28 = .ok (.iaload, 1) := by decide +kernel
theorem d_Lc_arePairs_29 : decode prog_1_method_43_code 29 = .ok (.invokestatic 274, 3) := by decide +kernel
theorem d_Lc_arePairs_32 : decode prog_1_method_43_code 32 = .ok (.ifCond .ne 5, 3) := by decide +kernel
theorem d_Lc_arePairs_35 : decode prog_1_method_43_code 35 = .ok (.iconst 0, 1) := by decide +kernel
theorem d_Lc_arePairs_36 : decode prog_1_method_43_code 36 = .ok (.ireturn, 1) := by decide +kernel
theorem d_Lc_arePairs_37 : decode prog_1_method_43_code 37 = .ok (.iinc 3 1, 3) := by decide +kernel
theorem d_Lc_arePairs_40 : decode prog_1_method_43_code 40 = .ok (.goto (-38), 3) := by decide +kernel
theorem d_Lc_arePairs_43 : decode prog_1_method_43_code 43 = .ok (.iconst 1, 1) := by decide +kernel
theorem d_Lc_arePairs_44 : decode prog_1_method_43_code 44 = .ok (.ireturn, 1) := by decide +kernel
abbrev y_Lc_arePairs : MethodName := ⟨"LoadCycles", "arePairs", "(LLoadCycles$Sheet;II)Z"⟩
theorem mi_Lc_arePairs : miS y_Lc_arePairs prog_1_method_43_code 4 (some .boolean) 3 := ⟨wd_525, wd_65, wd_526, by decide, by decide, by decide +kernel⟩
def L_Lc_arePairs_2 (o0 : Nat) (x1 : Int32) (x2 : Int32) (σ : Sg) (K : Int32 → Prop) : Nat → Int32 → Prop
  | 0, _ => False
  | n + 1, v3 =>
    ((x2 ≤ v3 → K (1 : Int32)) ∧ (¬ x2 ≤ v3 → (vp_in (x1 + ((2 : Int32) * v3)) 60 ∧ (vp_in ((x1 + ((2 : Int32) * v3)) + (1 : Int32)) 60 ∧ w_Lc_isPair (σ (o0 + 1) (x1 + ((2 : Int32) * v3)).toNatClampNeg) (σ (o0 + 1) ((x1 + ((2 : Int32) * v3)) + (1 : Int32)).toNatClampNeg) σ (fun u29 => ((¬ u29 = 0 → L_Lc_arePairs_2 o0 x1 x2 σ K n (v3 + (1 : Int32))) ∧ (u29 = 0 → K (0 : Int32))))))))
theorem t_Lc_arePairs_2 {X : Bx} {Y : Yx} {o0 : Nat} {x1 : Int32} {x2 : Int32} {σ : Sg} {K : Int32 → Prop}  (hY : YD Y) (C : Cx X Y prog_1_method_43_code 4 "LoadCycles" 2 41) (hr : (xh X).sig.returnType = some .boolean) (ho0 : kd o0 = 3) : ∀ (n : Nat) (v3 : Int32), L_Lc_arePairs_2 o0 x1 x2 σ K n v3 → St X Y 4 (QI X Y (fun r τ => τ = σ ∧ K r)) 2 [(0, .ref (ya Y o0)), (1, .int x1), (2, .int x2), (3, .int v3)] [] σ := by
  intro n
  induction n with
  | zero => intro v3 h; exact h.elim
  | succ n ih =>
    intro v3 h
    unfold L_Lc_arePairs_2 at h
    refine q_iload_n (pc := 2) C d_Lc_arePairs_2 rfl 3 rfl ?_
    refine q_iload_n (pc := 3) C d_Lc_arePairs_3 rfl 2 rfl ?_
    obtain ⟨h5, h6⟩ := h
    refine q_icmp_ge (pc := 4) 43 C d_Lc_arePairs_4 (by decide) (fun hc => ?_) (fun hc => ?_)
    · have h := h5 hc
      refine q_iconst (pc := 43) (v := 1) C d_Lc_arePairs_43 (by decide) ?_
      exact q_zret (pc := 44) C hr d_Lc_arePairs_44 bz1 ⟨rfl, h⟩
    have h := h6 hc
    refine q_aload_n (pc := 7) C d_Lc_arePairs_7 rfl 0 rfl ?_
    refine q_get (pc := 8) (c := o0) (ci := 3) (k := 0) (v := .ref (ya Y (o0 + 1))) C ho0 (by decide) (by decide) wd_219 rfl d_Lc_arePairs_8 ?_
    refine q_iload_n (pc := 11) C d_Lc_arePairs_11 rfl 1 rfl ?_
    refine q_iconst (pc := 12) (v := 2) C d_Lc_arePairs_12 (by decide) ?_
    refine q_iload_n (pc := 13) C d_Lc_arePairs_13 rfl 3 rfl ?_
    refine q_imul (pc := 14) C d_Lc_arePairs_14 ?_
    refine q_iadd (pc := 15) C d_Lc_arePairs_15 ?_
    obtain ⟨h1, h⟩ := h
    refine q_iald (pc := 16) (c := (o0 + 1)) C (k3_1 ho0) h1 d_Lc_arePairs_16 ?_
    refine q_aload_n (pc := 17) C d_Lc_arePairs_17 rfl 0 rfl ?_
    refine q_get (pc := 18) (c := o0) (ci := 3) (k := 0) (v := .ref (ya Y (o0 + 1))) C ho0 (by decide) (by decide) wd_219 rfl d_Lc_arePairs_18 ?_
    refine q_iload_n (pc := 21) C d_Lc_arePairs_21 rfl 1 rfl ?_
    refine q_iconst (pc := 22) (v := 2) C d_Lc_arePairs_22 (by decide) ?_
    refine q_iload_n (pc := 23) C d_Lc_arePairs_23 rfl 3 rfl ?_
    refine q_imul (pc := 24) C d_Lc_arePairs_24 ?_
    refine q_iadd (pc := 25) C d_Lc_arePairs_25 ?_
    refine q_iconst (pc := 26) (v := 1) C d_Lc_arePairs_26 (by decide) ?_
    refine q_iadd (pc := 27) C d_Lc_arePairs_27 ?_
    obtain ⟨h2, h⟩ := h
    refine q_iald (pc := 28) (c := (o0 + 1)) C (k3_1 ho0) h2 d_Lc_arePairs_28 ?_
    refine q_callSIr (pc := 29) (st := []) C (m_Lc_isPair hY h) mi_Lc_isPair wd_527 rfl rfl (Nat.le_of_ble_eq_true rfl) (by decide) (by decide) d_Lc_arePairs_29 (fun u29 h => ?_)
    obtain ⟨h3, h4⟩ := h
    refine q_if_ne (pc := 32) 37 C d_Lc_arePairs_32 (by decide) (fun hc => ?_) (fun hc => ?_)
    · have h := h3 hc
      refine q_iinc (pc := 37) (v3 + (1 : Int32)) [(3, .int (v3 + (1 : Int32))), (0, .ref (ya Y o0)), (1, .int x1), (2, .int x2)] C d_Lc_arePairs_37 3 rfl rfl (by decide) rfl ?_
      refine q_goto (pc := 40) 2 C d_Lc_arePairs_40 (by decide) ?_
      refine q_sub [(0, .ref (ya Y o0)), (1, .int x1), (2, .int x2), (3, .int (v3 + (1 : Int32)))] [1, 2, 3, 0] rfl ?_
      exact ih (v3 + (1 : Int32)) h
    have h := h4 hc
    refine q_iconst (pc := 35) (v := 0) C d_Lc_arePairs_35 (by decide) ?_
    exact q_zret (pc := 36) C hr d_Lc_arePairs_36 bz0 ⟨rfl, h⟩
def w_Lc_arePairs (o0 : Nat) (x1 : Int32) (x2 : Int32) (σ : Sg) (K : Int32 → Prop) : Prop :=
  (∃ n7 : Nat, L_Lc_arePairs_2 o0 x1 x2 σ K n7 (0 : Int32))
set_option maxHeartbeats 4000000 in
theorem m_Lc_arePairs {Y : Yx} {o0 : Nat} {x1 : Int32} {x2 : Int32} {σ : Sg} {K : Int32 → Prop} (hY : YD Y) (ho0 : kd o0 = 3) (h : w_Lc_arePairs o0 x1 x2 σ K) : MetI Y y_Lc_arePairs prog_1_method_43_code 4 (.boolean) 2 41 [.ref (ya Y o0), .int x1, .int x2] σ (fun r τ => τ = σ ∧ K r) := by
  refine met_I [(0, .ref (ya Y o0)), (1, .int x1), (2, .int x2)] hY (by decide) (Nat.le_of_ble_eq_true rfl) rfl (fun X C hr => ?_)
  unfold w_Lc_arePairs at h
  refine q_iconst (pc := 0) (v := 0) C d_Lc_arePairs_0 (by decide) ?_
  refine q_istore_n (pc := 1) [(3, .int (0 : Int32)), (0, .ref (ya Y o0)), (1, .int x1), (2, .int x2)] C d_Lc_arePairs_1 rfl (by decide) rfl ?_
  obtain ⟨n7, h⟩ := h
  refine q_sub [(0, .ref (ya Y o0)), (1, .int x1), (2, .int x2), (3, .int (0 : Int32))] [1, 2, 3, 0] rfl ?_
  exact t_Lc_arePairs_2 hY C hr ho0 n7 (0 : Int32) h
theorem d_Ho_actedOnBase_0 : decode prog_4_method_18_code 0 = .ok (.aload_n 0, 1) := by decide +kernel
theorem d_Ho_actedOnBase_1 : decode prog_4_method_18_code 1 = .ok (.iload_n 1, 1) := by decide +kernel
theorem d_Ho_actedOnBase_2 : decode prog_4_method_18_code 2 = .ok (.invokevirtual 60, 3) := by decide +kernel
theorem d_Ho_actedOnBase_5 : decode prog_4_method_18_code 5 = .ok (.ifCond .ne 5, 3) := by decide +kernel
theorem d_Ho_actedOnBase_8 : decode prog_4_method_18_code 8 = .ok (.iconst 0, 1) := by decide +kernel
theorem d_Ho_actedOnBase_9 : decode prog_4_method_18_code 9 = .ok (.ireturn, 1) := by decide +kernel
theorem d_Ho_actedOnBase_10 : decode prog_4_method_18_code 10 = .ok (.aload_n 0, 1) := by decide +kernel
theorem d_Ho_actedOnBase_11 : decode prog_4_method_18_code 11 = .ok (.iload_n 1, 1) := by decide +kernel
theorem d_Ho_actedOnBase_12 : decode prog_4_method_18_code 12 = .ok (.putfield 37, 3) := by decide +kernel
theorem d_Ho_actedOnBase_15 : decode prog_4_method_18_code 15 = .ok (.iconst 1, 1) := by decide +kernel
theorem d_Ho_actedOnBase_16 : decode prog_4_method_18_code 16 = .ok (.ireturn, 1) := by decide +kernel
abbrev y_Ho_actedOnBase : MethodName := ⟨"LoadCycles$House", "actedOnBase", "(I)Z"⟩
theorem mi_Ho_actedOnBase : miV y_Ho_actedOnBase prog_4_method_18_code 2 (some .boolean) 1 := ⟨wd_540, wd_17, wd_66, wd_541, by decide, by decide, by decide +kernel⟩
def w_Ho_actedOnBase (o : Nat) (x1 : Int32) (σ : Sg) (K : Int32 → Sg → Prop) : Prop :=
  w_Ho_allowsBase o x1 σ (fun u2 => ((¬ u2 = 0 → (∀ τ12 : Sg, τ12 = s2 σ o 6 x1 → K (1 : Int32) τ12)) ∧ (u2 = 0 → K (0 : Int32) σ)))
set_option maxHeartbeats 4000000 in
theorem m_Ho_actedOnBase {Y : Yx} {o : Nat} {x1 : Int32} {σ : Sg} {K : Int32 → Sg → Prop} (hY : YD Y) (ho : kd o = 2) (h : w_Ho_actedOnBase o x1 σ K) : MetI Y y_Ho_actedOnBase prog_4_method_18_code 2 (.boolean) 1 22 [.ref (ya Y o), .int x1] σ K := by
  refine met_I [(0, .ref (ya Y o)), (1, .int x1)] hY (by decide) (Nat.le_of_ble_eq_true rfl) rfl (fun X C hr => ?_)
  unfold w_Ho_actedOnBase at h
  refine q_aload_n (pc := 0) C d_Ho_actedOnBase_0 rfl 0 rfl ?_
  refine q_iload_n (pc := 1) C d_Ho_actedOnBase_1 rfl 1 rfl ?_
  refine q_callVIr (pc := 2) (st := []) (d := o) C (m_Ho_allowsBase hY ho h) mi_Ho_allowsBase ho (by decide) rfl wd_542 rfl rfl (Nat.le_of_ble_eq_true rfl) (by decide) (by decide) d_Ho_actedOnBase_2 (fun u2 h => ?_)
  obtain ⟨h1, h2⟩ := h
  refine q_if_ne (pc := 5) 10 C d_Ho_actedOnBase_5 (by decide) (fun hc => ?_) (fun hc => ?_)
  · have h := h1 hc
    refine q_aload_n (pc := 10) C d_Ho_actedOnBase_10 rfl 0 rfl ?_
    refine q_iload_n (pc := 11) C d_Ho_actedOnBase_11 rfl 1 rfl ?_
    refine q_put (pc := 12) (c := o) (ci := 2) (k := 6) C ho (by decide) (by decide) wd_108 rfl rfl rfl fs_2_6 d_Ho_actedOnBase_12 ?_
    refine q_nms (fun τ12 eτ12 => ?_)
    replace h := h τ12 eτ12
    refine q_iconst (pc := 15) (v := 1) C d_Ho_actedOnBase_15 (by decide) ?_
    exact q_zret (pc := 16) C hr d_Ho_actedOnBase_16 bz1 h
  have h := h2 hc
  refine q_iconst (pc := 8) (v := 0) C d_Ho_actedOnBase_8 (by decide) ?_
  exact q_zret (pc := 9) C hr d_Ho_actedOnBase_9 bz0 h
theorem d_Ho_actedOnValue_0 : decode prog_4_method_19_code 0 = .ok (.aload_n 0, 1) := by decide +kernel
theorem d_Ho_actedOnValue_1 : decode prog_4_method_19_code 1 = .ok (.iload_n 2, 1) := by decide +kernel
theorem d_Ho_actedOnValue_2 : decode prog_4_method_19_code 2 = .ok (.invokevirtual 63, 3) := by decide +kernel
theorem d_Ho_actedOnValue_5 : decode prog_4_method_19_code 5 = .ok (.ifCond .eq 11, 3) := by decide +kernel
theorem d_Ho_actedOnValue_8 : decode prog_4_method_19_code 8 = .ok (.iload_n 1, 1) := by decide +kernel
theorem d_Ho_actedOnValue_9 : decode prog_4_method_19_code 9 = .ok (.aload_n 0, 1) := by decide +kernel
theorem d_Ho_actedOnValue_10 : decode prog_4_method_19_code 10 = .ok (.getfield 37, 3) := by decide +kernel
theorem d_Ho_actedOnValue_13 : decode prog_4_method_19_code 13 = .ok (.if_icmp .ge 5, 3) := by decide +kernel
theorem d_Ho_actedOnValue_16 : decode prog_4_method_19_code 16 = .ok (.iconst 0, 1) := by decide +kernel
theorem d_Ho_actedOnValue_17 : decode prog_4_method_19_code 17 = .ok (.ireturn, 1) := by decide +kernel
theorem d_Ho_actedOnValue_18 : decode prog_4_method_19_code 18 = .ok (.aload_n 0, 1) := by decide +kernel
theorem d_Ho_actedOnValue_19 : decode prog_4_method_19_code 19 = .ok (.getfield 21, 3) := by decide +kernel
theorem d_Ho_actedOnValue_22 : decode prog_4_method_19_code 22 = .ok (.iload_n 2, 1) := by decide +kernel
theorem d_Ho_actedOnValue_23 : decode prog_4_method_19_code 23 = .ok (.iload_n 1, 1) := by decide +kernel
theorem d_Ho_actedOnValue_24 : decode prog_4_method_19_code 24 = .ok (.iastore, 1) := by decide +kernel
theorem d_Ho_actedOnValue_25 : decode prog_4_method_19_code 25 = .ok (.iconst 1, 1) := by decide +kernel
theorem d_Ho_actedOnValue_26 : decode prog_4_method_19_code 26 = .ok (.ireturn, 1) := by decide +kernel
abbrev y_Ho_actedOnValue : MethodName := ⟨"LoadCycles$House", "actedOnValue", "(II)Z"⟩
theorem mi_Ho_actedOnValue : miV y_Ho_actedOnValue prog_4_method_19_code 3 (some .boolean) 2 := ⟨wd_545, wd_18, wd_66, wd_546, by decide, by decide, by decide +kernel⟩
def w_Ho_actedOnValue (o : Nat) (x1 : Int32) (x2 : Int32) (σ : Sg) (K : Int32 → Sg → Prop) : Prop :=
  w_Ho_hasTime o x2 σ (fun u2 => ((u2 = 0 → K (0 : Int32) σ) ∧ (¬ u2 = 0 → (((σ o 6) ≤ x1 → (vp_in x2 20 ∧ (∀ τ24 : Sg, τ24 = s2 σ (o + 4) x2.toNatClampNeg x1 → K (1 : Int32) τ24))) ∧ (¬ (σ o 6) ≤ x1 → K (0 : Int32) σ)))))
set_option maxHeartbeats 4000000 in
theorem m_Ho_actedOnValue {Y : Yx} {o : Nat} {x1 : Int32} {x2 : Int32} {σ : Sg} {K : Int32 → Sg → Prop} (hY : YD Y) (ho : kd o = 2) (h : w_Ho_actedOnValue o x1 x2 σ K) : MetI Y y_Ho_actedOnValue prog_4_method_19_code 3 (.boolean) 1 21 [.ref (ya Y o), .int x1, .int x2] σ K := by
  refine met_I [(0, .ref (ya Y o)), (1, .int x1), (2, .int x2)] hY (by decide) (Nat.le_of_ble_eq_true rfl) rfl (fun X C hr => ?_)
  unfold w_Ho_actedOnValue at h
  refine q_aload_n (pc := 0) C d_Ho_actedOnValue_0 rfl 0 rfl ?_
  refine q_iload_n (pc := 1) C d_Ho_actedOnValue_1 rfl 2 rfl ?_
  refine q_callVIr (pc := 2) (st := []) (d := o) C (m_Ho_hasTime hY ho h) mi_Ho_hasTime ho (by decide) rfl wd_547 rfl rfl (Nat.le_of_ble_eq_true rfl) (by decide) (by decide) d_Ho_actedOnValue_2 (fun u2 h => ?_)
  obtain ⟨h4, h5⟩ := h
  refine q_if_eq (pc := 5) 16 C d_Ho_actedOnValue_5 (by decide) (fun hc => ?_) (fun hc => ?_)
  · have h := h4 hc
    refine q_iconst (pc := 16) (v := 0) C d_Ho_actedOnValue_16 (by decide) ?_
    exact q_zret (pc := 17) C hr d_Ho_actedOnValue_17 bz0 h
  have h := h5 hc
  refine q_iload_n (pc := 8) C d_Ho_actedOnValue_8 rfl 1 rfl ?_
  refine q_aload_n (pc := 9) C d_Ho_actedOnValue_9 rfl 0 rfl ?_
  refine q_get (pc := 10) (c := o) (ci := 2) (k := 6) (v := .int (σ o 6)) C ho (by decide) (by decide) wd_108 rfl d_Ho_actedOnValue_10 ?_
  obtain ⟨h2, h3⟩ := h
  refine q_icmp_ge (pc := 13) 18 C d_Ho_actedOnValue_13 (by decide) (fun hc => ?_) (fun hc => ?_)
  · have h := h2 hc
    refine q_aload_n (pc := 18) C d_Ho_actedOnValue_18 rfl 0 rfl ?_
    refine q_get (pc := 19) (c := o) (ci := 2) (k := 3) (v := .ref (ya Y (o + 4))) C ho (by decide) (by decide) wd_97 rfl d_Ho_actedOnValue_19 ?_
    refine q_iload_n (pc := 22) C d_Ho_actedOnValue_22 rfl 2 rfl ?_
    refine q_iload_n (pc := 23) C d_Ho_actedOnValue_23 rfl 1 rfl ?_
    obtain ⟨h1, h⟩ := h
    refine q_iast (pc := 24) (c := (o + 4)) C (k2_4 ho) h1 d_Ho_actedOnValue_24 ?_
    refine q_nms (fun τ24 eτ24 => ?_)
    replace h := h τ24 eτ24
    refine q_iconst (pc := 25) (v := 1) C d_Ho_actedOnValue_25 (by decide) ?_
    exact q_zret (pc := 26) C hr d_Ho_actedOnValue_26 bz1 h
  have h := h3 hc
  refine q_iconst (pc := 16) (v := 0) C d_Ho_actedOnValue_16 (by decide) ?_
  exact q_zret (pc := 17) C hr d_Ho_actedOnValue_17 bz0 h
theorem d_Ho_actedOnLevel_0 : decode prog_4_method_20_code 0 = .ok (.aload_n 0, 1) := by decide +kernel
theorem d_Ho_actedOnLevel_1 : decode prog_4_method_20_code 1 = .ok (.iload_n 2, 1) := by decide +kernel
theorem d_Ho_actedOnLevel_2 : decode prog_4_method_20_code 2 = .ok (.invokevirtual 66, 3) := by decide +kernel
theorem d_Ho_actedOnLevel_5 : decode prog_4_method_20_code 5 = .ok (.ifCond .eq 12, 3) := by decide +kernel
theorem d_Ho_actedOnLevel_8 : decode prog_4_method_20_code 8 = .ok (.aload_n 0, 1) := by decide +kernel
theorem d_Ho_actedOnLevel_9 : decode prog_4_method_20_code 9 = .ok (.iload_n 2, 1) := by decide +kernel
theorem d_Ho_actedOnLevel_10 : decode prog_4_method_20_code 10 = .ok (.iload_n 3, 1) := by decide +kernel
theorem d_Ho_actedOnLevel_11 : decode prog_4_method_20_code 11 = .ok (.invokevirtual 69, 3) := by decide +kernel
theorem d_Ho_actedOnLevel_14 : decode prog_4_method_20_code 14 = .ok (.ifCond .ne 5, 3) := by decide +kernel
theorem d_Ho_actedOnLevel_17 : decode prog_4_method_20_code 17 = .ok (.iconst 0, 1) := by decide +kernel
theorem d_Ho_actedOnLevel_18 : decode prog_4_method_20_code 18 = .ok (.ireturn, 1) := by decide +kernel
theorem d_Ho_actedOnLevel_19 : decode prog_4_method_20_code 19 = .ok (.aload_n 0, 1) := by decide +kernel
theorem d_Ho_actedOnLevel_20 : decode prog_4_method_20_code 20 = .ok (.iload_n 2, 1) := by decide +kernel
theorem d_Ho_actedOnLevel_21 : decode prog_4_method_20_code 21 = .ok (.iload_n 3, 1) := by decide +kernel
theorem d_Ho_actedOnLevel_22 : decode prog_4_method_20_code 22 = .ok (.iload_n 1, 1) := by decide +kernel
theorem d_Ho_actedOnLevel_23 : decode prog_4_method_20_code 23 = .ok (.invokevirtual 40, 3) := by decide +kernel
theorem d_Ho_actedOnLevel_26 : decode prog_4_method_20_code 26 = .ok (.iconst 1, 1) := by decide +kernel
theorem d_Ho_actedOnLevel_27 : decode prog_4_method_20_code 27 = .ok (.ireturn, 1) := by decide +kernel
abbrev y_Ho_actedOnLevel : MethodName := ⟨"LoadCycles$House", "actedOnLevel", "(III)Z"⟩
theorem mi_Ho_actedOnLevel : miV y_Ho_actedOnLevel prog_4_method_20_code 4 (some .boolean) 3 := ⟨wd_550, wd_19, wd_66, wd_551, by decide, by decide, by decide +kernel⟩
def w_Ho_actedOnLevel (o : Nat) (x1 : Int32) (x2 : Int32) (x3 : Int32) (σ : Sg) (K : Int32 → Sg → Prop) : Prop :=
  w_Ho_hasAppliance o x2 σ (fun u2 => ((u2 = 0 → K (0 : Int32) σ) ∧ (¬ u2 = 0 → w_Ho_hasLevel o x2 x3 σ (fun u11 => ((¬ u11 = 0 → w_Ho_setLevel o x2 x3 x1 σ (fun τ23 => K (1 : Int32) τ23)) ∧ (u11 = 0 → K (0 : Int32) σ))))))
set_option maxHeartbeats 4000000 in
theorem m_Ho_actedOnLevel {Y : Yx} {o : Nat} {x1 : Int32} {x2 : Int32} {x3 : Int32} {σ : Sg} {K : Int32 → Sg → Prop} (hY : YD Y) (ho : kd o = 2) (h : w_Ho_actedOnLevel o x1 x2 x3 σ K) : MetI Y y_Ho_actedOnLevel prog_4_method_20_code 4 (.boolean) 1 23 [.ref (ya Y o), .int x1, .int x2, .int x3] σ K := by
  refine met_I [(0, .ref (ya Y o)), (1, .int x1), (2, .int x2), (3, .int x3)] hY (by decide) (Nat.le_of_ble_eq_true rfl) rfl (fun X C hr => ?_)
  unfold w_Ho_actedOnLevel at h
  refine q_aload_n (pc := 0) C d_Ho_actedOnLevel_0 rfl 0 rfl ?_
  refine q_iload_n (pc := 1) C d_Ho_actedOnLevel_1 rfl 2 rfl ?_
  refine q_callVIr (pc := 2) (st := []) (d := o) C (m_Ho_hasAppliance hY ho h) mi_Ho_hasAppliance ho (by decide) rfl wd_552 rfl rfl (Nat.le_of_ble_eq_true rfl) (by decide) (by decide) d_Ho_actedOnLevel_2 (fun u2 h => ?_)
  obtain ⟨h3, h4⟩ := h
  refine q_if_eq (pc := 5) 17 C d_Ho_actedOnLevel_5 (by decide) (fun hc => ?_) (fun hc => ?_)
  · have h := h3 hc
    refine q_iconst (pc := 17) (v := 0) C d_Ho_actedOnLevel_17 (by decide) ?_
    exact q_zret (pc := 18) C hr d_Ho_actedOnLevel_18 bz0 h
  have h := h4 hc
  refine q_aload_n (pc := 8) C d_Ho_actedOnLevel_8 rfl 0 rfl ?_
  refine q_iload_n (pc := 9) C d_Ho_actedOnLevel_9 rfl 2 rfl ?_
  refine q_iload_n (pc := 10) C d_Ho_actedOnLevel_10 rfl 3 rfl ?_
  refine q_callVIr (pc := 11) (st := []) (d := o) C (m_Ho_hasLevel hY ho h) mi_Ho_hasLevel ho (by decide) rfl wd_553 rfl rfl (Nat.le_of_ble_eq_true rfl) (by decide) (by decide) d_Ho_actedOnLevel_11 (fun u11 h => ?_)
  obtain ⟨h1, h2⟩ := h
  refine q_if_ne (pc := 14) 19 C d_Ho_actedOnLevel_14 (by decide) (fun hc => ?_) (fun hc => ?_)
  · have h := h1 hc
    refine q_aload_n (pc := 19) C d_Ho_actedOnLevel_19 rfl 0 rfl ?_
    refine q_iload_n (pc := 20) C d_Ho_actedOnLevel_20 rfl 2 rfl ?_
    refine q_iload_n (pc := 21) C d_Ho_actedOnLevel_21 rfl 3 rfl ?_
    refine q_iload_n (pc := 22) C d_Ho_actedOnLevel_22 rfl 1 rfl ?_
    refine q_callVV (pc := 23) (st := []) (d := o) C (m_Ho_setLevel hY ho h) mi_Ho_setLevel ho (by decide) rfl wd_334 rfl rfl (Nat.le_of_ble_eq_true rfl) (by decide) (by decide) d_Ho_actedOnLevel_23 (fun τ23 h => ?_)
    refine q_iconst (pc := 26) (v := 1) C d_Ho_actedOnLevel_26 (by decide) ?_
    exact q_zret (pc := 27) C hr d_Ho_actedOnLevel_27 bz1 h
  have h := h2 hc
  refine q_iconst (pc := 17) (v := 0) C d_Ho_actedOnLevel_17 (by decide) ?_
  exact q_zret (pc := 18) C hr d_Ho_actedOnLevel_18 bz0 h
theorem d_Ho_acted_0 : decode prog_4_method_17_code 0 = .ok (.iload_n 2, 1) := by decide +kernel
theorem d_Ho_acted_1 : decode prog_4_method_17_code 1 = .ok (.bipush 20, 2) := by decide +kernel
theorem d_Ho_acted_3 : decode prog_4_method_17_code 3 = .ok (.if_icmp .ne 9, 3) := by decide +kernel
theorem d_Ho_acted_6 : decode prog_4_method_17_code 6 = .ok (.aload_n 0, 1) := by decide +kernel
theorem d_Ho_acted_7 : decode prog_4_method_17_code 7 = .ok (.iload_n 1, 1) := by decide +kernel
theorem d_Ho_acted_8 : decode prog_4_method_17_code 8 = .ok (.invokevirtual 48, 3) := by decide +kernel
theorem d_Ho_acted_11 : decode prog_4_method_17_code 11 = .ok (.ireturn, 1) := by decide +kernel
theorem d_Ho_acted_12 : decode prog_4_method_17_code 12 = .ok (.iload_n 2, 1) := by decide +kernel
theorem d_Ho_acted_13 : decode prog_4_method_17_code 13 = .ok (.bipush 30, 2) := by decide +kernel
theorem d_Ho_acted_15 : decode prog_4_method_17_code 15 = .ok (.if_icmp .lt 15, 3) := by decide +kernel
theorem d_Ho_acted_18 : decode prog_4_method_17_code 18 = .ok (.aload_n 0, 1) := by decide +kernel
theorem d_Ho_acted_19 : decode prog_4_method_17_code 19 = .ok (.iload_n 1, 1) := by decide +kernel
theorem d_Ho_acted_20 : decode prog_4_method_17_code 20 = .ok (.iload_n 2, 1) := by decide +kernel
theorem d_Ho_acted_21 : decode prog_4_method_17_code 21 = .ok (.bipush 30, 2) := by decide +kernel
theorem d_Ho_acted_23 : decode prog_4_method_17_code 23 = .ok (.isub, 1) := by decide +kernel
theorem d_Ho_acted_24 : decode prog_4_method_17_code 24 = .ok (.invokevirtual 52, 3) := by decide +kernel
theorem d_Ho_acted_27 : decode prog_4_method_17_code 27 = .ok (.goto 14, 3) := by decide +kernel
theorem d_Ho_acted_30 : decode prog_4_method_17_code 30 = .ok (.aload_n 0, 1) := by decide +kernel
theorem d_Ho_acted_31 : decode prog_4_method_17_code 31 = .ok (.iload_n 1, 1) := by decide +kernel
theorem d_Ho_acted_32 : decode prog_4_method_17_code 32 = .ok (.iload_n 2, 1) := by decide +kernel
theorem d_Ho_acted_33 : decode prog_4_method_17_code 33 = .ok (.iconst 3, 1) := by decide +kernel
theorem d_Ho_acted_34 : decode prog_4_method_17_code 34 = .ok (.idiv, 1) := by decide +kernel
theorem d_Ho_acted_35 : decode prog_4_method_17_code 35 = .ok (.iload_n 2, 1) := by decide +kernel
theorem d_Ho_acted_36 : decode prog_4_method_17_code 36 = .ok (.iconst 3, 1) := by decide +kernel
theorem d_Ho_acted_37 : decode prog_4_method_17_code 37 = .ok (.irem, 1) := by decide +kernel
theorem d_Ho_acted_38 : decode prog_4_method_17_code 38 = .ok (.invokevirtual 56, 3) := by decide +kernel
theorem d_Ho_acted_41 : decode prog_4_method_17_code 41 = .ok (.ireturn, 1) := by decide +kernel
abbrev y_Ho_acted : MethodName := ⟨"LoadCycles$House", "acted", "(II)Z"⟩
theorem mi_Ho_acted : miV y_Ho_acted prog_4_method_17_code 3 (some .boolean) 2 := ⟨wd_535, wd_536, wd_66, wd_537, by decide, by decide, by decide +kernel⟩
def w_Ho_acted (o : Nat) (x1 : Int32) (x2 : Int32) (σ : Sg) (K : Int32 → Sg → Prop) : Prop :=
  ((¬ x2 = (20 : Int32) → ((x2 < (30 : Int32) → (¬ (3 : Int32) = 0 ∧ (¬ (3 : Int32) = 0 ∧ w_Ho_actedOnLevel o x1 (x2 / (3 : Int32)) (x2 - x2 / (3 : Int32) * (3 : Int32)) σ (fun u38 τ38 => (bz u38 ∧ K u38 τ38))))) ∧ (¬ x2 < (30 : Int32) → w_Ho_actedOnValue o x1 (x2 - (30 : Int32)) σ (fun u24 τ24 => (bz u24 ∧ K u24 τ24))))) ∧ (x2 = (20 : Int32) → w_Ho_actedOnBase o x1 σ (fun u8 τ8 => (bz u8 ∧ K u8 τ8))))
set_option maxHeartbeats 4000000 in
theorem m_Ho_acted {Y : Yx} {o : Nat} {x1 : Int32} {x2 : Int32} {σ : Sg} {K : Int32 → Sg → Prop} (hY : YD Y) (ho : kd o = 2) (h : w_Ho_acted o x1 x2 σ K) : MetI Y y_Ho_acted prog_4_method_17_code 3 (.boolean) 2 46 [.ref (ya Y o), .int x1, .int x2] σ K := by
  refine met_I [(0, .ref (ya Y o)), (1, .int x1), (2, .int x2)] hY (by decide) (Nat.le_of_ble_eq_true rfl) rfl (fun X C hr => ?_)
  unfold w_Ho_acted at h
  refine q_iload_n (pc := 0) C d_Ho_acted_0 rfl 2 rfl ?_
  refine q_bipush (pc := 1) (v := 20) C d_Ho_acted_1 (by decide) ?_
  obtain ⟨h8, h9⟩ := h
  refine q_icmp_ne (pc := 3) 12 C d_Ho_acted_3 (by decide) (fun hc => ?_) (fun hc => ?_)
  · have h := h8 hc
    refine q_iload_n (pc := 12) C d_Ho_acted_12 rfl 2 rfl ?_
    refine q_bipush (pc := 13) (v := 30) C d_Ho_acted_13 (by decide) ?_
    obtain ⟨h5, h6⟩ := h
    refine q_icmp_lt (pc := 15) 30 C d_Ho_acted_15 (by decide) (fun hc => ?_) (fun hc => ?_)
    · have h := h5 hc
      refine q_aload_n (pc := 30) C d_Ho_acted_30 rfl 0 rfl ?_
      refine q_iload_n (pc := 31) C d_Ho_acted_31 rfl 1 rfl ?_
      refine q_iload_n (pc := 32) C d_Ho_acted_32 rfl 2 rfl ?_
      refine q_iconst (pc := 33) (v := 3) C d_Ho_acted_33 (by decide) ?_
      obtain ⟨h1, h⟩ := h
      refine q_idiv (pc := 34) C d_Ho_acted_34 h1 ?_
      refine q_iload_n (pc := 35) C d_Ho_acted_35 rfl 2 rfl ?_
      refine q_iconst (pc := 36) (v := 3) C d_Ho_acted_36 (by decide) ?_
      obtain ⟨h2, h⟩ := h
      refine q_irem (pc := 37) C d_Ho_acted_37 h2 ?_
      refine q_callVI (pc := 38) (st := []) (d := o) C (m_Ho_actedOnLevel hY ho h) mi_Ho_actedOnLevel ho (by decide) rfl wd_548 rfl rfl (Nat.le_of_ble_eq_true rfl) (by decide) (by decide) d_Ho_acted_38 (fun u38 τ38 h => ?_)
      obtain ⟨h3, h⟩ := h
      exact q_zret (pc := 41) C hr d_Ho_acted_41 h3 h
    have h := h6 hc
    refine q_aload_n (pc := 18) C d_Ho_acted_18 rfl 0 rfl ?_
    refine q_iload_n (pc := 19) C d_Ho_acted_19 rfl 1 rfl ?_
    refine q_iload_n (pc := 20) C d_Ho_acted_20 rfl 2 rfl ?_
    refine q_bipush (pc := 21) (v := 30) C d_Ho_acted_21 (by decide) ?_
    refine q_isub (pc := 23) C d_Ho_acted_23 ?_
    refine q_callVI (pc := 24) (st := []) (d := o) C (m_Ho_actedOnValue hY ho h) mi_Ho_actedOnValue ho (by decide) rfl wd_543 rfl rfl (Nat.le_of_ble_eq_true rfl) (by decide) (by decide) d_Ho_acted_24 (fun u24 τ24 h => ?_)
    refine q_goto (pc := 27) 41 C d_Ho_acted_27 (by decide) ?_
    obtain ⟨h4, h⟩ := h
    exact q_zret (pc := 41) C hr d_Ho_acted_41 h4 h
  have h := h9 hc
  refine q_aload_n (pc := 6) C d_Ho_acted_6 rfl 0 rfl ?_
  refine q_iload_n (pc := 7) C d_Ho_acted_7 rfl 1 rfl ?_
  refine q_callVI (pc := 8) (st := []) (d := o) C (m_Ho_actedOnBase hY ho h) mi_Ho_actedOnBase ho (by decide) rfl wd_538 rfl rfl (Nat.le_of_ble_eq_true rfl) (by decide) (by decide) d_Ho_acted_8 (fun u8 τ8 h => ?_)
  obtain ⟨h7, h⟩ := h
  exact q_zret (pc := 11) C hr d_Ho_acted_11 h7 h
theorem d_Lc_liveTrialDay_0 : decode prog_1_method_45_code 0 = .ok (.aload_n 0, 1) := by decide +kernel
theorem d_Lc_liveTrialDay_1 : decode prog_1_method_45_code 1 = .ok (.getfield 18, 3) := by decide +kernel
theorem d_Lc_liveTrialDay_4 : decode prog_1_method_45_code 4 = .ok (.aload_n 0, 1) := by decide +kernel
theorem d_Lc_liveTrialDay_5 : decode prog_1_method_45_code 5 = .ok (.getfield 12, 3) := by decide +kernel
theorem d_Lc_liveTrialDay_8 : decode prog_1_method_45_code 8 = .ok (.invokevirtual 95, 3) := by decide +kernel
theorem d_Lc_liveTrialDay_11 : decode prog_1_method_45_code 11 = .ok (.iconst 0, 1) := by decide +kernel
theorem d_Lc_liveTrialDay_12 : decode prog_1_method_45_code 12 = .ok (.istore 4, 2) := by decide +kernel
theorem d_Lc_liveTrialDay_14 : decode prog_1_method_45_code 14 = .ok (.iload 4, 2) := by decide +kernel
theorem d_Lc_liveTrialDay_16 : decode prog_1_method_45_code 16 = .ok (.iload_n 3, 1) := by decide +kernel
theorem d_Lc_liveTrialDay_17 : decode prog_1_method_45_code 17 = .ok (.if_icmp .ge 46, 3) := by decide +kernel
theorem d_Lc_liveTrialDay_20 : decode prog_1_method_45_code 20 = .ok (.aload_n 0, 1) := by decide +kernel
theorem d_Lc_liveTrialDay_21 : decode prog_1_method_45_code 21 = .ok (.getfield 18, 3) := by decide +kernel
theorem d_Lc_liveTrialDay_24 : decode prog_1_method_45_code 24 = .ok (.aload_n 1, 1) := by decide +kernel
theorem d_Lc_liveTrialDay_25 : decode prog_1_method_45_code 25 = .ok (.getfield 142, 3) := by decide +kernel
theorem d_Lc_liveTrialDay_28 : decode prog_1_method_45_code 28 = .ok (.iload_n 2, 1) := by decide +kernel
theorem d_Lc_liveTrialDay_29 : decode prog_1_method_45_code 29 = .ok (.iconst 2, 1) := by decide +kernel
theorem d_Lc_liveTrialDay_30 : decode prog_1_method_45_code 30 = .ok (.iload 4, 2) := by decide +kernel
theorem d_Lc_liveTrialDay_32 : decode prog_1_method_45_code 32 = .ok (.imul, 1) := by decide +kernel
theorem d_Lc_liveTrialDay_33 : decode prog_1_method_45_code 33 = .ok (.iadd, 1) := by decide +kernel
theorem d_Lc_liveTrialDay_34 : decode prog_1_method_45_code 34 = .ok (.iaload, 1) := by decide +kernel
theorem d_Lc_liveTrialDay_35 : decode prog_1_method_45_code 35 = .ok (.aload_n 1, 1) := by decide +kernel
theorem d_Lc_liveTrialDay_36 : decode prog_1_method_45_code 36 = .ok (.getfield 142, 3) := by decide +kernel
theorem d_Lc_liveTrialDay_39 : decode prog_1_method_45_code 39 = .ok (.iload_n 2, 1) := by decide +kernel
theorem d_Lc_liveTrialDay_40 : decode prog_1_method_45_code 40 = .ok (.iconst 2, 1) := by decide +kernel
theorem d_Lc_liveTrialDay_41 : decode prog_1_method_45_code 41 = .ok (.iload 4, 2) := by decide +kernel
theorem d_Lc_liveTrialDay_43 : decode prog_1_method_45_code 43 = .ok (.imul, 1) := by decide +kernel
theorem d_Lc_liveTrialDay_44 : decode prog_1_method_45_code 44 = .ok (.iadd, 1) := by decide +kernel
theorem d_Lc_liveTrialDay_45 : decode prog_1_method_45_code 45 = .ok (.iconst 1, 1) := by decide +kernel
theorem d_Lc_liveTrialDay_46 : decode prog_1_method_45_code 46 = .ok (.iadd, 1) := by decide +kernel
theorem d_Lc_liveTrialDay_47 : decode prog_1_method_45_code 47 = .ok (.iaload, 1) := by decide +kernel
theorem d_Lc_liveTrialDay_48 : decode prog_1_method_45_code 48 = .ok (.invokevirtual 277, 3) := by decide +kernel
theorem d_Lc_liveTrialDay_51 : decode prog_1_method_45_code 51 = .ok (.ifCond .ne 6, 3) := by decide +kernel
theorem d_Lc_liveTrialDay_54 : decode prog_1_method_45_code 54 = .ok (.iload 4, 2) := by decide +kernel
theorem d_Lc_liveTrialDay_56 : decode prog_1_method_45_code 56 = .ok (.ireturn, 1) := by decide +kernel
theorem d_Lc_liveTrialDay_57 : decode prog_1_method_45_code 57 = .ok (.iinc 4 1, 3) := by decide +kernel
theorem d_Lc_liveTrialDay_60 : decode prog_1_method_45_code 60 = .ok (.goto (-46), 3) := by decide +kernel
theorem d_Lc_liveTrialDay_63 : decode prog_1_method_45_code 63 = .ok (.bipush (-9), 2) := by decide +kernel
theorem d_Lc_liveTrialDay_65 : decode prog_1_method_45_code 65 = .ok (.ireturn, 1) := by decide +kernel
abbrev y_Lc_liveTrialDay : MethodName := ⟨"LoadCycles", "liveTrialDay", "(LLoadCycles$Sheet;II)I"⟩
theorem mi_Lc_liveTrialDay : miV y_Lc_liveTrialDay prog_1_method_45_code 5 (some .int) 3 := ⟨wd_532, wd_16, wd_65, wd_533, by decide, by decide, by decide +kernel⟩
def L_Lc_liveTrialDay_14 (o1 : Nat) (x2 : Int32) (x3 : Int32) (K : Int32 → Sg → Prop) : Nat → Int32 → Sg → Prop
  | 0, _, _ => False
  | n + 1, v4, σ =>
    ((x3 ≤ v4 → K (-9 : Int32) σ) ∧ (¬ x3 ≤ v4 → (vp_in (x2 + ((2 : Int32) * v4)) 60 ∧ (vp_in ((x2 + ((2 : Int32) * v4)) + (1 : Int32)) 60 ∧ w_Ho_acted 6 (σ (o1 + 1) (x2 + ((2 : Int32) * v4)).toNatClampNeg) (σ (o1 + 1) ((x2 + ((2 : Int32) * v4)) + (1 : Int32)).toNatClampNeg) σ (fun u48 τ48 => ((¬ u48 = 0 → L_Lc_liveTrialDay_14 o1 x2 x3 K n (v4 + (1 : Int32)) τ48) ∧ (u48 = 0 → K v4 τ48)))))))
theorem t_Lc_liveTrialDay_14 {X : Bx} {Y : Yx} {o1 : Nat} {x2 : Int32} {x3 : Int32} {K : Int32 → Sg → Prop}  (hY : YD Y) (C : Cx X Y prog_1_method_45_code 5 "LoadCycles" 3 81) (hr : (xh X).sig.returnType = some .int) (ho1 : kd o1 = 3) : ∀ (n : Nat) (v4 : Int32) (σ : Sg), L_Lc_liveTrialDay_14 o1 x2 x3 K n v4 σ → St X Y 5 (QI X Y K) 14 [(0, .ref (ya Y 0)), (1, .ref (ya Y o1)), (2, .int x2), (3, .int x3), (4, .int v4)] [] σ := by
  intro n
  induction n with
  | zero => intro v4 σ h; exact h.elim
  | succ n ih =>
    intro v4 σ h
    unfold L_Lc_liveTrialDay_14 at h
    refine q_iload (pc := 14) C d_Lc_liveTrialDay_14 4 rfl ?_
    refine q_iload_n (pc := 16) C d_Lc_liveTrialDay_16 rfl 3 rfl ?_
    obtain ⟨h5, h6⟩ := h
    refine q_icmp_ge (pc := 17) 63 C d_Lc_liveTrialDay_17 (by decide) (fun hc => ?_) (fun hc => ?_)
    · have h := h5 hc
      refine q_bipush (pc := 63) (v := -9) C d_Lc_liveTrialDay_63 (by decide) ?_
      exact q_iret (pc := 65) C hr d_Lc_liveTrialDay_65 h
    have h := h6 hc
    refine q_aload_n (pc := 20) C d_Lc_liveTrialDay_20 rfl 0 rfl ?_
    refine q_get (pc := 21) (c := 0) (ci := 6) (k := 1) (v := .ref (ya Y 6)) C rfl (by decide) (by decide) wd_231 rfl d_Lc_liveTrialDay_21 ?_
    refine q_aload_n (pc := 24) C d_Lc_liveTrialDay_24 rfl 1 rfl ?_
    refine q_get (pc := 25) (c := o1) (ci := 3) (k := 0) (v := .ref (ya Y (o1 + 1))) C ho1 (by decide) (by decide) wd_219 rfl d_Lc_liveTrialDay_25 ?_
    refine q_iload_n (pc := 28) C d_Lc_liveTrialDay_28 rfl 2 rfl ?_
    refine q_iconst (pc := 29) (v := 2) C d_Lc_liveTrialDay_29 (by decide) ?_
    refine q_iload (pc := 30) C d_Lc_liveTrialDay_30 4 rfl ?_
    refine q_imul (pc := 32) C d_Lc_liveTrialDay_32 ?_
    refine q_iadd (pc := 33) C d_Lc_liveTrialDay_33 ?_
    obtain ⟨h1, h⟩ := h
    refine q_iald (pc := 34) (c := (o1 + 1)) C (k3_1 ho1) h1 d_Lc_liveTrialDay_34 ?_
    refine q_aload_n (pc := 35) C d_Lc_liveTrialDay_35 rfl 1 rfl ?_
    refine q_get (pc := 36) (c := o1) (ci := 3) (k := 0) (v := .ref (ya Y (o1 + 1))) C ho1 (by decide) (by decide) wd_219 rfl d_Lc_liveTrialDay_36 ?_
    refine q_iload_n (pc := 39) C d_Lc_liveTrialDay_39 rfl 2 rfl ?_
    refine q_iconst (pc := 40) (v := 2) C d_Lc_liveTrialDay_40 (by decide) ?_
    refine q_iload (pc := 41) C d_Lc_liveTrialDay_41 4 rfl ?_
    refine q_imul (pc := 43) C d_Lc_liveTrialDay_43 ?_
    refine q_iadd (pc := 44) C d_Lc_liveTrialDay_44 ?_
    refine q_iconst (pc := 45) (v := 1) C d_Lc_liveTrialDay_45 (by decide) ?_
    refine q_iadd (pc := 46) C d_Lc_liveTrialDay_46 ?_
    obtain ⟨h2, h⟩ := h
    refine q_iald (pc := 47) (c := (o1 + 1)) C (k3_1 ho1) h2 d_Lc_liveTrialDay_47 ?_
    refine q_callVI (pc := 48) (st := []) (d := 6) C (m_Ho_acted hY rfl h) mi_Ho_acted rfl (by decide) rfl wd_534 rfl rfl (Nat.le_of_ble_eq_true rfl) (by decide) (by decide) d_Lc_liveTrialDay_48 (fun u48 τ48 h => ?_)
    obtain ⟨h3, h4⟩ := h
    refine q_if_ne (pc := 51) 57 C d_Lc_liveTrialDay_51 (by decide) (fun hc => ?_) (fun hc => ?_)
    · have h := h3 hc
      refine q_iinc (pc := 57) (v4 + (1 : Int32)) [(4, .int (v4 + (1 : Int32))), (0, .ref (ya Y 0)), (1, .ref (ya Y o1)), (2, .int x2), (3, .int x3)] C d_Lc_liveTrialDay_57 4 rfl rfl (by decide) rfl ?_
      refine q_goto (pc := 60) 14 C d_Lc_liveTrialDay_60 (by decide) ?_
      refine q_sub [(0, .ref (ya Y 0)), (1, .ref (ya Y o1)), (2, .int x2), (3, .int x3), (4, .int (v4 + (1 : Int32)))] [1, 2, 3, 4, 0] rfl ?_
      exact ih (v4 + (1 : Int32)) τ48 h
    have h := h4 hc
    refine q_iload (pc := 54) C d_Lc_liveTrialDay_54 4 rfl ?_
    exact q_iret (pc := 56) C hr d_Lc_liveTrialDay_56 h
def w_Lc_liveTrialDay (o1 : Nat) (x2 : Int32) (x3 : Int32) (σ : Sg) (K : Int32 → Sg → Prop) : Prop :=
  w_Ho_become 6 1 σ (fun τ8 => (∃ n7 : Nat, L_Lc_liveTrialDay_14 o1 x2 x3 K n7 (0 : Int32) τ8))
set_option maxHeartbeats 4000000 in
theorem m_Lc_liveTrialDay {Y : Yx} {o1 : Nat} {x2 : Int32} {x3 : Int32} {σ : Sg} {K : Int32 → Sg → Prop} (hY : YD Y) (ho1 : kd o1 = 3) (h : w_Lc_liveTrialDay o1 x2 x3 σ K) : MetI Y y_Lc_liveTrialDay prog_1_method_45_code 5 (.int) 3 81 [.ref (ya Y 0), .ref (ya Y o1), .int x2, .int x3] σ K := by
  refine met_I [(0, .ref (ya Y 0)), (1, .ref (ya Y o1)), (2, .int x2), (3, .int x3)] hY (by decide) (Nat.le_of_ble_eq_true rfl) rfl (fun X C hr => ?_)
  unfold w_Lc_liveTrialDay at h
  refine q_aload_n (pc := 0) C d_Lc_liveTrialDay_0 rfl 0 rfl ?_
  refine q_get (pc := 1) (c := 0) (ci := 6) (k := 1) (v := .ref (ya Y 6)) C rfl (by decide) (by decide) wd_231 rfl d_Lc_liveTrialDay_1 ?_
  refine q_aload_n (pc := 4) C d_Lc_liveTrialDay_4 rfl 0 rfl ?_
  refine q_get (pc := 5) (c := 0) (ci := 6) (k := 0) (v := .ref (ya Y 1)) C rfl (by decide) (by decide) wd_230 rfl d_Lc_liveTrialDay_5 ?_
  refine q_callVV (pc := 8) (st := []) (d := 6) C (m_Ho_become hY rfl rfl h) mi_Ho_become rfl (by decide) rfl wd_338 rfl rfl (Nat.le_of_ble_eq_true rfl) (by decide) (by decide) d_Lc_liveTrialDay_8 (fun τ8 h => ?_)
  refine q_iconst (pc := 11) (v := 0) C d_Lc_liveTrialDay_11 (by decide) ?_
  refine q_istore (pc := 12) [(4, .int (0 : Int32)), (0, .ref (ya Y 0)), (1, .ref (ya Y o1)), (2, .int x2), (3, .int x3)] C d_Lc_liveTrialDay_12 (by decide) rfl ?_
  obtain ⟨n7, h⟩ := h
  refine q_sub [(0, .ref (ya Y 0)), (1, .ref (ya Y o1)), (2, .int x2), (3, .int x3), (4, .int (0 : Int32))] [1, 2, 3, 4, 0] rfl ?_
  exact t_Lc_liveTrialDay_14 hY C hr ho1 n7 (0 : Int32) τ8 h
theorem d_Lc_answerOfTrialDay_0 : decode prog_1_method_46_code 0 = .ok (.aload_n 0, 1) := by decide +kernel
theorem d_Lc_answerOfTrialDay_1 : decode prog_1_method_46_code 1 = .ok (.getfield 34, 3) := by decide +kernel
theorem d_Lc_answerOfTrialDay_4 : decode prog_1_method_46_code 4 = .ok (.aload_n 0, 1) := by decide +kernel
theorem d_Lc_answerOfTrialDay_5 : decode prog_1_method_46_code 5 = .ok (.getfield 18, 3) := by decide +kernel
theorem d_Lc_answerOfTrialDay_8 : decode prog_1_method_46_code 8 = .ok (.aload_n 0, 1) := by decide +kernel
theorem d_Lc_answerOfTrialDay_9 : decode prog_1_method_46_code 9 = .ok (.getfield 28, 3) := by decide +kernel
theorem d_Lc_answerOfTrialDay_12 : decode prog_1_method_46_code 12 = .ok (.invokevirtual 270, 3) := by decide +kernel
theorem d_Lc_answerOfTrialDay_15 : decode prog_1_method_46_code 15 = .ok (.iload_n 1, 1) := by decide +kernel
theorem d_Lc_answerOfTrialDay_16 : decode prog_1_method_46_code 16 = .ok (.bipush 10, 2) := by decide +kernel
theorem d_Lc_answerOfTrialDay_18 : decode prog_1_method_46_code 18 = .ok (.if_icmp .lt 35, 3) := by decide +kernel
theorem d_Lc_answerOfTrialDay_21 : decode prog_1_method_46_code 21 = .ok (.aload_n 0, 1) := by decide +kernel
theorem d_Lc_answerOfTrialDay_22 : decode prog_1_method_46_code 22 = .ok (.getfield 18, 3) := by decide +kernel
theorem d_Lc_answerOfTrialDay_25 : decode prog_1_method_46_code 25 = .ok (.iload_n 1, 1) := by decide +kernel
theorem d_Lc_answerOfTrialDay_26 : decode prog_1_method_46_code 26 = .ok (.bipush 10, 2) := by decide +kernel
theorem d_Lc_answerOfTrialDay_28 : decode prog_1_method_46_code 28 = .ok (.isub, 1) := by decide +kernel
theorem d_Lc_answerOfTrialDay_29 : decode prog_1_method_46_code 29 = .ok (.invokevirtual 108, 3) := by decide +kernel
theorem d_Lc_answerOfTrialDay_32 : decode prog_1_method_46_code 32 = .ok (.ifCond .eq 18, 3) := by decide +kernel
theorem d_Lc_answerOfTrialDay_35 : decode prog_1_method_46_code 35 = .ok (.aload_n 0, 1) := by decide +kernel
theorem d_Lc_answerOfTrialDay_36 : decode prog_1_method_46_code 36 = .ok (.getfield 28, 3) := by decide +kernel
theorem d_Lc_answerOfTrialDay_39 : decode prog_1_method_46_code 39 = .ok (.getfield 182, 3) := by decide +kernel
theorem d_Lc_answerOfTrialDay_42 : decode prog_1_method_46_code 42 = .ok (.iload_n 1, 1) := by decide +kernel
theorem d_Lc_answerOfTrialDay_43 : decode prog_1_method_46_code 43 = .ok (.bipush 10, 2) := by decide +kernel
theorem d_Lc_answerOfTrialDay_45 : decode prog_1_method_46_code 45 = .ok (.isub, 1) := by decide +kernel
theorem d_Lc_answerOfTrialDay_46 : decode prog_1_method_46_code 46 = .ok (.iaload, 1) := by decide +kernel
theorem d_Lc_answerOfTrialDay_47 : decode prog_1_method_46_code 47 = .ok (.goto 5, 3) := by decide +kernel
theorem d_Lc_answerOfTrialDay_50 : decode prog_1_method_46_code 50 = .ok (.bipush (-9), 2) := by decide +kernel
theorem d_Lc_answerOfTrialDay_52 : decode prog_1_method_46_code 52 = .ok (.ireturn, 1) := by decide +kernel
theorem d_Lc_answerOfTrialDay_53 : decode prog_1_method_46_code 53 = .ok (.aload_n 0, 1) := by decide +kernel
theorem d_Lc_answerOfTrialDay_54 : decode prog_1_method_46_code 54 = .ok (.getfield 28, 3) := by decide +kernel
theorem d_Lc_answerOfTrialDay_57 : decode prog_1_method_46_code 57 = .ok (.iload_n 1, 1) := by decide +kernel
theorem d_Lc_answerOfTrialDay_58 : decode prog_1_method_46_code 58 = .ok (.ifCond .ne 7, 3) := by decide +kernel
theorem d_Lc_answerOfTrialDay_61 : decode prog_1_method_46_code 61 = .ok (.iconst 0, 1) := by decide +kernel
theorem d_Lc_answerOfTrialDay_62 : decode prog_1_method_46_code 62 = .ok (.goto 6, 3) := by decide +kernel
theorem d_Lc_answerOfTrialDay_65 : decode prog_1_method_46_code 65 = .ok (.iload_n 1, 1) := by decide +kernel
theorem d_Lc_answerOfTrialDay_66 : decode prog_1_method_46_code 66 = .ok (.iconst 1, 1) := by decide +kernel
theorem d_Lc_answerOfTrialDay_67 : decode prog_1_method_46_code 67 = .ok (.isub, 1) := by decide +kernel
theorem d_Lc_answerOfTrialDay_68 : decode prog_1_method_46_code 68 = .ok (.invokevirtual 179, 3) := by decide +kernel
theorem d_Lc_answerOfTrialDay_71 : decode prog_1_method_46_code 71 = .ok (.ireturn, 1) := by decide +kernel
abbrev y_Lc_answerOfTrialDay : MethodName := ⟨"LoadCycles", "answerOfTrialDay", "(I)I"⟩
theorem mi_Lc_answerOfTrialDay : miV y_Lc_answerOfTrialDay prog_1_method_46_code 2 (some .int) 1 := ⟨wd_556, wd_20, wd_65, wd_557, by decide, by decide, by decide +kernel⟩
def B_Lc_answerOfTrialDay_68 (x1 : Int32) (K : Int32 → Sg → Prop) (vs0 : Int32) (σ : Sg) : Prop :=
  w_Do_numberOf 19 vs0 σ (fun u68 => K u68 σ)
theorem t_Lc_answerOfTrialDay_68 {X : Bx} {Y : Yx} {x1 : Int32} {vs0 : Int32} {K : Int32 → Sg → Prop}  (hY : YD Y) (C : Cx X Y prog_1_method_46_code 2 "LoadCycles" 4 111) (hr : (xh X).sig.returnType = some .int)   {σ : Sg} (h : B_Lc_answerOfTrialDay_68 x1 K vs0 σ) : St X Y 2 (QI X Y K) 68 [] [.int vs0, .ref (ya Y 19)] σ := by
  unfold B_Lc_answerOfTrialDay_68 at h
  refine q_callVIr (pc := 68) (st := []) (d := 19) C (m_Do_numberOf hY rfl h) mi_Do_numberOf rfl (by decide) rfl wd_509 rfl rfl (Nat.le_of_ble_eq_true rfl) (by decide) (by decide) d_Lc_answerOfTrialDay_68 (fun u68 h => ?_)
  exact q_iret (pc := 71) C hr d_Lc_answerOfTrialDay_71 h
def w_Lc_answerOfTrialDay (x1 : Int32) (σ : Sg) (K : Int32 → Sg → Prop) : Prop :=
  w_Un_unmix 6 19 σ (fun τ12 => ((x1 < (10 : Int32) → ((¬ x1 = 0 → B_Lc_answerOfTrialDay_68 x1 K (x1 - (1 : Int32)) τ12) ∧ (x1 = 0 → B_Lc_answerOfTrialDay_68 x1 K (0 : Int32) τ12))) ∧ (¬ x1 < (10 : Int32) → w_Ho_hasAppliance 6 (x1 - (10 : Int32)) τ12 (fun u29 => ((u29 = 0 → K (-9 : Int32) τ12) ∧ (¬ u29 = 0 → (vp_in (x1 - (10 : Int32)) 4 ∧ K (τ12 21 (x1 - (10 : Int32)).toNatClampNeg) τ12)))))))
set_option maxHeartbeats 4000000 in
theorem m_Lc_answerOfTrialDay {Y : Yx} {x1 : Int32} {σ : Sg} {K : Int32 → Sg → Prop} (hY : YD Y)  (h : w_Lc_answerOfTrialDay x1 σ K) : MetI Y y_Lc_answerOfTrialDay prog_1_method_46_code 2 (.int) 4 111 [.ref (ya Y 0), .int x1] σ K := by
  refine met_I [(0, .ref (ya Y 0)), (1, .int x1)] hY (by decide) (Nat.le_of_ble_eq_true rfl) rfl (fun X C hr => ?_)
  unfold w_Lc_answerOfTrialDay at h
  refine q_aload_n (pc := 0) C d_Lc_answerOfTrialDay_0 rfl 0 rfl ?_
  refine q_get (pc := 1) (c := 0) (ci := 6) (k := 4) (v := .ref (ya Y 22)) C rfl (by decide) (by decide) wd_234 rfl d_Lc_answerOfTrialDay_1 ?_
  refine q_aload_n (pc := 4) C d_Lc_answerOfTrialDay_4 rfl 0 rfl ?_
  refine q_get (pc := 5) (c := 0) (ci := 6) (k := 1) (v := .ref (ya Y 6)) C rfl (by decide) (by decide) wd_231 rfl d_Lc_answerOfTrialDay_5 ?_
  refine q_aload_n (pc := 8) C d_Lc_answerOfTrialDay_8 rfl 0 rfl ?_
  refine q_get (pc := 9) (c := 0) (ci := 6) (k := 3) (v := .ref (ya Y 19)) C rfl (by decide) (by decide) wd_233 rfl d_Lc_answerOfTrialDay_9 ?_
  refine q_callVV (pc := 12) (st := []) (d := 22) C (m_Un_unmix hY rfl rfl h) mi_Un_unmix rfl (by decide) rfl wd_425 rfl rfl (Nat.le_of_ble_eq_true rfl) (by decide) (by decide) d_Lc_answerOfTrialDay_12 (fun τ12 h => ?_)
  refine q_iload_n (pc := 15) C d_Lc_answerOfTrialDay_15 rfl 1 rfl ?_
  refine q_bipush (pc := 16) (v := 10) C d_Lc_answerOfTrialDay_16 (by decide) ?_
  obtain ⟨h6, h7⟩ := h
  refine q_icmp_lt (pc := 18) 53 C d_Lc_answerOfTrialDay_18 (by decide) (fun hc => ?_) (fun hc => ?_)
  · have h := h6 hc
    refine q_aload_n (pc := 53) C d_Lc_answerOfTrialDay_53 rfl 0 rfl ?_
    refine q_get (pc := 54) (c := 0) (ci := 6) (k := 3) (v := .ref (ya Y 19)) C rfl (by decide) (by decide) wd_233 rfl d_Lc_answerOfTrialDay_54 ?_
    refine q_iload_n (pc := 57) C d_Lc_answerOfTrialDay_57 rfl 1 rfl ?_
    obtain ⟨h1, h2⟩ := h
    refine q_if_ne (pc := 58) 65 C d_Lc_answerOfTrialDay_58 (by decide) (fun hc => ?_) (fun hc => ?_)
    · have h := h1 hc
      refine q_iload_n (pc := 65) C d_Lc_answerOfTrialDay_65 rfl 1 rfl ?_
      refine q_iconst (pc := 66) (v := 1) C d_Lc_answerOfTrialDay_66 (by decide) ?_
      refine q_isub (pc := 67) C d_Lc_answerOfTrialDay_67 ?_
      refine q_sub [] [] rfl ?_
      exact t_Lc_answerOfTrialDay_68 hY C hr h
    have h := h2 hc
    refine q_iconst (pc := 61) (v := 0) C d_Lc_answerOfTrialDay_61 (by decide) ?_
    refine q_goto (pc := 62) 68 C d_Lc_answerOfTrialDay_62 (by decide) ?_
    refine q_sub [] [] rfl ?_
    exact t_Lc_answerOfTrialDay_68 hY C hr h
  have h := h7 hc
  refine q_aload_n (pc := 21) C d_Lc_answerOfTrialDay_21 rfl 0 rfl ?_
  refine q_get (pc := 22) (c := 0) (ci := 6) (k := 1) (v := .ref (ya Y 6)) C rfl (by decide) (by decide) wd_231 rfl d_Lc_answerOfTrialDay_22 ?_
  refine q_iload_n (pc := 25) C d_Lc_answerOfTrialDay_25 rfl 1 rfl ?_
  refine q_bipush (pc := 26) (v := 10) C d_Lc_answerOfTrialDay_26 (by decide) ?_
  refine q_isub (pc := 28) C d_Lc_answerOfTrialDay_28 ?_
  refine q_callVIr (pc := 29) (st := []) (d := 6) C (m_Ho_hasAppliance hY rfl h) mi_Ho_hasAppliance rfl (by decide) rfl wd_357 rfl rfl (Nat.le_of_ble_eq_true rfl) (by decide) (by decide) d_Lc_answerOfTrialDay_29 (fun u29 h => ?_)
  obtain ⟨h4, h5⟩ := h
  refine q_if_eq (pc := 32) 50 C d_Lc_answerOfTrialDay_32 (by decide) (fun hc => ?_) (fun hc => ?_)
  · have h := h4 hc
    refine q_bipush (pc := 50) (v := -9) C d_Lc_answerOfTrialDay_50 (by decide) ?_
    exact q_iret (pc := 52) C hr d_Lc_answerOfTrialDay_52 h
  have h := h5 hc
  refine q_aload_n (pc := 35) C d_Lc_answerOfTrialDay_35 rfl 0 rfl ?_
  refine q_get (pc := 36) (c := 0) (ci := 6) (k := 3) (v := .ref (ya Y 19)) C rfl (by decide) (by decide) wd_233 rfl d_Lc_answerOfTrialDay_36 ?_
  refine q_get (pc := 39) (c := 19) (ci := 0) (k := 1) (v := .ref (ya Y 21)) C rfl (by decide) (by decide) wd_137 rfl d_Lc_answerOfTrialDay_39 ?_
  refine q_iload_n (pc := 42) C d_Lc_answerOfTrialDay_42 rfl 1 rfl ?_
  refine q_bipush (pc := 43) (v := 10) C d_Lc_answerOfTrialDay_43 (by decide) ?_
  refine q_isub (pc := 45) C d_Lc_answerOfTrialDay_45 ?_
  obtain ⟨h3, h⟩ := h
  refine q_iald (pc := 46) (c := 21) C ⟨rfl, rfl⟩ h3 d_Lc_answerOfTrialDay_46 ?_
  refine q_goto (pc := 47) 52 C d_Lc_answerOfTrialDay_47 (by decide) ?_
  exact q_iret (pc := 52) C hr d_Lc_answerOfTrialDay_52 h
theorem d_Lc_day_0 : decode prog_1_method_12_code 0 = .ok (.aload_n 0, 1) := by decide +kernel
theorem d_Lc_day_1 : decode prog_1_method_12_code 1 = .ok (.iconst 0, 1) := by decide +kernel
theorem d_Lc_day_2 : decode prog_1_method_12_code 2 = .ok (.putfield 66, 3) := by decide +kernel
theorem d_Lc_day_5 : decode prog_1_method_12_code 5 = .ok (.iload_n 1, 1) := by decide +kernel
theorem d_Lc_day_6 : decode prog_1_method_12_code 6 = .ok (.invokestatic 70, 3) := by decide +kernel
theorem d_Lc_day_9 : decode prog_1_method_12_code 9 = .ok (.ifCond .ne 5, 3) := by decide +kernel
theorem d_Lc_day_12 : decode prog_1_method_12_code 12 = .ok (.iconst (-1), 1) := by decide +kernel
theorem d_Lc_day_13 : decode prog_1_method_12_code 13 = .ok (.ireturn, 1) := by decide +kernel
theorem d_Lc_day_14 : decode prog_1_method_12_code 14 = .ok (.iload_n 2, 1) := by decide +kernel
theorem d_Lc_day_15 : decode prog_1_method_12_code 15 = .ok (.invokestatic 74, 3) := by decide +kernel
theorem d_Lc_day_18 : decode prog_1_method_12_code 18 = .ok (.ifCond .eq 23, 3) := by decide +kernel
theorem d_Lc_day_21 : decode prog_1_method_12_code 21 = .ok (.iload 4, 2) := by decide +kernel
theorem d_Lc_day_23 : decode prog_1_method_12_code 23 = .ok (.ifCond .lt 18, 3) := by decide +kernel
theorem d_Lc_day_26 : decode prog_1_method_12_code 26 = .ok (.iload 4, 2) := by decide +kernel
theorem d_Lc_day_28 : decode prog_1_method_12_code 28 = .ok (.bipush 20, 2) := by decide +kernel
theorem d_Lc_day_30 : decode prog_1_method_12_code 30 = .ok (.if_icmp .gt 11, 3) := by decide +kernel
theorem d_Lc_day_33 : decode prog_1_method_12_code 33 = .ok (.iload 5, 2) := by decide +kernel
theorem d_Lc_day_35 : decode prog_1_method_12_code 35 = .ok (.invokestatic 185, 3) := by decide +kernel
theorem d_Lc_day_38 : decode prog_1_method_12_code 38 = .ok (.ifCond .ne 6, 3) := by decide +kernel
theorem d_Lc_day_41 : decode prog_1_method_12_code 41 = .ok (.bipush (-2), 2) := by decide +kernel
theorem d_Lc_day_43 : decode prog_1_method_12_code 43 = .ok (.ireturn, 1) := by decide +kernel
theorem d_Lc_day_44 : decode prog_1_method_12_code 44 = .ok (.aload_n 0, 1) := by decide +kernel
theorem d_Lc_day_45 : decode prog_1_method_12_code 45 = .ok (.getfield 54, 3) := by decide +kernel
theorem d_Lc_day_48 : decode prog_1_method_12_code 48 = .ok (.iload_n 1, 1) := by decide +kernel
theorem d_Lc_day_49 : decode prog_1_method_12_code 49 = .ok (.aaload, 1) := by decide +kernel
theorem d_Lc_day_50 : decode prog_1_method_12_code 50 = .ok (.astore 6, 2) := by decide +kernel
theorem d_Lc_day_52 : decode prog_1_method_12_code 52 = .ok (.aload 6, 2) := by decide +kernel
theorem d_Lc_day_54 : decode prog_1_method_12_code 54 = .ok (.iload_n 2, 1) := by decide +kernel
theorem d_Lc_day_55 : decode prog_1_method_12_code 55 = .ok (.iload_n 3, 1) := by decide +kernel
theorem d_Lc_day_56 : decode prog_1_method_12_code 56 = .ok (.iconst 2, 1) := by decide +kernel
theorem d_Lc_day_57 : decode prog_1_method_12_code 57 = .ok (.iload 4, 2) := by decide +kernel
theorem d_Lc_day_59 : decode prog_1_method_12_code 59 = .ok (.imul, 1) := by decide +kernel
theorem d_Lc_day_60 : decode prog_1_method_12_code 60 = .ok (.invokevirtual 134, 3) := by decide +kernel
theorem d_Lc_day_63 : decode prog_1_method_12_code 63 = .ok (.istore 7, 2) := by decide +kernel
theorem d_Lc_day_65 : decode prog_1_method_12_code 65 = .ok (.iload 7, 2) := by decide +kernel
theorem d_Lc_day_67 : decode prog_1_method_12_code 67 = .ok (.ifCond .eq 10, 3) := by decide +kernel
theorem d_Lc_day_70 : decode prog_1_method_12_code 70 = .ok (.aload_n 0, 1) := by decide +kernel
theorem d_Lc_day_71 : decode prog_1_method_12_code 71 = .ok (.iload 7, 2) := by decide +kernel
theorem d_Lc_day_73 : decode prog_1_method_12_code 73 = .ok (.invokevirtual 85, 3) := by decide +kernel
theorem d_Lc_day_76 : decode prog_1_method_12_code 76 = .ok (.ireturn, 1) := by decide +kernel
theorem d_Lc_day_77 : decode prog_1_method_12_code 77 = .ok (.aload_n 0, 1) := by decide +kernel
theorem d_Lc_day_78 : decode prog_1_method_12_code 78 = .ok (.invokevirtual 138, 3) := by decide +kernel
theorem d_Lc_day_81 : decode prog_1_method_12_code 81 = .ok (.ifCond .ne 6, 3) := by decide +kernel
theorem d_Lc_day_84 : decode prog_1_method_12_code 84 = .ok (.bipush (-3), 2) := by decide +kernel
theorem d_Lc_day_86 : decode prog_1_method_12_code 86 = .ok (.ireturn, 1) := by decide +kernel
theorem d_Lc_day_87 : decode prog_1_method_12_code 87 = .ok (.aload 6, 2) := by decide +kernel
theorem d_Lc_day_89 : decode prog_1_method_12_code 89 = .ok (.iload_n 3, 1) := by decide +kernel
theorem d_Lc_day_90 : decode prog_1_method_12_code 90 = .ok (.iload 4, 2) := by decide +kernel
theorem d_Lc_day_92 : decode prog_1_method_12_code 92 = .ok (.invokestatic 188, 3) := by decide +kernel
theorem d_Lc_day_95 : decode prog_1_method_12_code 95 = .ok (.ifCond .ne 6, 3) := by decide +kernel
theorem d_Lc_day_98 : decode prog_1_method_12_code 98 = .ok (.bipush (-2), 2) := by decide +kernel
theorem d_Lc_day_100 : decode prog_1_method_12_code 100 = .ok (.ireturn, 1) := by decide +kernel
theorem d_Lc_day_101 : decode prog_1_method_12_code 101 = .ok (.aload_n 0, 1) := by decide +kernel
theorem d_Lc_day_102 : decode prog_1_method_12_code 102 = .ok (.aload 6, 2) := by decide +kernel
theorem d_Lc_day_104 : decode prog_1_method_12_code 104 = .ok (.iload_n 3, 1) := by decide +kernel
theorem d_Lc_day_105 : decode prog_1_method_12_code 105 = .ok (.iload 4, 2) := by decide +kernel
theorem d_Lc_day_107 : decode prog_1_method_12_code 107 = .ok (.invokevirtual 192, 3) := by decide +kernel
theorem d_Lc_day_110 : decode prog_1_method_12_code 110 = .ok (.istore 8, 2) := by decide +kernel
theorem d_Lc_day_112 : decode prog_1_method_12_code 112 = .ok (.iload 5, 2) := by decide +kernel
theorem d_Lc_day_114 : decode prog_1_method_12_code 114 = .ok (.iconst 1, 1) := by decide +kernel
theorem d_Lc_day_115 : decode prog_1_method_12_code 115 = .ok (.if_icmp .ne 6, 3) := by decide +kernel
theorem d_Lc_day_118 : decode prog_1_method_12_code 118 = .ok (.iload 8, 2) := by decide +kernel
theorem d_Lc_day_120 : decode prog_1_method_12_code 120 = .ok (.ireturn, 1) := by decide +kernel
theorem d_Lc_day_121 : decode prog_1_method_12_code 121 = .ok (.iload 8, 2) := by decide +kernel
theorem d_Lc_day_123 : decode prog_1_method_12_code 123 = .ok (.bipush (-9), 2) := by decide +kernel
theorem d_Lc_day_125 : decode prog_1_method_12_code 125 = .ok (.if_icmp .ne 12, 3) := by decide +kernel
theorem d_Lc_day_128 : decode prog_1_method_12_code 128 = .ok (.aload_n 0, 1) := by decide +kernel
theorem d_Lc_day_129 : decode prog_1_method_12_code 129 = .ok (.iload 5, 2) := by decide +kernel
theorem d_Lc_day_131 : decode prog_1_method_12_code 131 = .ok (.invokevirtual 195, 3) := by decide +kernel
theorem d_Lc_day_134 : decode prog_1_method_12_code 134 = .ok (.goto 8, 3) := by decide +kernel
theorem d_Lc_day_137 : decode prog_1_method_12_code 137 = .ok (.bipush (-100), 2) := by decide +kernel
theorem d_Lc_day_139 : decode prog_1_method_12_code 139 = .ok (.iload 8, 2) := by decide +kernel
theorem d_Lc_day_141 : decode prog_1_method_12_code 141 = .ok (.isub, 1) := by decide +kernel
theorem d_Lc_day_142 : decode prog_1_method_12_code 142 = .ok (.ireturn, 1) := by decide +kernel
abbrev y_Lc_day : MethodName := ⟨"LoadCycles", "day", "(IIIII)I"⟩
theorem mi_Lc_day : miV y_Lc_day prog_1_method_12_code 9 (some .int) 5 := ⟨wd_518, wd_519, wd_65, wd_520, by decide, by decide, by decide +kernel⟩
def w_Lc_day (x1 : Int32) (x2 : Int32) (x3 : Int32) (x4 : Int32) (x5 : Int32) (σ : Sg) (K : Int32 → Sg → Prop) : Prop :=
  (∀ τ2 : Sg, τ2 = s2 σ 0 13 (0 : Int32) → w_Lc_isSheet x1 τ2 (fun u6 => ((¬ u6 = 0 → w_Lc_isLane x2 τ2 (fun u15 => ((u15 = 0 → K (-2 : Int32) τ2) ∧ (¬ u15 = 0 → ((x4 < 0 → K (-2 : Int32) τ2) ∧ (¬ x4 < 0 → (((20 : Int32) < x4 → K (-2 : Int32) τ2) ∧ (¬ (20 : Int32) < x4 → w_Lc_isAskedOfDay x5 τ2 (fun u35 => ((¬ u35 = 0 → (vp_in x1 4 ∧ w_Sh_faultOfCells (33 + 2 * x1.toNatClampNeg) x2 x3 ((2 : Int32) * x4) τ2 (fun u60 => ((u60 = 0 → w_Lc_hasHouse τ2 (fun u78 => ((¬ u78 = 0 → w_Lc_arePairs (33 + 2 * x1.toNatClampNeg) x3 x4 τ2 (fun u92 => ((¬ u92 = 0 → w_Lc_liveTrialDay (33 + 2 * x1.toNatClampNeg) x3 x4 τ2 (fun u107 τ107 => ((¬ x5 = (1 : Int32) → ((¬ u107 = (-9 : Int32) → K ((-100 : Int32) - u107) τ107) ∧ (u107 = (-9 : Int32) → w_Lc_answerOfTrialDay x5 τ107 (fun u131 τ131 => K u131 τ131)))) ∧ (x5 = (1 : Int32) → K u107 τ107)))) ∧ (u92 = 0 → K (-2 : Int32) τ2)))) ∧ (u78 = 0 → K (-3 : Int32) τ2)))) ∧ (¬ u60 = 0 → w_Lc_faulted u60 τ2 (fun u73 τ73 => K u73 τ73)))))) ∧ (u35 = 0 → K (-2 : Int32) τ2))))))))))) ∧ (u6 = 0 → K (-1 : Int32) τ2))))
set_option maxHeartbeats 4000000 in
theorem m_Lc_day {Y : Yx} {x1 : Int32} {x2 : Int32} {x3 : Int32} {x4 : Int32} {x5 : Int32} {σ : Sg} {K : Int32 → Sg → Prop} (hY : YD Y)  (h : w_Lc_day x1 x2 x3 x4 x5 σ K) : MetI Y y_Lc_day prog_1_method_12_code 9 (.int) 5 132 [.ref (ya Y 0), .int x1, .int x2, .int x3, .int x4, .int x5] σ K := by
  refine met_I [(0, .ref (ya Y 0)), (1, .int x1), (2, .int x2), (3, .int x3), (4, .int x4), (5, .int x5)] hY (by decide) (Nat.le_of_ble_eq_true rfl) rfl (fun X C hr => ?_)
  unfold w_Lc_day at h
  refine q_aload_n (pc := 0) C d_Lc_day_0 rfl 0 rfl ?_
  refine q_iconst (pc := 1) (v := 0) C d_Lc_day_1 (by decide) ?_
  refine q_put (pc := 2) (c := 0) (ci := 6) (k := 13) C rfl (by decide) (by decide) wd_243 rfl rfl rfl fs_6_13 d_Lc_day_2 ?_
  refine q_nms (fun τ2 eτ2 => ?_)
  replace h := h τ2 eτ2
  refine q_iload_n (pc := 5) C d_Lc_day_5 rfl 1 rfl ?_
  refine q_callSIr (pc := 6) (st := []) C (m_Lc_isSheet hY h) mi_Lc_isSheet wd_277 rfl rfl (Nat.le_of_ble_eq_true rfl) (by decide) (by decide) d_Lc_day_6 (fun u6 h => ?_)
  obtain ⟨h20, h21⟩ := h
  refine q_if_ne (pc := 9) 14 C d_Lc_day_9 (by decide) (fun hc => ?_) (fun hc => ?_)
  · have h := h20 hc
    refine q_iload_n (pc := 14) C d_Lc_day_14 rfl 2 rfl ?_
    refine q_callSIr (pc := 15) (st := []) C (m_Lc_isLane hY h) mi_Lc_isLane wd_280 rfl rfl (Nat.le_of_ble_eq_true rfl) (by decide) (by decide) d_Lc_day_15 (fun u15 h => ?_)
    obtain ⟨h18, h19⟩ := h
    refine q_if_eq (pc := 18) 41 C d_Lc_day_18 (by decide) (fun hc => ?_) (fun hc => ?_)
    · have h := h18 hc
      refine q_bipush (pc := 41) (v := -2) C d_Lc_day_41 (by decide) ?_
      exact q_iret (pc := 43) C hr d_Lc_day_43 h
    have h := h19 hc
    refine q_iload (pc := 21) C d_Lc_day_21 4 rfl ?_
    obtain ⟨h16, h17⟩ := h
    refine q_if_lt (pc := 23) 41 C d_Lc_day_23 (by decide) (fun hc => ?_) (fun hc => ?_)
    · have h := h16 hc
      refine q_bipush (pc := 41) (v := -2) C d_Lc_day_41 (by decide) ?_
      exact q_iret (pc := 43) C hr d_Lc_day_43 h
    have h := h17 hc
    refine q_iload (pc := 26) C d_Lc_day_26 4 rfl ?_
    refine q_bipush (pc := 28) (v := 20) C d_Lc_day_28 (by decide) ?_
    obtain ⟨h14, h15⟩ := h
    refine q_icmp_gt (pc := 30) 41 C d_Lc_day_30 (by decide) (fun hc => ?_) (fun hc => ?_)
    · have h := h14 hc
      refine q_bipush (pc := 41) (v := -2) C d_Lc_day_41 (by decide) ?_
      exact q_iret (pc := 43) C hr d_Lc_day_43 h
    have h := h15 hc
    refine q_iload (pc := 33) C d_Lc_day_33 5 rfl ?_
    refine q_callSIr (pc := 35) (st := []) C (m_Lc_isAskedOfDay hY h) mi_Lc_isAskedOfDay wd_521 rfl rfl (Nat.le_of_ble_eq_true rfl) (by decide) (by decide) d_Lc_day_35 (fun u35 h => ?_)
    obtain ⟨h12, h13⟩ := h
    refine q_if_ne (pc := 38) 44 C d_Lc_day_38 (by decide) (fun hc => ?_) (fun hc => ?_)
    · have h := h12 hc
      refine q_aload_n (pc := 44) C d_Lc_day_44 rfl 0 rfl ?_
      refine q_get (pc := 45) (c := 0) (ci := 6) (k := 7) (v := .ref (ya Y 32)) C rfl (by decide) (by decide) wd_237 rfl d_Lc_day_45 ?_
      refine q_iload_n (pc := 48) C d_Lc_day_48 rfl 1 rfl ?_
      obtain ⟨h1, h⟩ := h
      refine q_aald (pc := 49) C h1 d_Lc_day_49 ?_
      refine q_astore (pc := 50) [(6, .ref (ya Y (33 + 2 * x1.toNatClampNeg))), (0, .ref (ya Y 0)), (1, .int x1), (2, .int x2), (3, .int x3), (4, .int x4), (5, .int x5)] C d_Lc_day_50 (by decide) rfl ?_
      refine q_aload (pc := 52) C d_Lc_day_52 0 rfl ?_
      refine q_iload_n (pc := 54) C d_Lc_day_54 rfl 3 rfl ?_
      refine q_iload_n (pc := 55) C d_Lc_day_55 rfl 4 rfl ?_
      refine q_iconst (pc := 56) (v := 2) C d_Lc_day_56 (by decide) ?_
      refine q_iload (pc := 57) C d_Lc_day_57 5 rfl ?_
      refine q_imul (pc := 59) C d_Lc_day_59 ?_
      refine q_callVIr (pc := 60) (st := []) (d := (33 + 2 * x1.toNatClampNeg)) C (m_Sh_faultOfCells hY (iaS h1) h) mi_Sh_faultOfCells (iaS h1) (by decide) rfl wd_387 rfl rfl (Nat.le_of_ble_eq_true rfl) (by decide) (by decide) d_Lc_day_60 (fun u60 h => ?_)
      refine q_istore (pc := 63) [(7, .int u60), (6, .ref (ya Y (33 + 2 * x1.toNatClampNeg))), (0, .ref (ya Y 0)), (1, .int x1), (2, .int x2), (3, .int x3), (4, .int x4), (5, .int x5)] C d_Lc_day_63 (by decide) rfl ?_
      refine q_iload (pc := 65) C d_Lc_day_65 0 rfl ?_
      obtain ⟨h10, h11⟩ := h
      refine q_if_eq (pc := 67) 77 C d_Lc_day_67 (by decide) (fun hc => ?_) (fun hc => ?_)
      · have h := h10 hc
        refine q_aload_n (pc := 77) C d_Lc_day_77 rfl 2 rfl ?_
        refine q_callVIr (pc := 78) (st := []) (d := 0) C (m_Lc_hasHouse hY h) mi_Lc_hasHouse rfl (by decide) rfl wd_393 rfl rfl (Nat.le_of_ble_eq_true rfl) (by decide) (by decide) d_Lc_day_78 (fun u78 h => ?_)
        obtain ⟨h8, h9⟩ := h
        refine q_if_ne (pc := 81) 87 C d_Lc_day_81 (by decide) (fun hc => ?_) (fun hc => ?_)
        · have h := h8 hc
          refine q_aload (pc := 87) C d_Lc_day_87 1 rfl ?_
          refine q_iload_n (pc := 89) C d_Lc_day_89 rfl 5 rfl ?_
          refine q_iload (pc := 90) C d_Lc_day_90 6 rfl ?_
          refine q_callSIr (pc := 92) (st := []) C (m_Lc_arePairs hY (iaS h1) h) mi_Lc_arePairs wd_524 rfl rfl (Nat.le_of_ble_eq_true rfl) (by decide) (by decide) d_Lc_day_92 (fun u92 h => ?_)
          obtain ⟨h6, h7⟩ := h
          refine q_if_ne (pc := 95) 101 C d_Lc_day_95 (by decide) (fun hc => ?_) (fun hc => ?_)
          · have h := h6 hc
            refine q_aload_n (pc := 101) C d_Lc_day_101 rfl 2 rfl ?_
            refine q_aload (pc := 102) C d_Lc_day_102 1 rfl ?_
            refine q_iload_n (pc := 104) C d_Lc_day_104 rfl 5 rfl ?_
            refine q_iload (pc := 105) C d_Lc_day_105 6 rfl ?_
            refine q_callVI (pc := 107) (st := []) (d := 0) C (m_Lc_liveTrialDay hY (iaS h1) h) mi_Lc_liveTrialDay rfl (by decide) rfl wd_530 rfl rfl (Nat.le_of_ble_eq_true rfl) (by decide) (by decide) d_Lc_day_107 (fun u107 τ107 h => ?_)
            refine q_istore (pc := 110) [(8, .int u107), (7, .int u60), (6, .ref (ya Y (33 + 2 * x1.toNatClampNeg))), (0, .ref (ya Y 0)), (1, .int x1), (2, .int x2), (3, .int x3), (4, .int x4), (5, .int x5)] C d_Lc_day_110 (by decide) rfl ?_
            refine q_iload (pc := 112) C d_Lc_day_112 8 rfl ?_
            refine q_iconst (pc := 114) (v := 1) C d_Lc_day_114 (by decide) ?_
            obtain ⟨h4, h5⟩ := h
            refine q_icmp_ne (pc := 115) 121 C d_Lc_day_115 (by decide) (fun hc => ?_) (fun hc => ?_)
            · have h := h4 hc
              refine q_iload (pc := 121) C d_Lc_day_121 0 rfl ?_
              refine q_bipush (pc := 123) (v := -9) C d_Lc_day_123 (by decide) ?_
              obtain ⟨h2, h3⟩ := h
              refine q_icmp_ne (pc := 125) 137 C d_Lc_day_125 (by decide) (fun hc => ?_) (fun hc => ?_)
              · have h := h2 hc
                refine q_bipush (pc := 137) (v := -100) C d_Lc_day_137 (by decide) ?_
                refine q_iload (pc := 139) C d_Lc_day_139 0 rfl ?_
                refine q_isub (pc := 141) C d_Lc_day_141 ?_
                exact q_iret (pc := 142) C hr d_Lc_day_142 h
              have h := h3 hc
              refine q_aload_n (pc := 128) C d_Lc_day_128 rfl 3 rfl ?_
              refine q_iload (pc := 129) C d_Lc_day_129 8 rfl ?_
              refine q_callVI (pc := 131) (st := []) (d := 0) C (m_Lc_answerOfTrialDay hY h) mi_Lc_answerOfTrialDay rfl (by decide) rfl wd_554 rfl rfl (Nat.le_of_ble_eq_true rfl) (by decide) (by decide) d_Lc_day_131 (fun u131 τ131 h => ?_)
              refine q_goto (pc := 134) 142 C d_Lc_day_134 (by decide) ?_
              exact q_iret (pc := 142) C hr d_Lc_day_142 h
            have h := h5 hc
            refine q_iload (pc := 118) C d_Lc_day_118 0 rfl ?_
            exact q_iret (pc := 120) C hr d_Lc_day_120 h
          have h := h7 hc
          refine q_bipush (pc := 98) (v := -2) C d_Lc_day_98 (by decide) ?_
          exact q_iret (pc := 100) C hr d_Lc_day_100 h
        have h := h9 hc
        refine q_bipush (pc := 84) (v := -3) C d_Lc_day_84 (by decide) ?_
        exact q_iret (pc := 86) C hr d_Lc_day_86 h
      have h := h11 hc
      refine q_aload_n (pc := 70) C d_Lc_day_70 rfl 2 rfl ?_
      refine q_iload (pc := 71) C d_Lc_day_71 0 rfl ?_
      refine q_callVI (pc := 73) (st := []) (d := 0) C (m_Lc_faulted hY h) mi_Lc_faulted rfl (by decide) rfl wd_295 rfl rfl (Nat.le_of_ble_eq_true rfl) (by decide) (by decide) d_Lc_day_73 (fun u73 τ73 h => ?_)
      exact q_iret (pc := 76) C hr d_Lc_day_76 h
    have h := h13 hc
    refine q_bipush (pc := 41) (v := -2) C d_Lc_day_41 (by decide) ?_
    exact q_iret (pc := 43) C hr d_Lc_day_43 h
  have h := h21 hc
  refine q_iconst (pc := 12) (v := -1) C d_Lc_day_12 (by decide) ?_
  exact q_iret (pc := 13) C hr d_Lc_day_13 h
theorem d_Ho_jumpTo_0 : decode prog_4_method_15_code 0 = .ok (.aload_n 0, 1) := by decide +kernel
theorem d_Ho_jumpTo_1 : decode prog_4_method_15_code 1 = .ok (.getfield 21, 3) := by decide +kernel
theorem d_Ho_jumpTo_4 : decode prog_4_method_15_code 4 = .ok (.iload_n 1, 1) := by decide +kernel
theorem d_Ho_jumpTo_5 : decode prog_4_method_15_code 5 = .ok (.iaload, 1) := by decide +kernel
theorem d_Ho_jumpTo_6 : decode prog_4_method_15_code 6 = .ok (.iload_n 1, 1) := by decide +kernel
theorem d_Ho_jumpTo_7 : decode prog_4_method_15_code 7 = .ok (.ifCond .ne 10, 3) := by decide +kernel
theorem d_Ho_jumpTo_10 : decode prog_4_method_15_code 10 = .ok (.aload_n 0, 1) := by decide +kernel
theorem d_Ho_jumpTo_11 : decode prog_4_method_15_code 11 = .ok (.getfield 37, 3) := by decide +kernel
theorem d_Ho_jumpTo_14 : decode prog_4_method_15_code 14 = .ok (.goto 11, 3) := by decide +kernel
theorem d_Ho_jumpTo_17 : decode prog_4_method_15_code 17 = .ok (.aload_n 0, 1) := by decide +kernel
theorem d_Ho_jumpTo_18 : decode prog_4_method_15_code 18 = .ok (.getfield 21, 3) := by decide +kernel
theorem d_Ho_jumpTo_21 : decode prog_4_method_15_code 21 = .ok (.iload_n 1, 1) := by decide +kernel
theorem d_Ho_jumpTo_22 : decode prog_4_method_15_code 22 = .ok (.iconst 1, 1) := by decide +kernel
theorem d_Ho_jumpTo_23 : decode prog_4_method_15_code 23 = .ok (.isub, 1) := by decide +kernel
theorem d_Ho_jumpTo_24 : decode prog_4_method_15_code 24 = .ok (.iaload, 1) := by decide +kernel
theorem d_Ho_jumpTo_25 : decode prog_4_method_15_code 25 = .ok (.isub, 1) := by decide +kernel
theorem d_Ho_jumpTo_26 : decode prog_4_method_15_code 26 = .ok (.ireturn, 1) := by decide +kernel
abbrev y_Ho_jumpTo : MethodName := ⟨"LoadCycles$House", "jumpTo", "(I)I"⟩
theorem mi_Ho_jumpTo : miV y_Ho_jumpTo prog_4_method_15_code 2 (some .int) 1 := ⟨wd_563, wd_564, wd_66, wd_565, by decide, by decide, by decide +kernel⟩
def w_Ho_jumpTo (o : Nat) (x1 : Int32) (σ : Sg) (K : Int32 → Prop) : Prop :=
  (vp_in x1 20 ∧ ((¬ x1 = 0 → (vp_in (x1 - (1 : Int32)) 20 ∧ K ((σ (o + 4) x1.toNatClampNeg) - (σ (o + 4) (x1 - (1 : Int32)).toNatClampNeg)))) ∧ (x1 = 0 → K ((σ (o + 4) x1.toNatClampNeg) - (σ o 6)))))
set_option maxHeartbeats 4000000 in
theorem m_Ho_jumpTo {Y : Yx} {o : Nat} {x1 : Int32} {σ : Sg} {K : Int32 → Prop} (hY : YD Y) (ho : kd o = 2) (h : w_Ho_jumpTo o x1 σ K) : MetI Y y_Ho_jumpTo prog_4_method_15_code 2 (.int) 0 0 [.ref (ya Y o), .int x1] σ (fun r τ => τ = σ ∧ K r) := by
  refine met_I [(0, .ref (ya Y o)), (1, .int x1)] hY (by decide) (Nat.le_of_ble_eq_true rfl) rfl (fun X C hr => ?_)
  unfold w_Ho_jumpTo at h
  refine q_aload_n (pc := 0) C d_Ho_jumpTo_0 rfl 0 rfl ?_
  refine q_get (pc := 1) (c := o) (ci := 2) (k := 3) (v := .ref (ya Y (o + 4))) C ho (by decide) (by decide) wd_97 rfl d_Ho_jumpTo_1 ?_
  refine q_iload_n (pc := 4) C d_Ho_jumpTo_4 rfl 1 rfl ?_
  obtain ⟨h1, h⟩ := h
  refine q_iald (pc := 5) (c := (o + 4)) C (k2_4 ho) h1 d_Ho_jumpTo_5 ?_
  refine q_iload_n (pc := 6) C d_Ho_jumpTo_6 rfl 1 rfl ?_
  obtain ⟨h3, h4⟩ := h
  refine q_if_ne (pc := 7) 17 C d_Ho_jumpTo_7 (by decide) (fun hc => ?_) (fun hc => ?_)
  · have h := h3 hc
    refine q_aload_n (pc := 17) C d_Ho_jumpTo_17 rfl 0 rfl ?_
    refine q_get (pc := 18) (c := o) (ci := 2) (k := 3) (v := .ref (ya Y (o + 4))) C ho (by decide) (by decide) wd_97 rfl d_Ho_jumpTo_18 ?_
    refine q_iload_n (pc := 21) C d_Ho_jumpTo_21 rfl 1 rfl ?_
    refine q_iconst (pc := 22) (v := 1) C d_Ho_jumpTo_22 (by decide) ?_
    refine q_isub (pc := 23) C d_Ho_jumpTo_23 ?_
    obtain ⟨h2, h⟩ := h
    refine q_iald (pc := 24) (c := (o + 4)) C (k2_4 ho) h2 d_Ho_jumpTo_24 ?_
    refine q_isub (pc := 25) C d_Ho_jumpTo_25 ?_
    exact q_iret (pc := 26) C hr d_Ho_jumpTo_26 ⟨rfl, h⟩
  have h := h4 hc
  refine q_aload_n (pc := 10) C d_Ho_jumpTo_10 rfl 0 rfl ?_
  refine q_get (pc := 11) (c := o) (ci := 2) (k := 6) (v := .int (σ o 6)) C ho (by decide) (by decide) wd_108 rfl d_Ho_jumpTo_11 ?_
  refine q_goto (pc := 14) 25 C d_Ho_jumpTo_14 (by decide) ?_
  refine q_isub (pc := 25) C d_Ho_jumpTo_25 ?_
  exact q_iret (pc := 26) C hr d_Ho_jumpTo_26 ⟨rfl, h⟩
theorem d_Lc_jump_0 : decode prog_1_method_13_code 0 = .ok (.aload_n 0, 1) := by decide +kernel
theorem d_Lc_jump_1 : decode prog_1_method_13_code 1 = .ok (.getfield 12, 3) := by decide +kernel
theorem d_Lc_jump_4 : decode prog_1_method_13_code 4 = .ok (.iload_n 1, 1) := by decide +kernel
theorem d_Lc_jump_5 : decode prog_1_method_13_code 5 = .ok (.invokevirtual 160, 3) := by decide +kernel
theorem d_Lc_jump_8 : decode prog_1_method_13_code 8 = .ok (.ifCond .eq 17, 3) := by decide +kernel
theorem d_Lc_jump_11 : decode prog_1_method_13_code 11 = .ok (.aload_n 0, 1) := by decide +kernel
theorem d_Lc_jump_12 : decode prog_1_method_13_code 12 = .ok (.getfield 12, 3) := by decide +kernel
theorem d_Lc_jump_15 : decode prog_1_method_13_code 15 = .ok (.iload_n 1, 1) := by decide +kernel
theorem d_Lc_jump_16 : decode prog_1_method_13_code 16 = .ok (.invokevirtual 198, 3) := by decide +kernel
theorem d_Lc_jump_19 : decode prog_1_method_13_code 19 = .ok (.bipush 100, 2) := by decide +kernel
theorem d_Lc_jump_21 : decode prog_1_method_13_code 21 = .ok (.iadd, 1) := by decide +kernel
theorem d_Lc_jump_22 : decode prog_1_method_13_code 22 = .ok (.goto 4, 3) := by decide +kernel
theorem d_Lc_jump_25 : decode prog_1_method_13_code 25 = .ok (.iconst (-1), 1) := by decide +kernel
theorem d_Lc_jump_26 : decode prog_1_method_13_code 26 = .ok (.ireturn, 1) := by decide +kernel
abbrev y_Lc_jump : MethodName := ⟨"LoadCycles", "jump", "(I)I"⟩
theorem mi_Lc_jump : miV y_Lc_jump prog_1_method_13_code 2 (some .int) 1 := ⟨wd_559, wd_560, wd_65, wd_561, by decide, by decide, by decide +kernel⟩
def w_Lc_jump (x1 : Int32) (σ : Sg) (K : Int32 → Prop) : Prop :=
  w_Ho_hasTime 1 x1 σ (fun u5 => ((u5 = 0 → K (-1 : Int32)) ∧ (¬ u5 = 0 → w_Ho_jumpTo 1 x1 σ (fun u16 => K (u16 + (100 : Int32))))))
set_option maxHeartbeats 4000000 in
theorem m_Lc_jump {Y : Yx} {x1 : Int32} {σ : Sg} {K : Int32 → Prop} (hY : YD Y)  (h : w_Lc_jump x1 σ K) : MetI Y y_Lc_jump prog_1_method_13_code 2 (.int) 1 21 [.ref (ya Y 0), .int x1] σ (fun r τ => τ = σ ∧ K r) := by
  refine met_I [(0, .ref (ya Y 0)), (1, .int x1)] hY (by decide) (Nat.le_of_ble_eq_true rfl) rfl (fun X C hr => ?_)
  unfold w_Lc_jump at h
  refine q_aload_n (pc := 0) C d_Lc_jump_0 rfl 0 rfl ?_
  refine q_get (pc := 1) (c := 0) (ci := 6) (k := 0) (v := .ref (ya Y 1)) C rfl (by decide) (by decide) wd_230 rfl d_Lc_jump_1 ?_
  refine q_iload_n (pc := 4) C d_Lc_jump_4 rfl 1 rfl ?_
  refine q_callVIr (pc := 5) (st := []) (d := 1) C (m_Ho_hasTime hY rfl h) mi_Ho_hasTime rfl (by decide) rfl wd_402 rfl rfl (Nat.le_of_ble_eq_true rfl) (by decide) (by decide) d_Lc_jump_5 (fun u5 h => ?_)
  obtain ⟨h1, h2⟩ := h
  refine q_if_eq (pc := 8) 25 C d_Lc_jump_8 (by decide) (fun hc => ?_) (fun hc => ?_)
  · have h := h1 hc
    refine q_iconst (pc := 25) (v := -1) C d_Lc_jump_25 (by decide) ?_
    exact q_iret (pc := 26) C hr d_Lc_jump_26 ⟨rfl, h⟩
  have h := h2 hc
  refine q_aload_n (pc := 11) C d_Lc_jump_11 rfl 0 rfl ?_
  refine q_get (pc := 12) (c := 0) (ci := 6) (k := 0) (v := .ref (ya Y 1)) C rfl (by decide) (by decide) wd_230 rfl d_Lc_jump_12 ?_
  refine q_iload_n (pc := 15) C d_Lc_jump_15 rfl 1 rfl ?_
  refine q_callVIr (pc := 16) (st := []) (d := 1) C (m_Ho_jumpTo hY rfl h) mi_Ho_jumpTo rfl (by decide) rfl wd_562 rfl rfl (Nat.le_of_ble_eq_true rfl) (by decide) (by decide) d_Lc_jump_16 (fun u16 h => ?_)
  refine q_bipush (pc := 19) (v := 100) C d_Lc_jump_19 (by decide) ?_
  refine q_iadd (pc := 21) C d_Lc_jump_21 ?_
  refine q_goto (pc := 22) 26 C d_Lc_jump_22 (by decide) ?_
  exact q_iret (pc := 26) C hr d_Lc_jump_26 ⟨rfl, h⟩
theorem d_Lc_powerGain_0 : decode prog_1_method_47_code 0 = .ok (.iconst 0, 1) := by decide +kernel
theorem d_Lc_powerGain_1 : decode prog_1_method_47_code 1 = .ok (.istore 4, 2) := by decide +kernel
theorem d_Lc_powerGain_3 : decode prog_1_method_47_code 3 = .ok (.iconst 0, 1) := by decide +kernel
theorem d_Lc_powerGain_4 : decode prog_1_method_47_code 4 = .ok (.istore 5, 2) := by decide +kernel
theorem d_Lc_powerGain_6 : decode prog_1_method_47_code 6 = .ok (.iload 5, 2) := by decide +kernel
theorem d_Lc_powerGain_8 : decode prog_1_method_47_code 8 = .ok (.aload_n 0, 1) := by decide +kernel
theorem d_Lc_powerGain_9 : decode prog_1_method_47_code 9 = .ok (.getfield 12, 3) := by decide +kernel
theorem d_Lc_powerGain_12 : decode prog_1_method_47_code 12 = .ok (.getfield 105, 3) := by decide +kernel
theorem d_Lc_powerGain_15 : decode prog_1_method_47_code 15 = .ok (.if_icmp .ge 65, 3) := by decide +kernel
theorem d_Lc_powerGain_18 : decode prog_1_method_47_code 18 = .ok (.iload_n 3, 1) := by decide +kernel
theorem d_Lc_powerGain_19 : decode prog_1_method_47_code 19 = .ok (.iload 5, 2) := by decide +kernel
theorem d_Lc_powerGain_21 : decode prog_1_method_47_code 21 = .ok (.ishr, 1) := by decide +kernel
theorem d_Lc_powerGain_22 : decode prog_1_method_47_code 22 = .ok (.iconst 1, 1) := by decide +kernel
theorem d_Lc_powerGain_23 : decode prog_1_method_47_code 23 = .ok (.iand, 1) := by decide +kernel
theorem d_Lc_powerGain_24 : decode prog_1_method_47_code 24 = .ok (.iconst 1, 1) := by decide +kernel
theorem d_Lc_powerGain_25 : decode prog_1_method_47_code 25 = .ok (.if_icmp .ne 49, 3) := by decide +kernel
theorem d_Lc_powerGain_28 : decode prog_1_method_47_code 28 = .ok (.aload_n 1, 1) := by decide +kernel
theorem d_Lc_powerGain_29 : decode prog_1_method_47_code 29 = .ok (.iload_n 2, 1) := by decide +kernel
theorem d_Lc_powerGain_30 : decode prog_1_method_47_code 30 = .ok (.iload 5, 2) := by decide +kernel
theorem d_Lc_powerGain_32 : decode prog_1_method_47_code 32 = .ok (.invokevirtual 280, 3) := by decide +kernel
theorem d_Lc_powerGain_35 : decode prog_1_method_47_code 35 = .ok (.istore 6, 2) := by decide +kernel
theorem d_Lc_powerGain_37 : decode prog_1_method_47_code 37 = .ok (.iload 4, 2) := by decide +kernel
theorem d_Lc_powerGain_39 : decode prog_1_method_47_code 39 = .ok (.aload_n 0, 1) := by decide +kernel
theorem d_Lc_powerGain_40 : decode prog_1_method_47_code 40 = .ok (.getfield 12, 3) := by decide +kernel
theorem d_Lc_powerGain_43 : decode prog_1_method_47_code 43 = .ok (.iload 5, 2) := by decide +kernel
theorem d_Lc_powerGain_45 : decode prog_1_method_47_code 45 = .ok (.aload_n 0, 1) := by decide +kernel
theorem d_Lc_powerGain_46 : decode prog_1_method_47_code 46 = .ok (.getfield 12, 3) := by decide +kernel
theorem d_Lc_powerGain_49 : decode prog_1_method_47_code 49 = .ok (.iload 5, 2) := by decide +kernel
theorem d_Lc_powerGain_51 : decode prog_1_method_47_code 51 = .ok (.iload 6, 2) := by decide +kernel
theorem d_Lc_powerGain_53 : decode prog_1_method_47_code 53 = .ok (.invokevirtual 283, 3) := by decide +kernel
theorem d_Lc_powerGain_56 : decode prog_1_method_47_code 56 = .ok (.invokevirtual 176, 3) := by decide +kernel
theorem d_Lc_powerGain_59 : decode prog_1_method_47_code 59 = .ok (.aload_n 0, 1) := by decide +kernel
theorem d_Lc_powerGain_60 : decode prog_1_method_47_code 60 = .ok (.getfield 12, 3) := by decide +kernel
theorem d_Lc_powerGain_63 : decode prog_1_method_47_code 63 = .ok (.iload 5, 2) := by decide +kernel
theorem d_Lc_powerGain_65 : decode prog_1_method_47_code 65 = .ok (.iload 6, 2) := by decide +kernel
theorem d_Lc_powerGain_67 : decode prog_1_method_47_code 67 = .ok (.invokevirtual 176, 3) := by decide +kernel
theorem d_Lc_powerGain_70 : decode prog_1_method_47_code 70 = .ok (.isub, 1) := by decide +kernel
theorem d_Lc_powerGain_71 : decode prog_1_method_47_code 71 = .ok (.iadd, 1) := by decide +kernel
theorem d_Lc_powerGain_72 : decode prog_1_method_47_code 72 = .ok (.istore 4, 2) := by decide +kernel
theorem d_Lc_powerGain_74 : decode prog_1_method_47_code 74 = .ok (.iinc 5 1, 3) := by decide +kernel
theorem d_Lc_powerGain_77 : decode prog_1_method_47_code 77 = .ok (.goto (-71), 3) := by decide +kernel
theorem d_Lc_powerGain_80 : decode prog_1_method_47_code 80 = .ok (.iload 4, 2) := by decide +kernel
theorem d_Lc_powerGain_82 : decode prog_1_method_47_code 82 = .ok (.ireturn, 1) := by decide +kernel
abbrev y_Lc_powerGain : MethodName := ⟨"LoadCycles", "powerGain", "(LLoadCycles$Doing;II)I"⟩
theorem mi_Lc_powerGain : miV y_Lc_powerGain prog_1_method_47_code 7 (some .int) 3 := ⟨wd_572, wd_21, wd_65, wd_573, by decide, by decide, by decide +kernel⟩
def L_Lc_powerGain_6 (o1 : Nat) (x2 : Int32) (x3 : Int32) (σ : Sg) (K : Int32 → Prop) : Nat → Int32 → Int32 → Prop
  | 0, _, _ => False
  | n + 1, v4, v5 =>
    (((σ 1 4) ≤ v5 → K v4) ∧ (¬ (σ 1 4) ≤ v5 → ((¬ ((x3 >>> (v5 &&& 31)) &&& (1 : Int32)) = (1 : Int32) → L_Lc_powerGain_6 o1 x2 x3 σ K n v4 (v5 + (1 : Int32))) ∧ (((x3 >>> (v5 &&& 31)) &&& (1 : Int32)) = (1 : Int32) → w_Do_stateAhead o1 x2 v5 σ (fun u32 => w_Ho_stateAfter 1 v5 u32 σ (fun u53 => w_Ho_powerIn 1 v5 u53 σ (fun u56 => w_Ho_powerIn 1 v5 u32 σ (fun u67 => (∀ y4_72 : Int32, y4_72 = (v4 + (u56 - u67)) → L_Lc_powerGain_6 o1 x2 x3 σ K n y4_72 (v5 + (1 : Int32)))))))))))
theorem t_Lc_powerGain_6 {X : Bx} {Y : Yx} {o1 : Nat} {x2 : Int32} {x3 : Int32} {σ : Sg} {K : Int32 → Prop}  (hY : YD Y) (C : Cx X Y prog_1_method_47_code 7 "LoadCycles" 2 44) (hr : (xh X).sig.returnType = some .int) (ho1 : kd o1 = 0) : ∀ (n : Nat) (v4 : Int32) (v5 : Int32), L_Lc_powerGain_6 o1 x2 x3 σ K n v4 v5 → St X Y 7 (QI X Y (fun r τ => τ = σ ∧ K r)) 6 [(0, .ref (ya Y 0)), (1, .ref (ya Y o1)), (2, .int x2), (3, .int x3), (4, .int v4), (5, .int v5)] [] σ := by
  intro n
  induction n with
  | zero => intro v4 v5 h; exact h.elim
  | succ n ih =>
    intro v4 v5 h
    unfold L_Lc_powerGain_6 at h
    refine q_iload (pc := 6) C d_Lc_powerGain_6 5 rfl ?_
    refine q_aload_n (pc := 8) C d_Lc_powerGain_8 rfl 0 rfl ?_
    refine q_get (pc := 9) (c := 0) (ci := 6) (k := 0) (v := .ref (ya Y 1)) C rfl (by decide) (by decide) wd_230 rfl d_Lc_powerGain_9 ?_
    refine q_get (pc := 12) (c := 1) (ci := 2) (k := 4) (v := .int (σ 1 4)) C rfl (by decide) (by decide) wd_103 rfl d_Lc_powerGain_12 ?_
    obtain ⟨h3, h4⟩ := h
    refine q_icmp_ge (pc := 15) 80 C d_Lc_powerGain_15 (by decide) (fun hc => ?_) (fun hc => ?_)
    · have h := h3 hc
      refine q_iload (pc := 80) C d_Lc_powerGain_80 4 rfl ?_
      exact q_iret (pc := 82) C hr d_Lc_powerGain_82 ⟨rfl, h⟩
    have h := h4 hc
    refine q_iload_n (pc := 18) C d_Lc_powerGain_18 rfl 3 rfl ?_
    refine q_iload (pc := 19) C d_Lc_powerGain_19 5 rfl ?_
    refine q_ishr (pc := 21) C d_Lc_powerGain_21 ?_
    refine q_iconst (pc := 22) (v := 1) C d_Lc_powerGain_22 (by decide) ?_
    refine q_iand (pc := 23) C d_Lc_powerGain_23 ?_
    refine q_iconst (pc := 24) (v := 1) C d_Lc_powerGain_24 (by decide) ?_
    obtain ⟨h1, h2⟩ := h
    refine q_icmp_ne (pc := 25) 74 C d_Lc_powerGain_25 (by decide) (fun hc => ?_) (fun hc => ?_)
    · have h := h1 hc
      refine q_iinc (pc := 74) (v5 + (1 : Int32)) [(5, .int (v5 + (1 : Int32))), (0, .ref (ya Y 0)), (1, .ref (ya Y o1)), (2, .int x2), (3, .int x3), (4, .int v4)] C d_Lc_powerGain_74 5 rfl rfl (by decide) rfl ?_
      refine q_goto (pc := 77) 6 C d_Lc_powerGain_77 (by decide) ?_
      refine q_sub [(0, .ref (ya Y 0)), (1, .ref (ya Y o1)), (2, .int x2), (3, .int x3), (4, .int v4), (5, .int (v5 + (1 : Int32)))] [1, 2, 3, 4, 5, 0] rfl ?_
      exact ih v4 (v5 + (1 : Int32)) h
    have h := h2 hc
    refine q_aload_n (pc := 28) C d_Lc_powerGain_28 rfl 1 rfl ?_
    refine q_iload_n (pc := 29) C d_Lc_powerGain_29 rfl 2 rfl ?_
    refine q_iload (pc := 30) C d_Lc_powerGain_30 5 rfl ?_
    refine q_callVIr (pc := 32) (st := []) (d := o1) C (m_Do_stateAhead hY ho1 h) mi_Do_stateAhead ho1 (by decide) rfl wd_574 rfl rfl (Nat.le_of_ble_eq_true rfl) (by decide) (by decide) d_Lc_powerGain_32 (fun u32 h => ?_)
    refine q_istore (pc := 35) [(6, .int u32), (0, .ref (ya Y 0)), (1, .ref (ya Y o1)), (2, .int x2), (3, .int x3), (4, .int v4), (5, .int v5)] C d_Lc_powerGain_35 (by decide) rfl ?_
    refine q_iload (pc := 37) C d_Lc_powerGain_37 5 rfl ?_
    refine q_aload_n (pc := 39) C d_Lc_powerGain_39 rfl 1 rfl ?_
    refine q_get (pc := 40) (c := 0) (ci := 6) (k := 0) (v := .ref (ya Y 1)) C rfl (by decide) (by decide) wd_230 rfl d_Lc_powerGain_40 ?_
    refine q_iload (pc := 43) C d_Lc_powerGain_43 6 rfl ?_
    refine q_aload_n (pc := 45) C d_Lc_powerGain_45 rfl 1 rfl ?_
    refine q_get (pc := 46) (c := 0) (ci := 6) (k := 0) (v := .ref (ya Y 1)) C rfl (by decide) (by decide) wd_230 rfl d_Lc_powerGain_46 ?_
    refine q_iload (pc := 49) C d_Lc_powerGain_49 6 rfl ?_
    refine q_iload (pc := 51) C d_Lc_powerGain_51 0 rfl ?_
    refine q_callVIr (pc := 53) (st := [.int v5, .ref (ya Y 1), .int v4]) (d := 1) C (m_Ho_stateAfter hY rfl h) mi_Ho_stateAfter rfl (by decide) rfl wd_575 rfl rfl (Nat.le_of_ble_eq_true rfl) (by decide) (by decide) d_Lc_powerGain_53 (fun u53 h => ?_)
    refine q_callVIr (pc := 56) (st := [.int v4]) (d := 1) C (m_Ho_powerIn hY rfl h) mi_Ho_powerIn rfl (by decide) rfl wd_504 rfl rfl (Nat.le_of_ble_eq_true rfl) (by decide) (by decide) d_Lc_powerGain_56 (fun u56 h => ?_)
    refine q_aload_n (pc := 59) C d_Lc_powerGain_59 rfl 1 rfl ?_
    refine q_get (pc := 60) (c := 0) (ci := 6) (k := 0) (v := .ref (ya Y 1)) C rfl (by decide) (by decide) wd_230 rfl d_Lc_powerGain_60 ?_
    refine q_iload (pc := 63) C d_Lc_powerGain_63 6 rfl ?_
    refine q_iload (pc := 65) C d_Lc_powerGain_65 0 rfl ?_
    refine q_callVIr (pc := 67) (st := [.int u56, .int v4]) (d := 1) C (m_Ho_powerIn hY rfl h) mi_Ho_powerIn rfl (by decide) rfl wd_504 rfl rfl (Nat.le_of_ble_eq_true rfl) (by decide) (by decide) d_Lc_powerGain_67 (fun u67 h => ?_)
    refine q_isub (pc := 70) C d_Lc_powerGain_70 ?_
    refine q_iadd (pc := 71) C d_Lc_powerGain_71 ?_
    refine q_nmi (fun y4_72 ey4_72 => ?_)
    replace h := h y4_72 ey4_72
    refine q_istore (pc := 72) [(4, .int y4_72), (6, .int u32), (0, .ref (ya Y 0)), (1, .ref (ya Y o1)), (2, .int x2), (3, .int x3), (5, .int v5)] C d_Lc_powerGain_72 (by decide) rfl ?_
    refine q_iinc (pc := 74) (v5 + (1 : Int32)) [(5, .int (v5 + (1 : Int32))), (4, .int y4_72), (6, .int u32), (0, .ref (ya Y 0)), (1, .ref (ya Y o1)), (2, .int x2), (3, .int x3)] C d_Lc_powerGain_74 6 rfl rfl (by decide) rfl ?_
    refine q_goto (pc := 77) 6 C d_Lc_powerGain_77 (by decide) ?_
    refine q_sub [(0, .ref (ya Y 0)), (1, .ref (ya Y o1)), (2, .int x2), (3, .int x3), (4, .int y4_72), (5, .int (v5 + (1 : Int32)))] [3, 4, 5, 6, 1, 0] rfl ?_
    exact ih y4_72 (v5 + (1 : Int32)) h
def w_Lc_powerGain (o1 : Nat) (x2 : Int32) (x3 : Int32) (σ : Sg) (K : Int32 → Prop) : Prop :=
  (∃ n5 : Nat, L_Lc_powerGain_6 o1 x2 x3 σ K n5 (0 : Int32) (0 : Int32))
set_option maxHeartbeats 4000000 in
theorem m_Lc_powerGain {Y : Yx} {o1 : Nat} {x2 : Int32} {x3 : Int32} {σ : Sg} {K : Int32 → Prop} (hY : YD Y) (ho1 : kd o1 = 0) (h : w_Lc_powerGain o1 x2 x3 σ K) : MetI Y y_Lc_powerGain prog_1_method_47_code 7 (.int) 2 44 [.ref (ya Y 0), .ref (ya Y o1), .int x2, .int x3] σ (fun r τ => τ = σ ∧ K r) := by
  refine met_I [(0, .ref (ya Y 0)), (1, .ref (ya Y o1)), (2, .int x2), (3, .int x3)] hY (by decide) (Nat.le_of_ble_eq_true rfl) rfl (fun X C hr => ?_)
  unfold w_Lc_powerGain at h
  refine q_iconst (pc := 0) (v := 0) C d_Lc_powerGain_0 (by decide) ?_
  refine q_istore (pc := 1) [(4, .int (0 : Int32)), (0, .ref (ya Y 0)), (1, .ref (ya Y o1)), (2, .int x2), (3, .int x3)] C d_Lc_powerGain_1 (by decide) rfl ?_
  refine q_iconst (pc := 3) (v := 0) C d_Lc_powerGain_3 (by decide) ?_
  refine q_istore (pc := 4) [(5, .int (0 : Int32)), (4, .int (0 : Int32)), (0, .ref (ya Y 0)), (1, .ref (ya Y o1)), (2, .int x2), (3, .int x3)] C d_Lc_powerGain_4 (by decide) rfl ?_
  obtain ⟨n5, h⟩ := h
  refine q_sub [(0, .ref (ya Y 0)), (1, .ref (ya Y o1)), (2, .int x2), (3, .int x3), (4, .int (0 : Int32)), (5, .int (0 : Int32))] [2, 3, 4, 5, 1, 0] rfl ?_
  exact t_Lc_powerGain_6 hY C hr ho1 n5 (0 : Int32) (0 : Int32) h
theorem d_Lc_ways_0 : decode prog_1_method_14_code 0 = .ok (.aload_n 0, 1) := by decide +kernel
theorem d_Lc_ways_1 : decode prog_1_method_14_code 1 = .ok (.getfield 12, 3) := by decide +kernel
theorem d_Lc_ways_4 : decode prog_1_method_14_code 4 = .ok (.iload_n 1, 1) := by decide +kernel
theorem d_Lc_ways_5 : decode prog_1_method_14_code 5 = .ok (.invokevirtual 160, 3) := by decide +kernel
theorem d_Lc_ways_8 : decode prog_1_method_14_code 8 = .ok (.ifCond .ne 5, 3) := by decide +kernel
theorem d_Lc_ways_11 : decode prog_1_method_14_code 11 = .ok (.iconst (-1), 1) := by decide +kernel
theorem d_Lc_ways_12 : decode prog_1_method_14_code 12 = .ok (.ireturn, 1) := by decide +kernel
theorem d_Lc_ways_13 : decode prog_1_method_14_code 13 = .ok (.aload_n 0, 1) := by decide +kernel
theorem d_Lc_ways_14 : decode prog_1_method_14_code 14 = .ok (.invokevirtual 169, 3) := by decide +kernel
theorem d_Lc_ways_17 : decode prog_1_method_14_code 17 = .ok (.astore_n 2, 1) := by decide +kernel
theorem d_Lc_ways_18 : decode prog_1_method_14_code 18 = .ok (.aload_n 0, 1) := by decide +kernel
theorem d_Lc_ways_19 : decode prog_1_method_14_code 19 = .ok (.getfield 12, 3) := by decide +kernel
theorem d_Lc_ways_22 : decode prog_1_method_14_code 22 = .ok (.iload_n 1, 1) := by decide +kernel
theorem d_Lc_ways_23 : decode prog_1_method_14_code 23 = .ok (.invokevirtual 198, 3) := by decide +kernel
theorem d_Lc_ways_26 : decode prog_1_method_14_code 26 = .ok (.istore_n 3, 1) := by decide +kernel
theorem d_Lc_ways_27 : decode prog_1_method_14_code 27 = .ok (.iconst 0, 1) := by decide +kernel
theorem d_Lc_ways_28 : decode prog_1_method_14_code 28 = .ok (.istore 4, 2) := by decide +kernel
theorem d_Lc_ways_30 : decode prog_1_method_14_code 30 = .ok (.iconst 0, 1) := by decide +kernel
theorem d_Lc_ways_31 : decode prog_1_method_14_code 31 = .ok (.istore 5, 2) := by decide +kernel
theorem d_Lc_ways_33 : decode prog_1_method_14_code 33 = .ok (.iload 5, 2) := by decide +kernel
theorem d_Lc_ways_35 : decode prog_1_method_14_code 35 = .ok (.iconst 1, 1) := by decide +kernel
theorem d_Lc_ways_36 : decode prog_1_method_14_code 36 = .ok (.aload_n 0, 1) := by decide +kernel
theorem d_Lc_ways_37 : decode prog_1_method_14_code 37 = .ok (.getfield 12, 3) := by decide +kernel
theorem d_Lc_ways_40 : decode prog_1_method_14_code 40 = .ok (.getfield 105, 3) := by decide +kernel
theorem d_Lc_ways_43 : decode prog_1_method_14_code 43 = .ok (.ishl, 1) := by decide +kernel
theorem d_Lc_ways_44 : decode prog_1_method_14_code 44 = .ok (.if_icmp .ge 24, 3) := by decide +kernel
theorem d_Lc_ways_47 : decode prog_1_method_14_code 47 = .ok (.aload_n 0, 1) := by decide +kernel
theorem d_Lc_ways_48 : decode prog_1_method_14_code 48 = .ok (.aload_n 2, 1) := by decide +kernel
theorem d_Lc_ways_49 : decode prog_1_method_14_code 49 = .ok (.iload_n 1, 1) := by decide +kernel
theorem d_Lc_ways_50 : decode prog_1_method_14_code 50 = .ok (.iload 5, 2) := by decide +kernel
theorem d_Lc_ways_52 : decode prog_1_method_14_code 52 = .ok (.invokevirtual 201, 3) := by decide +kernel
theorem d_Lc_ways_55 : decode prog_1_method_14_code 55 = .ok (.iload_n 3, 1) := by decide +kernel
theorem d_Lc_ways_56 : decode prog_1_method_14_code 56 = .ok (.if_icmp .ne 6, 3) := by decide +kernel
theorem d_Lc_ways_59 : decode prog_1_method_14_code 59 = .ok (.iinc 4 1, 3) := by decide +kernel
theorem d_Lc_ways_62 : decode prog_1_method_14_code 62 = .ok (.iinc 5 1, 3) := by decide +kernel
theorem d_Lc_ways_65 : decode prog_1_method_14_code 65 = .ok (.goto (-32), 3) := by decide +kernel
theorem d_Lc_ways_68 : decode prog_1_method_14_code 68 = .ok (.iload 4, 2) := by decide +kernel
theorem d_Lc_ways_70 : decode prog_1_method_14_code 70 = .ok (.ireturn, 1) := by decide +kernel
abbrev y_Lc_ways : MethodName := ⟨"LoadCycles", "ways", "(I)I"⟩
theorem mi_Lc_ways : miV y_Lc_ways prog_1_method_14_code 6 (some .int) 1 := ⟨wd_567, wd_568, wd_65, wd_569, by decide, by decide, by decide +kernel⟩
def L_Lc_ways_33 (x1 : Int32) (c2 : Nat) (v3 : Int32) (K : Int32 → Sg → Prop) : Nat → Int32 → Int32 → Sg → Prop
  | 0, _, _, _ => False
  | n + 1, v4, v5, σ =>
    ((((1 : Int32) <<< ((σ 1 4) &&& 31)) ≤ v5 → K v4 σ) ∧ (¬ ((1 : Int32) <<< ((σ 1 4) &&& 31)) ≤ v5 → w_Lc_powerGain c2 x1 v5 σ (fun u52 => ((¬ u52 = v3 → L_Lc_ways_33 x1 c2 v3 K n v4 (v5 + (1 : Int32)) σ) ∧ (u52 = v3 → L_Lc_ways_33 x1 c2 v3 K n (v4 + (1 : Int32)) (v5 + (1 : Int32)) σ)))))
theorem t_Lc_ways_33 {X : Bx} {Y : Yx} {x1 : Int32} {c2 : Nat} {v3 : Int32} {K : Int32 → Sg → Prop}  (hY : YD Y) (C : Cx X Y prog_1_method_14_code 6 "LoadCycles" 5 131) (hr : (xh X).sig.returnType = some .int) (hkc2 : kd c2 = 0) : ∀ (n : Nat) (v4 : Int32) (v5 : Int32) (σ : Sg), L_Lc_ways_33 x1 c2 v3 K n v4 v5 σ → St X Y 6 (QI X Y K) 33 [(0, .ref (ya Y 0)), (1, .int x1), (2, .ref (ya Y c2)), (3, .int v3), (4, .int v4), (5, .int v5)] [] σ := by
  intro n
  induction n with
  | zero => intro v4 v5 σ h; exact h.elim
  | succ n ih =>
    intro v4 v5 σ h
    unfold L_Lc_ways_33 at h
    refine q_iload (pc := 33) C d_Lc_ways_33 5 rfl ?_
    refine q_iconst (pc := 35) (v := 1) C d_Lc_ways_35 (by decide) ?_
    refine q_aload_n (pc := 36) C d_Lc_ways_36 rfl 0 rfl ?_
    refine q_get (pc := 37) (c := 0) (ci := 6) (k := 0) (v := .ref (ya Y 1)) C rfl (by decide) (by decide) wd_230 rfl d_Lc_ways_37 ?_
    refine q_get (pc := 40) (c := 1) (ci := 2) (k := 4) (v := .int (σ 1 4)) C rfl (by decide) (by decide) wd_103 rfl d_Lc_ways_40 ?_
    refine q_ishl (pc := 43) C d_Lc_ways_43 ?_
    obtain ⟨h4, h5⟩ := h
    refine q_icmp_ge (pc := 44) 68 C d_Lc_ways_44 (by decide) (fun hc => ?_) (fun hc => ?_)
    · have h := h4 hc
      refine q_iload (pc := 68) C d_Lc_ways_68 4 rfl ?_
      exact q_iret (pc := 70) C hr d_Lc_ways_70 h
    have h := h5 hc
    refine q_aload_n (pc := 47) C d_Lc_ways_47 rfl 0 rfl ?_
    refine q_aload_n (pc := 48) C d_Lc_ways_48 rfl 2 rfl ?_
    refine q_iload_n (pc := 49) C d_Lc_ways_49 rfl 1 rfl ?_
    refine q_iload (pc := 50) C d_Lc_ways_50 5 rfl ?_
    refine q_callVIr (pc := 52) (st := []) (d := 0) C (m_Lc_powerGain hY hkc2 h) mi_Lc_powerGain rfl (by decide) rfl wd_570 rfl rfl (Nat.le_of_ble_eq_true rfl) (by decide) (by decide) d_Lc_ways_52 (fun u52 h => ?_)
    refine q_iload_n (pc := 55) C d_Lc_ways_55 rfl 3 rfl ?_
    obtain ⟨h2, h3⟩ := h
    refine q_icmp_ne (pc := 56) 62 C d_Lc_ways_56 (by decide) (fun hc => ?_) (fun hc => ?_)
    · have h := h2 hc
      refine q_iinc (pc := 62) (v5 + (1 : Int32)) [(5, .int (v5 + (1 : Int32))), (0, .ref (ya Y 0)), (1, .int x1), (2, .ref (ya Y c2)), (3, .int v3), (4, .int v4)] C d_Lc_ways_62 5 rfl rfl (by decide) rfl ?_
      refine q_goto (pc := 65) 33 C d_Lc_ways_65 (by decide) ?_
      refine q_sub [(0, .ref (ya Y 0)), (1, .int x1), (2, .ref (ya Y c2)), (3, .int v3), (4, .int v4), (5, .int (v5 + (1 : Int32)))] [1, 2, 3, 4, 5, 0] rfl ?_
      exact ih v4 (v5 + (1 : Int32)) σ h
    have h := h3 hc
    refine q_iinc (pc := 59) (v4 + (1 : Int32)) [(4, .int (v4 + (1 : Int32))), (0, .ref (ya Y 0)), (1, .int x1), (2, .ref (ya Y c2)), (3, .int v3), (5, .int v5)] C d_Lc_ways_59 4 rfl rfl (by decide) rfl ?_
    refine q_iinc (pc := 62) (v5 + (1 : Int32)) [(5, .int (v5 + (1 : Int32))), (4, .int (v4 + (1 : Int32))), (0, .ref (ya Y 0)), (1, .int x1), (2, .ref (ya Y c2)), (3, .int v3)] C d_Lc_ways_62 5 rfl rfl (by decide) rfl ?_
    refine q_goto (pc := 65) 33 C d_Lc_ways_65 (by decide) ?_
    refine q_sub [(0, .ref (ya Y 0)), (1, .int x1), (2, .ref (ya Y c2)), (3, .int v3), (4, .int (v4 + (1 : Int32))), (5, .int (v5 + (1 : Int32)))] [2, 3, 4, 5, 1, 0] rfl ?_
    exact ih (v4 + (1 : Int32)) (v5 + (1 : Int32)) σ h
def w_Lc_ways (x1 : Int32) (σ : Sg) (K : Int32 → Sg → Prop) : Prop :=
  w_Ho_hasTime 1 x1 σ (fun u5 => ((¬ u5 = 0 → w_Lc_knownBest σ (fun u14 τ14 => (kd u14 = 0 ∧ w_Ho_jumpTo 1 x1 τ14 (fun u23 => (∃ n6 : Nat, L_Lc_ways_33 x1 u14 u23 K n6 (0 : Int32) (0 : Int32) τ14))))) ∧ (u5 = 0 → K (-1 : Int32) σ)))
set_option maxHeartbeats 4000000 in
theorem m_Lc_ways {Y : Yx} {x1 : Int32} {σ : Sg} {K : Int32 → Sg → Prop} (hY : YD Y)  (h : w_Lc_ways x1 σ K) : MetI Y y_Lc_ways prog_1_method_14_code 6 (.int) 5 131 [.ref (ya Y 0), .int x1] σ K := by
  refine met_I [(0, .ref (ya Y 0)), (1, .int x1)] hY (by decide) (Nat.le_of_ble_eq_true rfl) rfl (fun X C hr => ?_)
  unfold w_Lc_ways at h
  refine q_aload_n (pc := 0) C d_Lc_ways_0 rfl 0 rfl ?_
  refine q_get (pc := 1) (c := 0) (ci := 6) (k := 0) (v := .ref (ya Y 1)) C rfl (by decide) (by decide) wd_230 rfl d_Lc_ways_1 ?_
  refine q_iload_n (pc := 4) C d_Lc_ways_4 rfl 1 rfl ?_
  refine q_callVIr (pc := 5) (st := []) (d := 1) C (m_Ho_hasTime hY rfl h) mi_Ho_hasTime rfl (by decide) rfl wd_402 rfl rfl (Nat.le_of_ble_eq_true rfl) (by decide) (by decide) d_Lc_ways_5 (fun u5 h => ?_)
  obtain ⟨h7, h8⟩ := h
  refine q_if_ne (pc := 8) 13 C d_Lc_ways_8 (by decide) (fun hc => ?_) (fun hc => ?_)
  · have h := h7 hc
    refine q_aload_n (pc := 13) C d_Lc_ways_13 rfl 0 rfl ?_
    refine q_callVR (pc := 14) (st := []) (d := 0) C (m_Lc_knownBest hY h) mi_Lc_knownBest rfl (by decide) rfl wd_421 rfl rfl (Nat.le_of_ble_eq_true rfl) (by decide) (by decide) d_Lc_ways_14 (fun u14 τ14 h => ?_)
    obtain ⟨h1, h⟩ := h
    refine q_astore_n (pc := 17) [(2, .ref (ya Y u14)), (0, .ref (ya Y 0)), (1, .int x1)] C d_Lc_ways_17 rfl (by decide) rfl ?_
    refine q_aload_n (pc := 18) C d_Lc_ways_18 rfl 1 rfl ?_
    refine q_get (pc := 19) (c := 0) (ci := 6) (k := 0) (v := .ref (ya Y 1)) C rfl (by decide) (by decide) wd_230 rfl d_Lc_ways_19 ?_
    refine q_iload_n (pc := 22) C d_Lc_ways_22 rfl 2 rfl ?_
    refine q_callVIr (pc := 23) (st := []) (d := 1) C (m_Ho_jumpTo hY rfl h) mi_Ho_jumpTo rfl (by decide) rfl wd_562 rfl rfl (Nat.le_of_ble_eq_true rfl) (by decide) (by decide) d_Lc_ways_23 (fun u23 h => ?_)
    refine q_istore_n (pc := 26) [(3, .int u23), (2, .ref (ya Y u14)), (0, .ref (ya Y 0)), (1, .int x1)] C d_Lc_ways_26 rfl (by decide) rfl ?_
    refine q_iconst (pc := 27) (v := 0) C d_Lc_ways_27 (by decide) ?_
    refine q_istore (pc := 28) [(4, .int (0 : Int32)), (3, .int u23), (2, .ref (ya Y u14)), (0, .ref (ya Y 0)), (1, .int x1)] C d_Lc_ways_28 (by decide) rfl ?_
    refine q_iconst (pc := 30) (v := 0) C d_Lc_ways_30 (by decide) ?_
    refine q_istore (pc := 31) [(5, .int (0 : Int32)), (4, .int (0 : Int32)), (3, .int u23), (2, .ref (ya Y u14)), (0, .ref (ya Y 0)), (1, .int x1)] C d_Lc_ways_31 (by decide) rfl ?_
    obtain ⟨n6, h⟩ := h
    refine q_sub [(0, .ref (ya Y 0)), (1, .int x1), (2, .ref (ya Y u14)), (3, .int u23), (4, .int (0 : Int32)), (5, .int (0 : Int32))] [4, 5, 3, 2, 1, 0] rfl ?_
    exact t_Lc_ways_33 hY C hr h1 n6 (0 : Int32) (0 : Int32) τ14 h
  have h := h8 hc
  refine q_iconst (pc := 11) (v := -1) C d_Lc_ways_11 (by decide) ?_
  exact q_iret (pc := 12) C hr d_Lc_ways_12 h
theorem d_Lc_longest_0 : decode prog_1_method_15_code 0 = .ok (.aload_n 0, 1) := by decide +kernel
theorem d_Lc_longest_1 : decode prog_1_method_15_code 1 = .ok (.getfield 12, 3) := by decide +kernel
theorem d_Lc_longest_4 : decode prog_1_method_15_code 4 = .ok (.iload_n 1, 1) := by decide +kernel
theorem d_Lc_longest_5 : decode prog_1_method_15_code 5 = .ok (.invokevirtual 108, 3) := by decide +kernel
theorem d_Lc_longest_8 : decode prog_1_method_15_code 8 = .ok (.ifCond .ne 5, 3) := by decide +kernel
theorem d_Lc_longest_11 : decode prog_1_method_15_code 11 = .ok (.iconst (-1), 1) := by decide +kernel
theorem d_Lc_longest_12 : decode prog_1_method_15_code 12 = .ok (.ireturn, 1) := by decide +kernel
theorem d_Lc_longest_13 : decode prog_1_method_15_code 13 = .ok (.aload_n 0, 1) := by decide +kernel
theorem d_Lc_longest_14 : decode prog_1_method_15_code 14 = .ok (.invokevirtual 169, 3) := by decide +kernel
theorem d_Lc_longest_17 : decode prog_1_method_15_code 17 = .ok (.astore_n 2, 1) := by decide +kernel
theorem d_Lc_longest_18 : decode prog_1_method_15_code 18 = .ok (.iconst 0, 1) := by decide +kernel
theorem d_Lc_longest_19 : decode prog_1_method_15_code 19 = .ok (.istore_n 3, 1) := by decide +kernel
theorem d_Lc_longest_20 : decode prog_1_method_15_code 20 = .ok (.iconst 0, 1) := by decide +kernel
theorem d_Lc_longest_21 : decode prog_1_method_15_code 21 = .ok (.istore 4, 2) := by decide +kernel
theorem d_Lc_longest_23 : decode prog_1_method_15_code 23 = .ok (.iconst 0, 1) := by decide +kernel
theorem d_Lc_longest_24 : decode prog_1_method_15_code 24 = .ok (.istore 5, 2) := by decide +kernel
theorem d_Lc_longest_26 : decode prog_1_method_15_code 26 = .ok (.iload 5, 2) := by decide +kernel
theorem d_Lc_longest_28 : decode prog_1_method_15_code 28 = .ok (.aload_n 0, 1) := by decide +kernel
theorem d_Lc_longest_29 : decode prog_1_method_15_code 29 = .ok (.getfield 12, 3) := by decide +kernel
theorem d_Lc_longest_32 : decode prog_1_method_15_code 32 = .ok (.getfield 157, 3) := by decide +kernel
theorem d_Lc_longest_35 : decode prog_1_method_15_code 35 = .ok (.if_icmp .ge 36, 3) := by decide +kernel
theorem d_Lc_longest_38 : decode prog_1_method_15_code 38 = .ok (.aload_n 2, 1) := by decide +kernel
theorem d_Lc_longest_39 : decode prog_1_method_15_code 39 = .ok (.iload 5, 2) := by decide +kernel
theorem d_Lc_longest_41 : decode prog_1_method_15_code 41 = .ok (.iload_n 1, 1) := by decide +kernel
theorem d_Lc_longest_42 : decode prog_1_method_15_code 42 = .ok (.invokevirtual 173, 3) := by decide +kernel
theorem d_Lc_longest_45 : decode prog_1_method_15_code 45 = .ok (.ifCond .ne 7, 3) := by decide +kernel
theorem d_Lc_longest_48 : decode prog_1_method_15_code 48 = .ok (.iconst 0, 1) := by decide +kernel
theorem d_Lc_longest_49 : decode prog_1_method_15_code 49 = .ok (.goto 7, 3) := by decide +kernel
theorem d_Lc_longest_52 : decode prog_1_method_15_code 52 = .ok (.iload 4, 2) := by decide +kernel
theorem d_Lc_longest_54 : decode prog_1_method_15_code 54 = .ok (.iconst 1, 1) := by decide +kernel
theorem d_Lc_longest_55 : decode prog_1_method_15_code 55 = .ok (.iadd, 1) := by decide +kernel
theorem d_Lc_longest_56 : decode prog_1_method_15_code 56 = .ok (.istore 4, 2) := by decide +kernel
theorem d_Lc_longest_58 : decode prog_1_method_15_code 58 = .ok (.iload_n 3, 1) := by decide +kernel
theorem d_Lc_longest_59 : decode prog_1_method_15_code 59 = .ok (.iload 4, 2) := by decide +kernel
theorem d_Lc_longest_61 : decode prog_1_method_15_code 61 = .ok (.invokestatic 205, 3) := by decide +kernel
theorem d_Lc_longest_64 : decode prog_1_method_15_code 64 = .ok (.istore_n 3, 1) := by decide +kernel
theorem d_Lc_longest_65 : decode prog_1_method_15_code 65 = .ok (.iinc 5 1, 3) := by decide +kernel
theorem d_Lc_longest_68 : decode prog_1_method_15_code 68 = .ok (.goto (-42), 3) := by decide +kernel
theorem d_Lc_longest_71 : decode prog_1_method_15_code 71 = .ok (.iload_n 3, 1) := by decide +kernel
theorem d_Lc_longest_72 : decode prog_1_method_15_code 72 = .ok (.ireturn, 1) := by decide +kernel
abbrev y_Lc_longest : MethodName := ⟨"LoadCycles", "longest", "(I)I"⟩
theorem mi_Lc_longest : miV y_Lc_longest prog_1_method_15_code 6 (some .int) 1 := ⟨wd_577, wd_578, wd_65, wd_579, by decide, by decide, by decide +kernel⟩
def B_Lc_longest_56 (x1 : Int32) (K : Int32 → Sg → Prop) (r26 : Int32 → Int32 → Int32 → Sg → Prop) (c2 : Nat) (v3 : Int32) (v5 : Int32) (vs0 : Int32) (σ : Sg) : Prop :=
  (∀ y3_64 : Int32, y3_64 = (if v3 < vs0 then vs0 else v3) → r26 y3_64 vs0 (v5 + (1 : Int32)) σ)
theorem t_Lc_longest_56 {X : Bx} {Y : Yx} {x1 : Int32} {c2 : Nat} {v3 : Int32} {v5 : Int32} {vs0 : Int32} {K : Int32 → Sg → Prop} {r26 : Int32 → Int32 → Int32 → Sg → Prop} (hY : YD Y) (C : Cx X Y prog_1_method_15_code 6 "LoadCycles" 5 131) (hr : (xh X).sig.returnType = some .int) (hkc2 : kd c2 = 0) (H26 : ∀ (v3 : Int32) (v4 : Int32) (v5 : Int32) (σ : Sg), r26 v3 v4 v5 σ → St X Y 6 (QI X Y K) 26 [(0, .ref (ya Y 0)), (1, .int x1), (2, .ref (ya Y c2)), (3, .int v3), (4, .int v4), (5, .int v5)] [] σ)  {σ : Sg} (h : B_Lc_longest_56 x1 K r26 c2 v3 v5 vs0 σ) : St X Y 6 (QI X Y K) 56 [(0, .ref (ya Y 0)), (1, .int x1), (2, .ref (ya Y c2)), (3, .int v3), (5, .int v5)] [.int vs0] σ := by
  unfold B_Lc_longest_56 at h
  refine q_istore (pc := 56) [(4, .int vs0), (0, .ref (ya Y 0)), (1, .int x1), (2, .ref (ya Y c2)), (3, .int v3), (5, .int v5)] C d_Lc_longest_56 (by decide) rfl ?_
  refine q_iload_n (pc := 58) C d_Lc_longest_58 rfl 4 rfl ?_
  refine q_iload (pc := 59) C d_Lc_longest_59 0 rfl ?_
  refine q_mmax (pc := 61) (st := []) C wd_580 wd_581 wd_75 wd_582 (by decide) (Nat.le_of_ble_eq_true rfl) d_Lc_longest_61 ?_
  refine q_nmi (fun y3_64 ey3_64 => ?_)
  replace h := h y3_64 ey3_64
  refine q_istore_n (pc := 64) [(3, .int y3_64), (4, .int vs0), (0, .ref (ya Y 0)), (1, .int x1), (2, .ref (ya Y c2)), (5, .int v5)] C d_Lc_longest_64 rfl (by decide) rfl ?_
  refine q_iinc (pc := 65) (v5 + (1 : Int32)) [(5, .int (v5 + (1 : Int32))), (3, .int y3_64), (4, .int vs0), (0, .ref (ya Y 0)), (1, .int x1), (2, .ref (ya Y c2))] C d_Lc_longest_65 5 rfl rfl (by decide) rfl ?_
  refine q_goto (pc := 68) 26 C d_Lc_longest_68 (by decide) ?_
  refine q_sub [(0, .ref (ya Y 0)), (1, .int x1), (2, .ref (ya Y c2)), (3, .int y3_64), (4, .int vs0), (5, .int (v5 + (1 : Int32)))] [3, 4, 5, 1, 2, 0] rfl ?_
  exact H26 y3_64 vs0 (v5 + (1 : Int32)) σ h
def L_Lc_longest_26 (x1 : Int32) (c2 : Nat) (K : Int32 → Sg → Prop) : Nat → Int32 → Int32 → Int32 → Sg → Prop
  | 0, _, _, _, _ => False
  | n + 1, v3, v4, v5, σ =>
    (((σ 1 5) ≤ v5 → K v3 σ) ∧ (¬ (σ 1 5) ≤ v5 → w_Do_stateOf c2 v5 x1 σ (fun u42 => ((¬ u42 = 0 → B_Lc_longest_56 x1 K (fun a0 a1 a2 a3 => L_Lc_longest_26 x1 c2 K n a0 a1 a2 a3) c2 v3 v5 (v4 + (1 : Int32)) σ) ∧ (u42 = 0 → B_Lc_longest_56 x1 K (fun a0 a1 a2 a3 => L_Lc_longest_26 x1 c2 K n a0 a1 a2 a3) c2 v3 v5 (0 : Int32) σ)))))
theorem t_Lc_longest_26 {X : Bx} {Y : Yx} {x1 : Int32} {c2 : Nat} {K : Int32 → Sg → Prop}  (hY : YD Y) (C : Cx X Y prog_1_method_15_code 6 "LoadCycles" 5 131) (hr : (xh X).sig.returnType = some .int) (hkc2 : kd c2 = 0) : ∀ (n : Nat) (v3 : Int32) (v4 : Int32) (v5 : Int32) (σ : Sg), L_Lc_longest_26 x1 c2 K n v3 v4 v5 σ → St X Y 6 (QI X Y K) 26 [(0, .ref (ya Y 0)), (1, .int x1), (2, .ref (ya Y c2)), (3, .int v3), (4, .int v4), (5, .int v5)] [] σ := by
  intro n
  induction n with
  | zero => intro v3 v4 v5 σ h; exact h.elim
  | succ n ih =>
    intro v3 v4 v5 σ h
    unfold L_Lc_longest_26 at h
    refine q_iload (pc := 26) C d_Lc_longest_26 5 rfl ?_
    refine q_aload_n (pc := 28) C d_Lc_longest_28 rfl 0 rfl ?_
    refine q_get (pc := 29) (c := 0) (ci := 6) (k := 0) (v := .ref (ya Y 1)) C rfl (by decide) (by decide) wd_230 rfl d_Lc_longest_29 ?_
    refine q_get (pc := 32) (c := 1) (ci := 2) (k := 5) (v := .int (σ 1 5)) C rfl (by decide) (by decide) wd_107 rfl d_Lc_longest_32 ?_
    obtain ⟨h4, h5⟩ := h
    refine q_icmp_ge (pc := 35) 71 C d_Lc_longest_35 (by decide) (fun hc => ?_) (fun hc => ?_)
    · have h := h4 hc
      refine q_iload_n (pc := 71) C d_Lc_longest_71 rfl 3 rfl ?_
      exact q_iret (pc := 72) C hr d_Lc_longest_72 h
    have h := h5 hc
    refine q_aload_n (pc := 38) C d_Lc_longest_38 rfl 2 rfl ?_
    refine q_iload (pc := 39) C d_Lc_longest_39 5 rfl ?_
    refine q_iload_n (pc := 41) C d_Lc_longest_41 rfl 1 rfl ?_
    refine q_callVIr (pc := 42) (st := []) (d := c2) C (m_Do_stateOf hY hkc2 h) mi_Do_stateOf hkc2 (by decide) rfl wd_499 rfl rfl (Nat.le_of_ble_eq_true rfl) (by decide) (by decide) d_Lc_longest_42 (fun u42 h => ?_)
    obtain ⟨h2, h3⟩ := h
    refine q_if_ne (pc := 45) 52 C d_Lc_longest_45 (by decide) (fun hc => ?_) (fun hc => ?_)
    · have h := h2 hc
      refine q_iload (pc := 52) C d_Lc_longest_52 4 rfl ?_
      refine q_iconst (pc := 54) (v := 1) C d_Lc_longest_54 (by decide) ?_
      refine q_iadd (pc := 55) C d_Lc_longest_55 ?_
      refine q_sub [(0, .ref (ya Y 0)), (1, .int x1), (2, .ref (ya Y c2)), (3, .int v3), (5, .int v5)] [0, 1, 2, 3, 5] rfl ?_
      exact t_Lc_longest_56 hY C hr hkc2 ih h
    have h := h3 hc
    refine q_iconst (pc := 48) (v := 0) C d_Lc_longest_48 (by decide) ?_
    refine q_goto (pc := 49) 56 C d_Lc_longest_49 (by decide) ?_
    refine q_sub [(0, .ref (ya Y 0)), (1, .int x1), (2, .ref (ya Y c2)), (3, .int v3), (5, .int v5)] [0, 1, 2, 3, 5] rfl ?_
    exact t_Lc_longest_56 hY C hr hkc2 ih h
def w_Lc_longest (x1 : Int32) (σ : Sg) (K : Int32 → Sg → Prop) : Prop :=
  w_Ho_hasAppliance 1 x1 σ (fun u5 => ((¬ u5 = 0 → w_Lc_knownBest σ (fun u14 τ14 => (kd u14 = 0 ∧ (∃ n6 : Nat, L_Lc_longest_26 x1 u14 K n6 (0 : Int32) (0 : Int32) (0 : Int32) τ14)))) ∧ (u5 = 0 → K (-1 : Int32) σ)))
set_option maxHeartbeats 4000000 in
theorem m_Lc_longest {Y : Yx} {x1 : Int32} {σ : Sg} {K : Int32 → Sg → Prop} (hY : YD Y)  (h : w_Lc_longest x1 σ K) : MetI Y y_Lc_longest prog_1_method_15_code 6 (.int) 5 131 [.ref (ya Y 0), .int x1] σ K := by
  refine met_I [(0, .ref (ya Y 0)), (1, .int x1)] hY (by decide) (Nat.le_of_ble_eq_true rfl) rfl (fun X C hr => ?_)
  unfold w_Lc_longest at h
  refine q_aload_n (pc := 0) C d_Lc_longest_0 rfl 0 rfl ?_
  refine q_get (pc := 1) (c := 0) (ci := 6) (k := 0) (v := .ref (ya Y 1)) C rfl (by decide) (by decide) wd_230 rfl d_Lc_longest_1 ?_
  refine q_iload_n (pc := 4) C d_Lc_longest_4 rfl 1 rfl ?_
  refine q_callVIr (pc := 5) (st := []) (d := 1) C (m_Ho_hasAppliance hY rfl h) mi_Ho_hasAppliance rfl (by decide) rfl wd_357 rfl rfl (Nat.le_of_ble_eq_true rfl) (by decide) (by decide) d_Lc_longest_5 (fun u5 h => ?_)
  obtain ⟨h7, h8⟩ := h
  refine q_if_ne (pc := 8) 13 C d_Lc_longest_8 (by decide) (fun hc => ?_) (fun hc => ?_)
  · have h := h7 hc
    refine q_aload_n (pc := 13) C d_Lc_longest_13 rfl 0 rfl ?_
    refine q_callVR (pc := 14) (st := []) (d := 0) C (m_Lc_knownBest hY h) mi_Lc_knownBest rfl (by decide) rfl wd_421 rfl rfl (Nat.le_of_ble_eq_true rfl) (by decide) (by decide) d_Lc_longest_14 (fun u14 τ14 h => ?_)
    obtain ⟨h1, h⟩ := h
    refine q_astore_n (pc := 17) [(2, .ref (ya Y u14)), (0, .ref (ya Y 0)), (1, .int x1)] C d_Lc_longest_17 rfl (by decide) rfl ?_
    refine q_iconst (pc := 18) (v := 0) C d_Lc_longest_18 (by decide) ?_
    refine q_istore_n (pc := 19) [(3, .int (0 : Int32)), (2, .ref (ya Y u14)), (0, .ref (ya Y 0)), (1, .int x1)] C d_Lc_longest_19 rfl (by decide) rfl ?_
    refine q_iconst (pc := 20) (v := 0) C d_Lc_longest_20 (by decide) ?_
    refine q_istore (pc := 21) [(4, .int (0 : Int32)), (3, .int (0 : Int32)), (2, .ref (ya Y u14)), (0, .ref (ya Y 0)), (1, .int x1)] C d_Lc_longest_21 (by decide) rfl ?_
    refine q_iconst (pc := 23) (v := 0) C d_Lc_longest_23 (by decide) ?_
    refine q_istore (pc := 24) [(5, .int (0 : Int32)), (4, .int (0 : Int32)), (3, .int (0 : Int32)), (2, .ref (ya Y u14)), (0, .ref (ya Y 0)), (1, .int x1)] C d_Lc_longest_24 (by decide) rfl ?_
    obtain ⟨n6, h⟩ := h
    refine q_sub [(0, .ref (ya Y 0)), (1, .int x1), (2, .ref (ya Y u14)), (3, .int (0 : Int32)), (4, .int (0 : Int32)), (5, .int (0 : Int32))] [4, 5, 3, 2, 1, 0] rfl ?_
    exact t_Lc_longest_26 hY C hr h1 n6 (0 : Int32) (0 : Int32) (0 : Int32) τ14 h
  have h := h8 hc
  refine q_iconst (pc := 11) (v := -1) C d_Lc_longest_11 (by decide) ?_
  exact q_iret (pc := 12) C hr d_Lc_longest_12 h
theorem d_Lc_nearestBits_0 : decode prog_1_method_51_code 0 = .ok (.lload_n 0, 1) := by decide +kernel
theorem d_Lc_nearestBits_1 : decode prog_1_method_51_code 1 = .ok (.lconst 0, 1) := by decide +kernel
theorem d_Lc_nearestBits_2 : decode prog_1_method_51_code 2 = .ok (.lcmp, 1) := by decide +kernel
theorem d_Lc_nearestBits_3 : decode prog_1_method_51_code 3 = .ok (.ifCond .le 9, 3) := by decide +kernel
theorem d_Lc_nearestBits_6 : decode prog_1_method_51_code 6 = .ok (.lload_n 2, 1) := by decide +kernel
theorem d_Lc_nearestBits_7 : decode prog_1_method_51_code 7 = .ok (.lconst 0, 1) := by decide +kernel
theorem d_Lc_nearestBits_8 : decode prog_1_method_51_code 8 = .ok (.lcmp, 1) := by decide +kernel
theorem d_Lc_nearestBits_9 : decode prog_1_method_51_code 9 = .ok (.ifCond .gt 5, 3) := by decide +kernel
theorem d_Lc_nearestBits_12 : decode prog_1_method_51_code 12 = .ok (.lconst 0, 1) := by decide +kernel
theorem d_Lc_nearestBits_13 : decode prog_1_method_51_code 13 = .ok (.lreturn, 1) := by decide +kernel
theorem d_Lc_nearestBits_14 : decode prog_1_method_51_code 14 = .ok (.lconst 1, 1) := by decide +kernel
theorem d_Lc_nearestBits_15 : decode prog_1_method_51_code 15 = .ok (.iload 4, 2) := by decide +kernel
theorem d_Lc_nearestBits_17 : decode prog_1_method_51_code 17 = .ok (.lshl, 1) := by decide +kernel
theorem d_Lc_nearestBits_18 : decode prog_1_method_51_code 18 = .ok (.lstore 6, 2) := by decide +kernel
theorem d_Lc_nearestBits_20 : decode prog_1_method_51_code 20 = .ok (.lload_n 0, 1) := by decide +kernel
theorem d_Lc_nearestBits_21 : decode prog_1_method_51_code 21 = .ok (.lstore 8, 2) := by decide +kernel
theorem d_Lc_nearestBits_23 : decode prog_1_method_51_code 23 = .ok (.iconst 0, 1) := by decide +kernel
theorem d_Lc_nearestBits_24 : decode prog_1_method_51_code 24 = .ok (.istore 10, 2) := by decide +kernel
theorem d_Lc_nearestBits_26 : decode prog_1_method_51_code 26 = .ok (.iload 10, 2) := by decide +kernel
theorem d_Lc_nearestBits_28 : decode prog_1_method_51_code 28 = .ok (.bipush 60, 2) := by decide +kernel
theorem d_Lc_nearestBits_30 : decode prog_1_method_51_code 30 = .ok (.if_icmp .ge 25, 3) := by decide +kernel
theorem d_Lc_nearestBits_33 : decode prog_1_method_51_code 33 = .ok (.lload 8, 2) := by decide +kernel
theorem d_Lc_nearestBits_35 : decode prog_1_method_51_code 35 = .ok (.lload_n 2, 1) := by decide +kernel
theorem d_Lc_nearestBits_36 : decode prog_1_method_51_code 36 = .ok (.ldiv, 1) := by decide +kernel
theorem d_Lc_nearestBits_37 : decode prog_1_method_51_code 37 = .ok (.lload 6, 2) := by decide +kernel
theorem d_Lc_nearestBits_39 : decode prog_1_method_51_code 39 = .ok (.lcmp, 1) := by decide +kernel
theorem d_Lc_nearestBits_40 : decode prog_1_method_51_code 40 = .ok (.ifCond .ge 15, 3) := by decide +kernel
theorem d_Lc_nearestBits_43 : decode prog_1_method_51_code 43 = .ok (.lload 8, 2) := by decide +kernel
theorem d_Lc_nearestBits_45 : decode prog_1_method_51_code 45 = .ok (.iconst 1, 1) := by decide +kernel
theorem d_Lc_nearestBits_46 : decode prog_1_method_51_code 46 = .ok (.lshl, 1) := by decide +kernel
theorem d_Lc_nearestBits_47 : decode prog_1_method_51_code 47 = .ok (.lstore 8, 2) := by decide +kernel
theorem d_Lc_nearestBits_49 : decode prog_1_method_51_code 49 = .ok (.iinc 10 1, 3) := by decide +kernel
theorem d_Lc_nearestBits_52 : decode prog_1_method_51_code 52 = .ok (.goto (-26), 3) := by decide +kernel
theorem d_Lc_nearestBits_55 : decode prog_1_method_51_code 55 = .ok (.lload 8, 2) := by decide +kernel
theorem d_Lc_nearestBits_57 : decode prog_1_method_51_code 57 = .ok (.lload_n 2, 1) := by decide +kernel
theorem d_Lc_nearestBits_58 : decode prog_1_method_51_code 58 = .ok (.ldiv, 1) := by decide +kernel
theorem d_Lc_nearestBits_59 : decode prog_1_method_51_code 59 = .ok (.lstore 11, 2) := by decide +kernel
theorem d_Lc_nearestBits_61 : decode prog_1_method_51_code 61 = .ok (.ldc2_w 299, 3) := by decide +kernel
theorem d_Lc_nearestBits_64 : decode prog_1_method_51_code 64 = .ok (.lload 8, 2) := by decide +kernel
theorem d_Lc_nearestBits_66 : decode prog_1_method_51_code 66 = .ok (.lload_n 2, 1) := by decide +kernel
theorem d_Lc_nearestBits_67 : decode prog_1_method_51_code 67 = .ok (.lrem, 1) := by decide +kernel
theorem d_Lc_nearestBits_68 : decode prog_1_method_51_code 68 = .ok (.lmul, 1) := by decide +kernel
theorem d_Lc_nearestBits_69 : decode prog_1_method_51_code 69 = .ok (.lstore 13, 2) := by decide +kernel
theorem d_Lc_nearestBits_71 : decode prog_1_method_51_code 71 = .ok (.lload 13, 2) := by decide +kernel
theorem d_Lc_nearestBits_73 : decode prog_1_method_51_code 73 = .ok (.lload_n 2, 1) := by decide +kernel
theorem d_Lc_nearestBits_74 : decode prog_1_method_51_code 74 = .ok (.lcmp, 1) := by decide +kernel
theorem d_Lc_nearestBits_75 : decode prog_1_method_51_code 75 = .ok (.ifCond .gt 19, 3) := by decide +kernel
theorem d_Lc_nearestBits_78 : decode prog_1_method_51_code 78 = .ok (.lload 13, 2) := by decide +kernel
theorem d_Lc_nearestBits_80 : decode prog_1_method_51_code 80 = .ok (.lload_n 2, 1) := by decide +kernel
theorem d_Lc_nearestBits_81 : decode prog_1_method_51_code 81 = .ok (.lcmp, 1) := by decide +kernel
theorem d_Lc_nearestBits_82 : decode prog_1_method_51_code 82 = .ok (.ifCond .ne 18, 3) := by decide +kernel
theorem d_Lc_nearestBits_85 : decode prog_1_method_51_code 85 = .ok (.lload 11, 2) := by decide +kernel
theorem d_Lc_nearestBits_87 : decode prog_1_method_51_code 87 = .ok (.lconst 1, 1) := by decide +kernel
theorem d_Lc_nearestBits_88 : decode prog_1_method_51_code 88 = .ok (.land, 1) := by decide +kernel
theorem d_Lc_nearestBits_89 : decode prog_1_method_51_code 89 = .ok (.lconst 1, 1) := by decide +kernel
theorem d_Lc_nearestBits_90 : decode prog_1_method_51_code 90 = .ok (.lcmp, 1) := by decide +kernel
theorem d_Lc_nearestBits_91 : decode prog_1_method_51_code 91 = .ok (.ifCond .ne 9, 3) := by decide +kernel
theorem d_Lc_nearestBits_94 : decode prog_1_method_51_code 94 = .ok (.lload 11, 2) := by decide +kernel
theorem d_Lc_nearestBits_96 : decode prog_1_method_51_code 96 = .ok (.lconst 1, 1) := by decide +kernel
theorem d_Lc_nearestBits_97 : decode prog_1_method_51_code 97 = .ok (.ladd, 1) := by decide +kernel
theorem d_Lc_nearestBits_98 : decode prog_1_method_51_code 98 = .ok (.lstore 11, 2) := by decide +kernel
theorem d_Lc_nearestBits_100 : decode prog_1_method_51_code 100 = .ok (.iload 4, 2) := by decide +kernel
theorem d_Lc_nearestBits_102 : decode prog_1_method_51_code 102 = .ok (.iload 10, 2) := by decide +kernel
theorem d_Lc_nearestBits_104 : decode prog_1_method_51_code 104 = .ok (.isub, 1) := by decide +kernel
theorem d_Lc_nearestBits_105 : decode prog_1_method_51_code 105 = .ok (.iload 5, 2) := by decide +kernel
theorem d_Lc_nearestBits_107 : decode prog_1_method_51_code 107 = .ok (.iadd, 1) := by decide +kernel
theorem d_Lc_nearestBits_108 : decode prog_1_method_51_code 108 = .ok (.i2l, 1) := by decide +kernel
theorem d_Lc_nearestBits_109 : decode prog_1_method_51_code 109 = .ok (.iload 4, 2) := by decide +kernel
theorem d_Lc_nearestBits_111 : decode prog_1_method_51_code 111 = .ok (.lshl, 1) := by decide +kernel
theorem d_Lc_nearestBits_112 : decode prog_1_method_51_code 112 = .ok (.lload 11, 2) := by decide +kernel
theorem d_Lc_nearestBits_114 : decode prog_1_method_51_code 114 = .ok (.lload 6, 2) := by decide +kernel
theorem d_Lc_nearestBits_116 : decode prog_1_method_51_code 116 = .ok (.lsub, 1) := by decide +kernel
theorem d_Lc_nearestBits_117 : decode prog_1_method_51_code 117 = .ok (.ladd, 1) := by decide +kernel
theorem d_Lc_nearestBits_118 : decode prog_1_method_51_code 118 = .ok (.lreturn, 1) := by decide +kernel
abbrev y_Lc_nearestBits : MethodName := ⟨"LoadCycles", "nearestBits", "(JJII)J"⟩
theorem mi_Lc_nearestBits : miS y_Lc_nearestBits prog_1_method_51_code 15 (some .long) 4 := ⟨wd_589, wd_65, wd_590, by decide, by decide, by decide +kernel⟩
def B_Lc_nearestBits_100 (x0 : Int64) (x2 : Int64) (x4 : Int32) (x5 : Int32) (σ : Sg) (K : Int64 → Prop) (v6 : Int64) (v10 : Int32) (v11 : Int64) : Prop :=
  K (((((x4 - v10) + x5).toInt64) <<< (x4.toInt64 &&& 63)) + (v11 - v6))
theorem t_Lc_nearestBits_100 {X : Bx} {Y : Yx} {x0 : Int64} {x2 : Int64} {x4 : Int32} {x5 : Int32} {v6 : Int64} {v10 : Int32} {v11 : Int64} {σ : Sg} {K : Int64 → Prop}  (hY : YD Y) (C : Cx X Y prog_1_method_51_code 15 "LoadCycles" 0 0) (hr : (xh X).sig.returnType = some .long)   (h : B_Lc_nearestBits_100 x0 x2 x4 x5 σ K v6 v10 v11) : St X Y 15 (QL X Y (fun r τ => τ = σ ∧ K r)) 100 [(4, .int x4), (5, .int x5), (6, .long v6), (10, .int v10), (11, .long v11)] [] σ := by
  unfold B_Lc_nearestBits_100 at h
  refine q_iload (pc := 100) C d_Lc_nearestBits_100 0 rfl ?_
  refine q_iload (pc := 102) C d_Lc_nearestBits_102 3 rfl ?_
  refine q_isub (pc := 104) C d_Lc_nearestBits_104 ?_
  refine q_iload (pc := 105) C d_Lc_nearestBits_105 1 rfl ?_
  refine q_iadd (pc := 107) C d_Lc_nearestBits_107 ?_
  refine q_i2l (pc := 108) C d_Lc_nearestBits_108 ?_
  refine q_iload (pc := 109) C d_Lc_nearestBits_109 0 rfl ?_
  refine q_lshl (pc := 111) C d_Lc_nearestBits_111 ?_
  refine q_lload (pc := 112) C d_Lc_nearestBits_112 4 rfl ?_
  refine q_lload (pc := 114) C d_Lc_nearestBits_114 2 rfl ?_
  refine q_lsub (pc := 116) C d_Lc_nearestBits_116 ?_
  refine q_ladd (pc := 117) C d_Lc_nearestBits_117 ?_
  exact q_lret (pc := 118) C hr d_Lc_nearestBits_118 ⟨rfl, h⟩
def B_Lc_nearestBits_94 (x0 : Int64) (x2 : Int64) (x4 : Int32) (x5 : Int32) (σ : Sg) (K : Int64 → Prop) (v6 : Int64) (v10 : Int32) (v11 : Int64) : Prop :=
  (∀ z11_98 : Int64, z11_98 = (v11 + (1 : Int64)) → B_Lc_nearestBits_100 x0 x2 x4 x5 σ K v6 v10 z11_98)
theorem t_Lc_nearestBits_94 {X : Bx} {Y : Yx} {x0 : Int64} {x2 : Int64} {x4 : Int32} {x5 : Int32} {v6 : Int64} {v10 : Int32} {v11 : Int64} {σ : Sg} {K : Int64 → Prop}  (hY : YD Y) (C : Cx X Y prog_1_method_51_code 15 "LoadCycles" 0 0) (hr : (xh X).sig.returnType = some .long)   (h : B_Lc_nearestBits_94 x0 x2 x4 x5 σ K v6 v10 v11) : St X Y 15 (QL X Y (fun r τ => τ = σ ∧ K r)) 94 [(4, .int x4), (5, .int x5), (6, .long v6), (10, .int v10), (11, .long v11)] [] σ := by
  unfold B_Lc_nearestBits_94 at h
  refine q_lload (pc := 94) C d_Lc_nearestBits_94 4 rfl ?_
  refine q_lconst (pc := 96) (v := 1) C d_Lc_nearestBits_96 (by decide) ?_
  refine q_ladd (pc := 97) C d_Lc_nearestBits_97 ?_
  refine q_nml (fun z11_98 ez11_98 => ?_)
  replace h := h z11_98 ez11_98
  refine q_lstore (pc := 98) [(11, .long z11_98), (4, .int x4), (5, .int x5), (6, .long v6), (10, .int v10)] C d_Lc_nearestBits_98 (by decide) rfl ?_
  refine q_sub [(4, .int x4), (5, .int x5), (6, .long v6), (10, .int v10), (11, .long z11_98)] [1, 2, 3, 4, 0] rfl ?_
  exact t_Lc_nearestBits_100 hY C hr h
def B_Lc_nearestBits_55 (x0 : Int64) (x2 : Int64) (x4 : Int32) (x5 : Int32) (σ : Sg) (K : Int64 → Prop) (v6 : Int64) (v8 : Int64) (v10 : Int32) : Prop :=
  (¬ x2 = 0 ∧ (∀ z11_59 : Int64, z11_59 = (v8 / x2) → (¬ x2 = 0 ∧ (∀ z13_69 : Int64, z13_69 = ((2 : Int64) * (v8 - v8 / x2 * x2)) → ((0 < (lg_cmp z13_69 x2) → B_Lc_nearestBits_94 x0 x2 x4 x5 σ K v6 v10 z11_59) ∧ (¬ 0 < (lg_cmp z13_69 x2) → ((¬ (lg_cmp z13_69 x2) = 0 → B_Lc_nearestBits_100 x0 x2 x4 x5 σ K v6 v10 z11_59) ∧ ((lg_cmp z13_69 x2) = 0 → ((¬ (lg_cmp (z11_59 &&& (1 : Int64)) (1 : Int64)) = 0 → B_Lc_nearestBits_100 x0 x2 x4 x5 σ K v6 v10 z11_59) ∧ ((lg_cmp (z11_59 &&& (1 : Int64)) (1 : Int64)) = 0 → B_Lc_nearestBits_94 x0 x2 x4 x5 σ K v6 v10 z11_59))))))))))
theorem t_Lc_nearestBits_55 {X : Bx} {Y : Yx} {x0 : Int64} {x2 : Int64} {x4 : Int32} {x5 : Int32} {v6 : Int64} {v8 : Int64} {v10 : Int32} {σ : Sg} {K : Int64 → Prop}  (hY : YD Y) (C : Cx X Y prog_1_method_51_code 15 "LoadCycles" 0 0) (hr : (xh X).sig.returnType = some .long)   (h : B_Lc_nearestBits_55 x0 x2 x4 x5 σ K v6 v8 v10) : St X Y 15 (QL X Y (fun r τ => τ = σ ∧ K r)) 55 [(2, .long x2), (4, .int x4), (5, .int x5), (6, .long v6), (8, .long v8), (10, .int v10)] [] σ := by
  unfold B_Lc_nearestBits_55 at h
  refine q_lload (pc := 55) C d_Lc_nearestBits_55 4 rfl ?_
  refine q_lload_n (pc := 57) C d_Lc_nearestBits_57 rfl 0 rfl ?_
  obtain ⟨h1, h⟩ := h
  refine q_ldiv (pc := 58) C d_Lc_nearestBits_58 h1 ?_
  refine q_nml (fun z11_59 ez11_59 => ?_)
  replace h := h z11_59 ez11_59
  refine q_lstore (pc := 59) [(11, .long z11_59), (2, .long x2), (4, .int x4), (5, .int x5), (6, .long v6), (8, .long v8), (10, .int v10)] C d_Lc_nearestBits_59 (by decide) rfl ?_
  refine q_ldc2 (pc := 61) C wd_591 d_Lc_nearestBits_61 ?_
  refine q_lload (pc := 64) C d_Lc_nearestBits_64 5 rfl ?_
  refine q_lload_n (pc := 66) C d_Lc_nearestBits_66 rfl 1 rfl ?_
  obtain ⟨h2, h⟩ := h
  refine q_lrem (pc := 67) C d_Lc_nearestBits_67 h2 ?_
  refine q_lmul (pc := 68) C d_Lc_nearestBits_68 ?_
  refine q_nml (fun z13_69 ez13_69 => ?_)
  replace h := h z13_69 ez13_69
  refine q_lstore (pc := 69) [(13, .long z13_69), (11, .long z11_59), (2, .long x2), (4, .int x4), (5, .int x5), (6, .long v6), (8, .long v8), (10, .int v10)] C d_Lc_nearestBits_69 (by decide) rfl ?_
  refine q_lload (pc := 71) C d_Lc_nearestBits_71 0 rfl ?_
  refine q_lload_n (pc := 73) C d_Lc_nearestBits_73 rfl 2 rfl ?_
  refine q_lcmp (pc := 74) C d_Lc_nearestBits_74 ?_
  obtain ⟨h7, h8⟩ := h
  refine q_if_gt (pc := 75) 94 C d_Lc_nearestBits_75 (by decide) (fun hc => ?_) (fun hc => ?_)
  · have h := h7 hc
    refine q_sub [(4, .int x4), (5, .int x5), (6, .long v6), (10, .int v10), (11, .long z11_59)] [3, 4, 5, 7, 1] rfl ?_
    exact t_Lc_nearestBits_94 hY C hr h
  have h := h8 hc
  refine q_lload (pc := 78) C d_Lc_nearestBits_78 0 rfl ?_
  refine q_lload_n (pc := 80) C d_Lc_nearestBits_80 rfl 2 rfl ?_
  refine q_lcmp (pc := 81) C d_Lc_nearestBits_81 ?_
  obtain ⟨h5, h6⟩ := h
  refine q_if_ne (pc := 82) 100 C d_Lc_nearestBits_82 (by decide) (fun hc => ?_) (fun hc => ?_)
  · have h := h5 hc
    refine q_sub [(4, .int x4), (5, .int x5), (6, .long v6), (10, .int v10), (11, .long z11_59)] [3, 4, 5, 7, 1] rfl ?_
    exact t_Lc_nearestBits_100 hY C hr h
  have h := h6 hc
  refine q_lload (pc := 85) C d_Lc_nearestBits_85 1 rfl ?_
  refine q_lconst (pc := 87) (v := 1) C d_Lc_nearestBits_87 (by decide) ?_
  refine q_land (pc := 88) C d_Lc_nearestBits_88 ?_
  refine q_lconst (pc := 89) (v := 1) C d_Lc_nearestBits_89 (by decide) ?_
  refine q_lcmp (pc := 90) C d_Lc_nearestBits_90 ?_
  obtain ⟨h3, h4⟩ := h
  refine q_if_ne (pc := 91) 100 C d_Lc_nearestBits_91 (by decide) (fun hc => ?_) (fun hc => ?_)
  · have h := h3 hc
    refine q_sub [(4, .int x4), (5, .int x5), (6, .long v6), (10, .int v10), (11, .long z11_59)] [3, 4, 5, 7, 1] rfl ?_
    exact t_Lc_nearestBits_100 hY C hr h
  have h := h4 hc
  refine q_sub [(4, .int x4), (5, .int x5), (6, .long v6), (10, .int v10), (11, .long z11_59)] [3, 4, 5, 7, 1] rfl ?_
  exact t_Lc_nearestBits_94 hY C hr h
def L_Lc_nearestBits_26 (x0 : Int64) (x2 : Int64) (x4 : Int32) (x5 : Int32) (v6 : Int64) (σ : Sg) (K : Int64 → Prop) : Nat → Int64 → Int32 → Prop
  | 0, _, _ => False
  | n + 1, v8, v10 =>
    (((60 : Int32) ≤ v10 → B_Lc_nearestBits_55 x0 x2 x4 x5 σ K v6 v8 v10) ∧ (¬ (60 : Int32) ≤ v10 → (¬ x2 = 0 ∧ ((0 ≤ (lg_cmp (v8 / x2) v6) → B_Lc_nearestBits_55 x0 x2 x4 x5 σ K v6 v8 v10) ∧ (¬ 0 ≤ (lg_cmp (v8 / x2) v6) → (∀ z8_47 : Int64, z8_47 = (v8 <<< ((1 : Int32).toInt64 &&& 63)) → L_Lc_nearestBits_26 x0 x2 x4 x5 v6 σ K n z8_47 (v10 + (1 : Int32))))))))
theorem t_Lc_nearestBits_26 {X : Bx} {Y : Yx} {x0 : Int64} {x2 : Int64} {x4 : Int32} {x5 : Int32} {v6 : Int64} {σ : Sg} {K : Int64 → Prop}  (hY : YD Y) (C : Cx X Y prog_1_method_51_code 15 "LoadCycles" 0 0) (hr : (xh X).sig.returnType = some .long)  : ∀ (n : Nat) (v8 : Int64) (v10 : Int32), L_Lc_nearestBits_26 x0 x2 x4 x5 v6 σ K n v8 v10 → St X Y 15 (QL X Y (fun r τ => τ = σ ∧ K r)) 26 [(2, .long x2), (4, .int x4), (5, .int x5), (6, .long v6), (8, .long v8), (10, .int v10)] [] σ := by
  intro n
  induction n with
  | zero => intro v8 v10 h; exact h.elim
  | succ n ih =>
    intro v8 v10 h
    unfold L_Lc_nearestBits_26 at h
    refine q_iload (pc := 26) C d_Lc_nearestBits_26 5 rfl ?_
    refine q_bipush (pc := 28) (v := 60) C d_Lc_nearestBits_28 (by decide) ?_
    obtain ⟨h12, h13⟩ := h
    refine q_icmp_ge (pc := 30) 55 C d_Lc_nearestBits_30 (by decide) (fun hc => ?_) (fun hc => ?_)
    · have h := h12 hc
      exact t_Lc_nearestBits_55 hY C hr h
    have h := h13 hc
    refine q_lload (pc := 33) C d_Lc_nearestBits_33 4 rfl ?_
    refine q_lload_n (pc := 35) C d_Lc_nearestBits_35 rfl 0 rfl ?_
    obtain ⟨h9, h⟩ := h
    refine q_ldiv (pc := 36) C d_Lc_nearestBits_36 h9 ?_
    refine q_lload (pc := 37) C d_Lc_nearestBits_37 3 rfl ?_
    refine q_lcmp (pc := 39) C d_Lc_nearestBits_39 ?_
    obtain ⟨h10, h11⟩ := h
    refine q_if_ge (pc := 40) 55 C d_Lc_nearestBits_40 (by decide) (fun hc => ?_) (fun hc => ?_)
    · have h := h10 hc
      exact t_Lc_nearestBits_55 hY C hr h
    have h := h11 hc
    refine q_lload (pc := 43) C d_Lc_nearestBits_43 4 rfl ?_
    refine q_iconst (pc := 45) (v := 1) C d_Lc_nearestBits_45 (by decide) ?_
    refine q_lshl (pc := 46) C d_Lc_nearestBits_46 ?_
    refine q_nml (fun z8_47 ez8_47 => ?_)
    replace h := h z8_47 ez8_47
    refine q_lstore (pc := 47) [(8, .long z8_47), (2, .long x2), (4, .int x4), (5, .int x5), (6, .long v6), (10, .int v10)] C d_Lc_nearestBits_47 (by decide) rfl ?_
    refine q_iinc (pc := 49) (v10 + (1 : Int32)) [(10, .int (v10 + (1 : Int32))), (8, .long z8_47), (2, .long x2), (4, .int x4), (5, .int x5), (6, .long v6)] C d_Lc_nearestBits_49 5 rfl rfl (by decide) rfl ?_
    refine q_goto (pc := 52) 26 C d_Lc_nearestBits_52 (by decide) ?_
    refine q_sub [(2, .long x2), (4, .int x4), (5, .int x5), (6, .long v6), (8, .long z8_47), (10, .int (v10 + (1 : Int32)))] [2, 3, 4, 5, 1, 0] rfl ?_
    exact ih z8_47 (v10 + (1 : Int32)) h
def w_Lc_nearestBits (x0 : Int64) (x2 : Int64) (x4 : Int32) (x5 : Int32) (σ : Sg) (K : Int64 → Prop) : Prop :=
  (((lg_cmp x0 (0 : Int64)) ≤ 0 → K (0 : Int64)) ∧ (¬ (lg_cmp x0 (0 : Int64)) ≤ 0 → ((0 < (lg_cmp x2 (0 : Int64)) → (∀ z6_18 : Int64, z6_18 = ((1 : Int64) <<< (x4.toInt64 &&& 63)) → (∃ n14 : Nat, L_Lc_nearestBits_26 x0 x2 x4 x5 z6_18 σ K n14 x0 (0 : Int32)))) ∧ (¬ 0 < (lg_cmp x2 (0 : Int64)) → K (0 : Int64)))))
set_option maxHeartbeats 4000000 in
theorem m_Lc_nearestBits {Y : Yx} {x0 : Int64} {x2 : Int64} {x4 : Int32} {x5 : Int32} {σ : Sg} {K : Int64 → Prop} (hY : YD Y)  (h : w_Lc_nearestBits x0 x2 x4 x5 σ K) : MetL Y y_Lc_nearestBits prog_1_method_51_code 15 0 0 [.long x0, .long x2, .int x4, .int x5] σ (fun r τ => τ = σ ∧ K r) := by
  refine met_L [(0, .long x0), (2, .long x2), (4, .int x4), (5, .int x5)] hY (by decide) (Nat.le_of_ble_eq_true rfl) rfl (fun X C hr => ?_)
  unfold w_Lc_nearestBits at h
  refine q_lload_n (pc := 0) C d_Lc_nearestBits_0 rfl 0 rfl ?_
  refine q_lconst (pc := 1) (v := 0) C d_Lc_nearestBits_1 (by decide) ?_
  refine q_lcmp (pc := 2) C d_Lc_nearestBits_2 ?_
  obtain ⟨h17, h18⟩ := h
  refine q_if_le (pc := 3) 12 C d_Lc_nearestBits_3 (by decide) (fun hc => ?_) (fun hc => ?_)
  · have h := h17 hc
    refine q_lconst (pc := 12) (v := 0) C d_Lc_nearestBits_12 (by decide) ?_
    exact q_lret (pc := 13) C hr d_Lc_nearestBits_13 ⟨rfl, h⟩
  have h := h18 hc
  refine q_lload_n (pc := 6) C d_Lc_nearestBits_6 rfl 1 rfl ?_
  refine q_lconst (pc := 7) (v := 0) C d_Lc_nearestBits_7 (by decide) ?_
  refine q_lcmp (pc := 8) C d_Lc_nearestBits_8 ?_
  obtain ⟨h15, h16⟩ := h
  refine q_if_gt (pc := 9) 14 C d_Lc_nearestBits_9 (by decide) (fun hc => ?_) (fun hc => ?_)
  · have h := h15 hc
    refine q_lconst (pc := 14) (v := 1) C d_Lc_nearestBits_14 (by decide) ?_
    refine q_iload (pc := 15) C d_Lc_nearestBits_15 2 rfl ?_
    refine q_lshl (pc := 17) C d_Lc_nearestBits_17 ?_
    refine q_nml (fun z6_18 ez6_18 => ?_)
    replace h := h z6_18 ez6_18
    refine q_lstore (pc := 18) [(6, .long z6_18), (0, .long x0), (2, .long x2), (4, .int x4), (5, .int x5)] C d_Lc_nearestBits_18 (by decide) rfl ?_
    refine q_lload_n (pc := 20) C d_Lc_nearestBits_20 rfl 1 rfl ?_
    refine q_lstore (pc := 21) [(8, .long x0), (6, .long z6_18), (0, .long x0), (2, .long x2), (4, .int x4), (5, .int x5)] C d_Lc_nearestBits_21 (by decide) rfl ?_
    refine q_iconst (pc := 23) (v := 0) C d_Lc_nearestBits_23 (by decide) ?_
    refine q_istore (pc := 24) [(10, .int (0 : Int32)), (8, .long x0), (6, .long z6_18), (0, .long x0), (2, .long x2), (4, .int x4), (5, .int x5)] C d_Lc_nearestBits_24 (by decide) rfl ?_
    obtain ⟨n14, h⟩ := h
    refine q_sub [(2, .long x2), (4, .int x4), (5, .int x5), (6, .long z6_18), (8, .long x0), (10, .int (0 : Int32))] [4, 5, 6, 2, 1, 0] rfl ?_
    exact t_Lc_nearestBits_26 hY C hr n14 x0 (0 : Int32) h
  have h := h16 hc
  refine q_lconst (pc := 12) (v := 0) C d_Lc_nearestBits_12 (by decide) ?_
  exact q_lret (pc := 13) C hr d_Lc_nearestBits_13 ⟨rfl, h⟩
