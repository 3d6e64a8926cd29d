theorem iaL {c n : Nat} (h : ia c n) : ia c (ln c) := ⟨h.1, rfl⟩
theorem d_Lc_isSheet_0 : decode prog_1_method_34_code 0 = .ok (.iload_n 0, 1) := by decide +kernel
theorem d_Lc_isSheet_1 : decode prog_1_method_34_code 1 = .ok (.ifCond .lt 12, 3) := by decide +kernel
theorem d_Lc_isSheet_4 : decode prog_1_method_34_code 4 = .ok (.iload_n 0, 1) := by decide +kernel
theorem d_Lc_isSheet_5 : decode prog_1_method_34_code 5 = .ok (.iconst 4, 1) := by decide +kernel
theorem d_Lc_isSheet_6 : decode prog_1_method_34_code 6 = .ok (.if_icmp .ge 7, 3) := by decide +kernel
theorem d_Lc_isSheet_9 : decode prog_1_method_34_code 9 = .ok (.iconst 1, 1) := by decide +kernel
theorem d_Lc_isSheet_10 : decode prog_1_method_34_code 10 = .ok (.goto 4, 3) := by decide +kernel
theorem d_Lc_isSheet_13 : decode prog_1_method_34_code 13 = .ok (.iconst 0, 1) := by decide +kernel
theorem d_Lc_isSheet_14 : decode prog_1_method_34_code 14 = .ok (.ireturn, 1) := by decide +kernel
abbrev y_Lc_isSheet : MethodName := ⟨"LoadCycles", "isSheet", "(I)Z"⟩
theorem mi_Lc_isSheet : miS y_Lc_isSheet prog_1_method_34_code 1 (some .boolean) 1 := ⟨wd_278, wd_65, wd_279, by decide, by decide, by decide +kernel⟩
def w_Lc_isSheet (x0 : Int32) (σ : Sg) (K : Int32 → Prop) : Prop :=
  ((x0 < 0 → K (0 : Int32)) ∧ (¬ x0 < 0 → (((4 : Int32) ≤ x0 → K (0 : Int32)) ∧ (¬ (4 : Int32) ≤ x0 → K (1 : Int32)))))
set_option maxHeartbeats 4000000 in
theorem m_Lc_isSheet {Y : Yx} {x0 : Int32} {σ : Sg} {K : Int32 → Prop} (hY : YD Y)  (h : w_Lc_isSheet x0 σ K) : MetI Y y_Lc_isSheet prog_1_method_34_code 1 (.boolean) 0 0 [.int x0] σ (fun r τ => τ = σ ∧ K r) := by
  refine met_I [(0, .int x0)] hY (by decide) (Nat.le_of_ble_eq_true rfl) rfl (fun X C hr => ?_)
  unfold w_Lc_isSheet at h
  refine q_iload_n (pc := 0) C d_Lc_isSheet_0 rfl 0 rfl ?_
  obtain ⟨h3, h4⟩ := h
  refine q_if_lt (pc := 1) 13 C d_Lc_isSheet_1 (by decide) (fun hc => ?_) (fun hc => ?_)
  · have h := h3 hc
    refine q_iconst (pc := 13) (v := 0) C d_Lc_isSheet_13 (by decide) ?_
    exact q_zret (pc := 14) C hr d_Lc_isSheet_14 bz0 ⟨rfl, h⟩
  have h := h4 hc
  refine q_iload_n (pc := 4) C d_Lc_isSheet_4 rfl 0 rfl ?_
  refine q_iconst (pc := 5) (v := 4) C d_Lc_isSheet_5 (by decide) ?_
  obtain ⟨h1, h2⟩ := h
  refine q_icmp_ge (pc := 6) 13 C d_Lc_isSheet_6 (by decide) (fun hc => ?_) (fun hc => ?_)
  · have h := h1 hc
    refine q_iconst (pc := 13) (v := 0) C d_Lc_isSheet_13 (by decide) ?_
    exact q_zret (pc := 14) C hr d_Lc_isSheet_14 bz0 ⟨rfl, h⟩
  have h := h2 hc
  refine q_iconst (pc := 9) (v := 1) C d_Lc_isSheet_9 (by decide) ?_
  refine q_goto (pc := 10) 14 C d_Lc_isSheet_10 (by decide) ?_
  exact q_zret (pc := 14) C hr d_Lc_isSheet_14 bz1 ⟨rfl, h⟩
theorem d_Lc_isLane_0 : decode prog_1_method_35_code 0 = .ok (.iload_n 0, 1) := by decide +kernel
theorem d_Lc_isLane_1 : decode prog_1_method_35_code 1 = .ok (.ifCond .lt 12, 3) := by decide +kernel
theorem d_Lc_isLane_4 : decode prog_1_method_35_code 4 = .ok (.iload_n 0, 1) := by decide +kernel
theorem d_Lc_isLane_5 : decode prog_1_method_35_code 5 = .ok (.iconst 3, 1) := by decide +kernel
theorem d_Lc_isLane_6 : decode prog_1_method_35_code 6 = .ok (.if_icmp .ge 7, 3) := by decide +kernel
theorem d_Lc_isLane_9 : decode prog_1_method_35_code 9 = .ok (.iconst 1, 1) := by decide +kernel
theorem d_Lc_isLane_10 : decode prog_1_method_35_code 10 = .ok (.goto 4, 3) := by decide +kernel
theorem d_Lc_isLane_13 : decode prog_1_method_35_code 13 = .ok (.iconst 0, 1) := by decide +kernel
theorem d_Lc_isLane_14 : decode prog_1_method_35_code 14 = .ok (.ireturn, 1) := by decide +kernel
abbrev y_Lc_isLane : MethodName := ⟨"LoadCycles", "isLane", "(I)Z"⟩
theorem mi_Lc_isLane : miS y_Lc_isLane prog_1_method_35_code 1 (some .boolean) 1 := ⟨wd_281, wd_65, wd_282, by decide, by decide, by decide +kernel⟩
def w_Lc_isLane (x0 : Int32) (σ : Sg) (K : Int32 → Prop) : Prop :=
  ((x0 < 0 → K (0 : Int32)) ∧ (¬ x0 < 0 → (((3 : Int32) ≤ x0 → K (0 : Int32)) ∧ (¬ (3 : Int32) ≤ x0 → K (1 : Int32)))))
set_option maxHeartbeats 4000000 in
theorem m_Lc_isLane {Y : Yx} {x0 : Int32} {σ : Sg} {K : Int32 → Prop} (hY : YD Y)  (h : w_Lc_isLane x0 σ K) : MetI Y y_Lc_isLane prog_1_method_35_code 1 (.boolean) 0 0 [.int x0] σ (fun r τ => τ = σ ∧ K r) := by
  refine met_I [(0, .int x0)] hY (by decide) (Nat.le_of_ble_eq_true rfl) rfl (fun X C hr => ?_)
  unfold w_Lc_isLane at h
  refine q_iload_n (pc := 0) C d_Lc_isLane_0 rfl 0 rfl ?_
  obtain ⟨h3, h4⟩ := h
  refine q_if_lt (pc := 1) 13 C d_Lc_isLane_1 (by decide) (fun hc => ?_) (fun hc => ?_)
  · have h := h3 hc
    refine q_iconst (pc := 13) (v := 0) C d_Lc_isLane_13 (by decide) ?_
    exact q_zret (pc := 14) C hr d_Lc_isLane_14 bz0 ⟨rfl, h⟩
  have h := h4 hc
  refine q_iload_n (pc := 4) C d_Lc_isLane_4 rfl 0 rfl ?_
  refine q_iconst (pc := 5) (v := 3) C d_Lc_isLane_5 (by decide) ?_
  obtain ⟨h1, h2⟩ := h
  refine q_icmp_ge (pc := 6) 13 C d_Lc_isLane_6 (by decide) (fun hc => ?_) (fun hc => ?_)
  · have h := h1 hc
    refine q_iconst (pc := 13) (v := 0) C d_Lc_isLane_13 (by decide) ?_
    exact q_zret (pc := 14) C hr d_Lc_isLane_14 bz0 ⟨rfl, h⟩
  have h := h2 hc
  refine q_iconst (pc := 9) (v := 1) C d_Lc_isLane_9 (by decide) ?_
  refine q_goto (pc := 10) 14 C d_Lc_isLane_10 (by decide) ?_
  exact q_zret (pc := 14) C hr d_Lc_isLane_14 bz1 ⟨rfl, h⟩
theorem d_Sh_hasRow_0 : decode prog_5_method_2_code 0 = .ok (.aload_n 0, 1) := by decide +kernel
theorem d_Sh_hasRow_1 : decode prog_5_method_2_code 1 = .ok (.getfield 15, 3) := by decide +kernel
theorem d_Sh_hasRow_4 : decode prog_5_method_2_code 4 = .ok (.iconst (-1), 1) := by decide +kernel
theorem d_Sh_hasRow_5 : decode prog_5_method_2_code 5 = .ok (.if_icmp .eq 7, 3) := by decide +kernel
theorem d_Sh_hasRow_8 : decode prog_5_method_2_code 8 = .ok (.iconst 1, 1) := by decide +kernel
theorem d_Sh_hasRow_9 : decode prog_5_method_2_code 9 = .ok (.goto 4, 3) := by decide +kernel
theorem d_Sh_hasRow_12 : decode prog_5_method_2_code 12 = .ok (.iconst 0, 1) := by decide +kernel
theorem d_Sh_hasRow_13 : decode prog_5_method_2_code 13 = .ok (.ireturn, 1) := by decide +kernel
abbrev y_Sh_hasRow : MethodName := ⟨"LoadCycles$Sheet", "hasRow", "()Z"⟩
theorem mi_Sh_hasRow : miV y_Sh_hasRow prog_5_method_2_code 1 (some .boolean) 0 := ⟨wd_288, wd_289, wd_71, wd_290, by decide, by decide, by decide +kernel⟩
def w_Sh_hasRow (o : Nat) (σ : Sg) (K : Int32 → Prop) : Prop :=
  (((σ o 2) = (-1 : Int32) → K (0 : Int32)) ∧ (¬ (σ o 2) = (-1 : Int32) → K (1 : Int32)))
set_option maxHeartbeats 4000000 in
theorem m_Sh_hasRow {Y : Yx} {o : Nat} {σ : Sg} {K : Int32 → Prop} (hY : YD Y) (ho : kd o = 3) (h : w_Sh_hasRow o σ K) : MetI Y y_Sh_hasRow prog_5_method_2_code 1 (.boolean) 0 0 [.ref (ya Y o)] σ (fun r τ => τ = σ ∧ K r) := by
  refine met_I [(0, .ref (ya Y o))] hY (by decide) (Nat.le_of_ble_eq_true rfl) rfl (fun X C hr => ?_)
  unfold w_Sh_hasRow at h
  refine q_aload_n (pc := 0) C d_Sh_hasRow_0 rfl 0 rfl ?_
  refine q_get (pc := 1) (c := o) (ci := 3) (k := 2) (v := .int (σ o 2)) C ho (by decide) (by decide) wd_222 rfl d_Sh_hasRow_1 ?_
  refine q_iconst (pc := 4) (v := -1) C d_Sh_hasRow_4 (by decide) ?_
  obtain ⟨h1, h2⟩ := h
  refine q_icmp_eq (pc := 5) 12 C d_Sh_hasRow_5 (by decide) (fun hc => ?_) (fun hc => ?_)
  · have h := h1 hc
    refine q_iconst (pc := 12) (v := 0) C d_Sh_hasRow_12 (by decide) ?_
    exact q_zret (pc := 13) C hr d_Sh_hasRow_13 bz0 ⟨rfl, h⟩
  have h := h2 hc
  refine q_iconst (pc := 8) (v := 1) C d_Sh_hasRow_8 (by decide) ?_
  refine q_goto (pc := 9) 13 C d_Sh_hasRow_9 (by decide) ?_
  exact q_zret (pc := 13) C hr d_Sh_hasRow_13 bz1 ⟨rfl, h⟩
theorem d_Sh_faultOfRow_0 : decode prog_5_method_7_code 0 = .ok (.aload_n 0, 1) := by decide +kernel
theorem d_Sh_faultOfRow_1 : decode prog_5_method_7_code 1 = .ok (.invokevirtual 28, 3) := by decide +kernel
theorem d_Sh_faultOfRow_4 : decode prog_5_method_7_code 4 = .ok (.ifCond .ne 5, 3) := by decide +kernel
theorem d_Sh_faultOfRow_7 : decode prog_5_method_7_code 7 = .ok (.iconst 1, 1) := by decide +kernel
theorem d_Sh_faultOfRow_8 : decode prog_5_method_7_code 8 = .ok (.ireturn, 1) := by decide +kernel
theorem d_Sh_faultOfRow_9 : decode prog_5_method_7_code 9 = .ok (.aload_n 0, 1) := by decide +kernel
theorem d_Sh_faultOfRow_10 : decode prog_5_method_7_code 10 = .ok (.getfield 19, 3) := by decide +kernel
theorem d_Sh_faultOfRow_13 : decode prog_5_method_7_code 13 = .ok (.iload_n 1, 1) := by decide +kernel
theorem d_Sh_faultOfRow_14 : decode prog_5_method_7_code 14 = .ok (.if_icmp .ne 7, 3) := by decide +kernel
theorem d_Sh_faultOfRow_17 : decode prog_5_method_7_code 17 = .ok (.iconst 0, 1) := by decide +kernel
theorem d_Sh_faultOfRow_18 : decode prog_5_method_7_code 18 = .ok (.goto 4, 3) := by decide +kernel
theorem d_Sh_faultOfRow_21 : decode prog_5_method_7_code 21 = .ok (.iconst 2, 1) := by decide +kernel
theorem d_Sh_faultOfRow_22 : decode prog_5_method_7_code 22 = .ok (.ireturn, 1) := by decide +kernel
abbrev y_Sh_faultOfRow : MethodName := ⟨"LoadCycles$Sheet", "faultOfRow", "(I)I"⟩
theorem mi_Sh_faultOfRow : miV y_Sh_faultOfRow prog_5_method_7_code 2 (some .int) 1 := ⟨wd_284, wd_285, wd_71, wd_286, by decide, by decide, by decide +kernel⟩
def w_Sh_faultOfRow (o : Nat) (x1 : Int32) (σ : Sg) (K : Int32 → Prop) : Prop :=
  w_Sh_hasRow o σ (fun u1 => ((¬ u1 = 0 → ((¬ (σ o 1) = x1 → K (2 : Int32)) ∧ ((σ o 1) = x1 → K (0 : Int32)))) ∧ (u1 = 0 → K (1 : Int32))))
set_option maxHeartbeats 4000000 in
theorem m_Sh_faultOfRow {Y : Yx} {o : Nat} {x1 : Int32} {σ : Sg} {K : Int32 → Prop} (hY : YD Y) (ho : kd o = 3) (h : w_Sh_faultOfRow o x1 σ K) : MetI Y y_Sh_faultOfRow prog_5_method_7_code 2 (.int) 1 20 [.ref (ya Y o), .int x1] σ (fun r τ => τ = σ ∧ K r) := by
  refine met_I [(0, .ref (ya Y o)), (1, .int x1)] hY (by decide) (Nat.le_of_ble_eq_true rfl) rfl (fun X C hr => ?_)
  unfold w_Sh_faultOfRow at h
  refine q_aload_n (pc := 0) C d_Sh_faultOfRow_0 rfl 0 rfl ?_
  refine q_callVIr (pc := 1) (st := []) (d := o) C (m_Sh_hasRow hY ho h) mi_Sh_hasRow ho (by decide) rfl wd_287 rfl rfl (Nat.le_of_ble_eq_true rfl) (by decide) (by decide) d_Sh_faultOfRow_1 (fun u1 h => ?_)
  obtain ⟨h3, h4⟩ := h
  refine q_if_ne (pc := 4) 9 C d_Sh_faultOfRow_4 (by decide) (fun hc => ?_) (fun hc => ?_)
  · have h := h3 hc
    refine q_aload_n (pc := 9) C d_Sh_faultOfRow_9 rfl 0 rfl ?_
    refine q_get (pc := 10) (c := o) (ci := 3) (k := 1) (v := .int (σ o 1)) C ho (by decide) (by decide) wd_220 rfl d_Sh_faultOfRow_10 ?_
    refine q_iload_n (pc := 13) C d_Sh_faultOfRow_13 rfl 1 rfl ?_
    obtain ⟨h1, h2⟩ := h
    refine q_icmp_ne (pc := 14) 21 C d_Sh_faultOfRow_14 (by decide) (fun hc => ?_) (fun hc => ?_)
    · have h := h1 hc
      refine q_iconst (pc := 21) (v := 2) C d_Sh_faultOfRow_21 (by decide) ?_
      exact q_iret (pc := 22) C hr d_Sh_faultOfRow_22 ⟨rfl, h⟩
    have h := h2 hc
    refine q_iconst (pc := 17) (v := 0) C d_Sh_faultOfRow_17 (by decide) ?_
    refine q_goto (pc := 18) 22 C d_Sh_faultOfRow_18 (by decide) ?_
    exact q_iret (pc := 22) C hr d_Sh_faultOfRow_22 ⟨rfl, h⟩
  have h := h4 hc
  refine q_iconst (pc := 7) (v := 1) C d_Sh_faultOfRow_7 (by decide) ?_
  exact q_iret (pc := 8) C hr d_Sh_faultOfRow_8 ⟨rfl, h⟩
theorem d_Sh_holds_0 : decode prog_5_method_5_code 0 = .ok (.iload_n 1, 1) := by decide +kernel
theorem d_Sh_holds_1 : decode prog_5_method_5_code 1 = .ok (.ifCond .lt 29, 3) := by decide +kernel
theorem d_Sh_holds_4 : decode prog_5_method_5_code 4 = .ok (.iload_n 1, 1) := by decide +kernel
theorem d_Sh_holds_5 : decode prog_5_method_5_code 5 = .ok (.aload_n 0, 1) := by decide +kernel
theorem d_Sh_holds_6 : decode prog_5_method_5_code 6 = .ok (.getfield 15, 3) := by decide +kernel
theorem d_Sh_holds_9 : decode prog_5_method_5_code 9 = .ok (.if_icmp .gt 21, 3) := by decide +kernel
theorem d_Sh_holds_12 : decode prog_5_method_5_code 12 = .ok (.iload_n 2, 1) := by decide +kernel
theorem d_Sh_holds_13 : decode prog_5_method_5_code 13 = .ok (.ifCond .lt 17, 3) := by decide +kernel
theorem d_Sh_holds_16 : decode prog_5_method_5_code 16 = .ok (.iload_n 2, 1) := by decide +kernel
theorem d_Sh_holds_17 : decode prog_5_method_5_code 17 = .ok (.aload_n 0, 1) := by decide +kernel
theorem d_Sh_holds_18 : decode prog_5_method_5_code 18 = .ok (.getfield 15, 3) := by decide +kernel
theorem d_Sh_holds_21 : decode prog_5_method_5_code 21 = .ok (.iload_n 1, 1) := by decide +kernel
theorem d_Sh_holds_22 : decode prog_5_method_5_code 22 = .ok (.isub, 1) := by decide +kernel
theorem d_Sh_holds_23 : decode prog_5_method_5_code 23 = .ok (.if_icmp .gt 7, 3) := by decide +kernel
theorem d_Sh_holds_26 : decode prog_5_method_5_code 26 = .ok (.iconst 1, 1) := by decide +kernel
theorem d_Sh_holds_27 : decode prog_5_method_5_code 27 = .ok (.goto 4, 3) := by decide +kernel
theorem d_Sh_holds_30 : decode prog_5_method_5_code 30 = .ok (.iconst 0, 1) := by decide +kernel
theorem d_Sh_holds_31 : decode prog_5_method_5_code 31 = .ok (.ireturn, 1) := by decide +kernel
abbrev y_Sh_holds : MethodName := ⟨"LoadCycles$Sheet", "holds", "(II)Z"⟩
theorem mi_Sh_holds : miV y_Sh_holds prog_5_method_5_code 3 (some .boolean) 2 := ⟨wd_292, wd_293, wd_71, wd_294, by decide, by decide, by decide +kernel⟩
def w_Sh_holds (o : Nat) (x1 : Int32) (x2 : Int32) (σ : Sg) (K : Int32 → Prop) : Prop :=
  ((x1 < 0 → K (0 : Int32)) ∧ (¬ x1 < 0 → (((σ o 2) < x1 → K (0 : Int32)) ∧ (¬ (σ o 2) < x1 → ((x2 < 0 → K (0 : Int32)) ∧ (¬ x2 < 0 → ((((σ o 2) - x1) < x2 → K (0 : Int32)) ∧ (¬ ((σ o 2) - x1) < x2 → K (1 : Int32)))))))))
set_option maxHeartbeats 4000000 in
theorem m_Sh_holds {Y : Yx} {o : Nat} {x1 : Int32} {x2 : Int32} {σ : Sg} {K : Int32 → Prop} (hY : YD Y) (ho : kd o = 3) (h : w_Sh_holds o x1 x2 σ K) : MetI Y y_Sh_holds prog_5_method_5_code 3 (.boolean) 0 0 [.ref (ya Y o), .int x1, .int x2] σ (fun r τ => τ = σ ∧ K r) := by
  refine met_I [(0, .ref (ya Y o)), (1, .int x1), (2, .int x2)] hY (by decide) (Nat.le_of_ble_eq_true rfl) rfl (fun X C hr => ?_)
  unfold w_Sh_holds at h
  refine q_iload_n (pc := 0) C d_Sh_holds_0 rfl 1 rfl ?_
  obtain ⟨h7, h8⟩ := h
  refine q_if_lt (pc := 1) 30 C d_Sh_holds_1 (by decide) (fun hc => ?_) (fun hc => ?_)
  · have h := h7 hc
    refine q_iconst (pc := 30) (v := 0) C d_Sh_holds_30 (by decide) ?_
    exact q_zret (pc := 31) C hr d_Sh_holds_31 bz0 ⟨rfl, h⟩
  have h := h8 hc
  refine q_iload_n (pc := 4) C d_Sh_holds_4 rfl 1 rfl ?_
  refine q_aload_n (pc := 5) C d_Sh_holds_5 rfl 0 rfl ?_
  refine q_get (pc := 6) (c := o) (ci := 3) (k := 2) (v := .int (σ o 2)) C ho (by decide) (by decide) wd_222 rfl d_Sh_holds_6 ?_
  obtain ⟨h5, h6⟩ := h
  refine q_icmp_gt (pc := 9) 30 C d_Sh_holds_9 (by decide) (fun hc => ?_) (fun hc => ?_)
  · have h := h5 hc
    refine q_iconst (pc := 30) (v := 0) C d_Sh_holds_30 (by decide) ?_
    exact q_zret (pc := 31) C hr d_Sh_holds_31 bz0 ⟨rfl, h⟩
  have h := h6 hc
  refine q_iload_n (pc := 12) C d_Sh_holds_12 rfl 2 rfl ?_
  obtain ⟨h3, h4⟩ := h
  refine q_if_lt (pc := 13) 30 C d_Sh_holds_13 (by decide) (fun hc => ?_) (fun hc => ?_)
  · have h := h3 hc
    refine q_iconst (pc := 30) (v := 0) C d_Sh_holds_30 (by decide) ?_
    exact q_zret (pc := 31) C hr d_Sh_holds_31 bz0 ⟨rfl, h⟩
  have h := h4 hc
  refine q_iload_n (pc := 16) C d_Sh_holds_16 rfl 2 rfl ?_
  refine q_aload_n (pc := 17) C d_Sh_holds_17 rfl 0 rfl ?_
  refine q_get (pc := 18) (c := o) (ci := 3) (k := 2) (v := .int (σ o 2)) C ho (by decide) (by decide) wd_222 rfl d_Sh_holds_18 ?_
  refine q_iload_n (pc := 21) C d_Sh_holds_21 rfl 1 rfl ?_
  refine q_isub (pc := 22) C d_Sh_holds_22 ?_
  obtain ⟨h1, h2⟩ := h
  refine q_icmp_gt (pc := 23) 30 C d_Sh_holds_23 (by decide) (fun hc => ?_) (fun hc => ?_)
  · have h := h1 hc
    refine q_iconst (pc := 30) (v := 0) C d_Sh_holds_30 (by decide) ?_
    exact q_zret (pc := 31) C hr d_Sh_holds_31 bz0 ⟨rfl, h⟩
  have h := h2 hc
  refine q_iconst (pc := 26) (v := 1) C d_Sh_holds_26 (by decide) ?_
  refine q_goto (pc := 27) 31 C d_Sh_holds_27 (by decide) ?_
  exact q_zret (pc := 31) C hr d_Sh_holds_31 bz1 ⟨rfl, h⟩
theorem d_Lc_faulted_0 : decode prog_1_method_39_code 0 = .ok (.aload_n 0, 1) := by decide +kernel
theorem d_Lc_faulted_1 : decode prog_1_method_39_code 1 = .ok (.iload_n 1, 1) := by decide +kernel
theorem d_Lc_faulted_2 : decode prog_1_method_39_code 2 = .ok (.putfield 66, 3) := by decide +kernel
theorem d_Lc_faulted_5 : decode prog_1_method_39_code 5 = .ok (.bipush (-10), 2) := by decide +kernel
theorem d_Lc_faulted_7 : decode prog_1_method_39_code 7 = .ok (.iload_n 1, 1) := by decide +kernel
theorem d_Lc_faulted_8 : decode prog_1_method_39_code 8 = .ok (.isub, 1) := by decide +kernel
theorem d_Lc_faulted_9 : decode prog_1_method_39_code 9 = .ok (.ireturn, 1) := by decide +kernel
abbrev y_Lc_faulted : MethodName := ⟨"LoadCycles", "faulted", "(I)I"⟩
theorem mi_Lc_faulted : miV y_Lc_faulted prog_1_method_39_code 2 (some .int) 1 := ⟨wd_297, wd_0, wd_65, wd_298, by decide, by decide, by decide +kernel⟩
def w_Lc_faulted (x1 : Int32) (σ : Sg) (K : Int32 → Sg → Prop) : Prop :=
  (∀ τ2 : Sg, τ2 = s2 σ 0 13 x1 → K ((-10 : Int32) - x1) τ2)
set_option maxHeartbeats 4000000 in
theorem m_Lc_faulted {Y : Yx} {x1 : Int32} {σ : Sg} {K : Int32 → Sg → Prop} (hY : YD Y)  (h : w_Lc_faulted x1 σ K) : MetI Y y_Lc_faulted prog_1_method_39_code 2 (.int) 0 0 [.ref (ya Y 0), .int x1] σ K := by
  refine met_I [(0, .ref (ya Y 0)), (1, .int x1)] hY (by decide) (Nat.le_of_ble_eq_true rfl) rfl (fun X C hr => ?_)
  unfold w_Lc_faulted at h
  refine q_aload_n (pc := 0) C d_Lc_faulted_0 rfl 0 rfl ?_
  refine q_iload_n (pc := 1) C d_Lc_faulted_1 rfl 1 rfl ?_
  refine q_put (pc := 2) (c := 0) (ci := 6) (k := 13) C rfl (by decide) (by decide) wd_243 rfl rfl rfl fs_6_13 d_Lc_faulted_2 ?_
  refine q_nms (fun τ2 eτ2 => ?_)
  replace h := h τ2 eτ2
  refine q_bipush (pc := 5) (v := -10) C d_Lc_faulted_5 (by decide) ?_
  refine q_iload_n (pc := 7) C d_Lc_faulted_7 rfl 1 rfl ?_
  refine q_isub (pc := 8) C d_Lc_faulted_8 ?_
  exact q_iret (pc := 9) C hr d_Lc_faulted_9 h
theorem d_Tr_takesOpening_0 : decode prog_6_method_4_code 0 = .ok (.aload_n 0, 1) := by decide +kernel
theorem d_Tr_takesOpening_1 : decode prog_6_method_4_code 1 = .ok (.iconst 1, 1) := by decide +kernel
theorem d_Tr_takesOpening_2 : decode prog_6_method_4_code 2 = .ok (.putfield 22, 3) := by decide +kernel
theorem d_Tr_takesOpening_5 : decode prog_6_method_4_code 5 = .ok (.iload_n 1, 1) := by decide +kernel
theorem d_Tr_takesOpening_6 : decode prog_6_method_4_code 6 = .ok (.bipush 117, 2) := by decide +kernel
theorem d_Tr_takesOpening_8 : decode prog_6_method_4_code 8 = .ok (.if_icmp .ne 7, 3) := by decide +kernel
theorem d_Tr_takesOpening_11 : decode prog_6_method_4_code 11 = .ok (.iconst 1, 1) := by decide +kernel
theorem d_Tr_takesOpening_12 : decode prog_6_method_4_code 12 = .ok (.goto 4, 3) := by decide +kernel
theorem d_Tr_takesOpening_15 : decode prog_6_method_4_code 15 = .ok (.iconst 0, 1) := by decide +kernel
theorem d_Tr_takesOpening_16 : decode prog_6_method_4_code 16 = .ok (.ireturn, 1) := by decide +kernel
abbrev y_Tr_takesOpening : MethodName := ⟨"LoadCycles$TextReader", "takesOpening", "(I)Z"⟩
theorem mi_Tr_takesOpening : miV y_Tr_takesOpening prog_6_method_4_code 2 (some .boolean) 1 := ⟨wd_309, wd_2, wd_69, wd_310, by decide, by decide, by decide +kernel⟩
def w_Tr_takesOpening (x1 : Int32) (σ : Sg) (K : Int32 → Sg → Prop) : Prop :=
  (∀ τ2 : Sg, τ2 = s2 σ 28 1 (1 : Int32) → ((¬ x1 = (117 : Int32) → K (0 : Int32) τ2) ∧ (x1 = (117 : Int32) → K (1 : Int32) τ2)))
set_option maxHeartbeats 4000000 in
theorem m_Tr_takesOpening {Y : Yx} {x1 : Int32} {σ : Sg} {K : Int32 → Sg → Prop} (hY : YD Y)  (h : w_Tr_takesOpening x1 σ K) : MetI Y y_Tr_takesOpening prog_6_method_4_code 2 (.boolean) 0 0 [.ref (ya Y 28), .int x1] σ K := by
  refine met_I [(0, .ref (ya Y 28)), (1, .int x1)] hY (by decide) (Nat.le_of_ble_eq_true rfl) rfl (fun X C hr => ?_)
  unfold w_Tr_takesOpening at h
  refine q_aload_n (pc := 0) C d_Tr_takesOpening_0 rfl 0 rfl ?_
  refine q_iconst (pc := 1) (v := 1) C d_Tr_takesOpening_1 (by decide) ?_
  refine q_put (pc := 2) (c := 28) (ci := 4) (k := 1) C rfl (by decide) (by decide) wd_190 rfl rfl rfl fs_4_1 d_Tr_takesOpening_2 ?_
  refine q_nms (fun τ2 eτ2 => ?_)
  replace h := h τ2 eτ2
  refine q_iload_n (pc := 5) C d_Tr_takesOpening_5 rfl 1 rfl ?_
  refine q_bipush (pc := 6) (v := 117) C d_Tr_takesOpening_6 (by decide) ?_
  obtain ⟨h1, h2⟩ := h
  refine q_icmp_ne (pc := 8) 15 C d_Tr_takesOpening_8 (by decide) (fun hc => ?_) (fun hc => ?_)
  · have h := h1 hc
    refine q_iconst (pc := 15) (v := 0) C d_Tr_takesOpening_15 (by decide) ?_
    exact q_zret (pc := 16) C hr d_Tr_takesOpening_16 bz0 h
  have h := h2 hc
  refine q_iconst (pc := 11) (v := 1) C d_Tr_takesOpening_11 (by decide) ?_
  refine q_goto (pc := 12) 16 C d_Tr_takesOpening_12 (by decide) ?_
  exact q_zret (pc := 16) C hr d_Tr_takesOpening_16 bz1 h
theorem d_Tr_takesMark_0 : decode prog_6_method_5_code 0 = .ok (.aload_n 0, 1) := by decide +kernel
theorem d_Tr_takesMark_1 : decode prog_6_method_5_code 1 = .ok (.iconst 2, 1) := by decide +kernel
theorem d_Tr_takesMark_2 : decode prog_6_method_5_code 2 = .ok (.putfield 22, 3) := by decide +kernel
theorem d_Tr_takesMark_5 : decode prog_6_method_5_code 5 = .ok (.iload_n 1, 1) := by decide +kernel
theorem d_Tr_takesMark_6 : decode prog_6_method_5_code 6 = .ok (.bipush 59, 2) := by decide +kernel
theorem d_Tr_takesMark_8 : decode prog_6_method_5_code 8 = .ok (.if_icmp .ne 18, 3) := by decide +kernel
theorem d_Tr_takesMark_11 : decode prog_6_method_5_code 11 = .ok (.aload_n 0, 1) := by decide +kernel
theorem d_Tr_takesMark_12 : decode prog_6_method_5_code 12 = .ok (.getfield 12, 3) := by decide +kernel
theorem d_Tr_takesMark_15 : decode prog_6_method_5_code 15 = .ok (.getfield 18, 3) := by decide +kernel
theorem d_Tr_takesMark_18 : decode prog_6_method_5_code 18 = .ok (.iconst 4, 1) := by decide +kernel
theorem d_Tr_takesMark_19 : decode prog_6_method_5_code 19 = .ok (.if_icmp .ge 7, 3) := by decide +kernel
theorem d_Tr_takesMark_22 : decode prog_6_method_5_code 22 = .ok (.iconst 1, 1) := by decide +kernel
theorem d_Tr_takesMark_23 : decode prog_6_method_5_code 23 = .ok (.goto 4, 3) := by decide +kernel
theorem d_Tr_takesMark_26 : decode prog_6_method_5_code 26 = .ok (.iconst 0, 1) := by decide +kernel
theorem d_Tr_takesMark_27 : decode prog_6_method_5_code 27 = .ok (.ireturn, 1) := by decide +kernel
abbrev y_Tr_takesMark : MethodName := ⟨"LoadCycles$TextReader", "takesMark", "(I)Z"⟩
theorem mi_Tr_takesMark : miV y_Tr_takesMark prog_6_method_5_code 2 (some .boolean) 1 := ⟨wd_313, wd_3, wd_69, wd_314, by decide, by decide, by decide +kernel⟩
def w_Tr_takesMark (x1 : Int32) (σ : Sg) (K : Int32 → Sg → Prop) : Prop :=
  (∀ τ2 : Sg, τ2 = s2 σ 28 1 (2 : Int32) → ((¬ x1 = (59 : Int32) → K (0 : Int32) τ2) ∧ (x1 = (59 : Int32) → (((4 : Int32) ≤ (τ2 11 4) → K (0 : Int32) τ2) ∧ (¬ (4 : Int32) ≤ (τ2 11 4) → K (1 : Int32) τ2)))))
set_option maxHeartbeats 4000000 in
theorem m_Tr_takesMark {Y : Yx} {x1 : Int32} {σ : Sg} {K : Int32 → Sg → Prop} (hY : YD Y)  (h : w_Tr_takesMark x1 σ K) : MetI Y y_Tr_takesMark prog_6_method_5_code 2 (.boolean) 0 0 [.ref (ya Y 28), .int x1] σ K := by
  refine met_I [(0, .ref (ya Y 28)), (1, .int x1)] hY (by decide) (Nat.le_of_ble_eq_true rfl) rfl (fun X C hr => ?_)
  unfold w_Tr_takesMark at h
  refine q_aload_n (pc := 0) C d_Tr_takesMark_0 rfl 0 rfl ?_
  refine q_iconst (pc := 1) (v := 2) C d_Tr_takesMark_1 (by decide) ?_
  refine q_put (pc := 2) (c := 28) (ci := 4) (k := 1) C rfl (by decide) (by decide) wd_190 rfl rfl rfl fs_4_1 d_Tr_takesMark_2 ?_
  refine q_nms (fun τ2 eτ2 => ?_)
  replace h := h τ2 eτ2
  refine q_iload_n (pc := 5) C d_Tr_takesMark_5 rfl 1 rfl ?_
  refine q_bipush (pc := 6) (v := 59) C d_Tr_takesMark_6 (by decide) ?_
  obtain ⟨h3, h4⟩ := h
  refine q_icmp_ne (pc := 8) 26 C d_Tr_takesMark_8 (by decide) (fun hc => ?_) (fun hc => ?_)
  · have h := h3 hc
    refine q_iconst (pc := 26) (v := 0) C d_Tr_takesMark_26 (by decide) ?_
    exact q_zret (pc := 27) C hr d_Tr_takesMark_27 bz0 h
  have h := h4 hc
  refine q_aload_n (pc := 11) C d_Tr_takesMark_11 rfl 0 rfl ?_
  refine q_get (pc := 12) (c := 28) (ci := 4) (k := 0) (v := .ref (ya Y 11)) C rfl (by decide) (by decide) wd_188 rfl d_Tr_takesMark_12 ?_
  refine q_get (pc := 15) (c := 11) (ci := 2) (k := 4) (v := .int (τ2 11 4)) C rfl (by decide) (by decide) wd_100 rfl d_Tr_takesMark_15 ?_
  refine q_iconst (pc := 18) (v := 4) C d_Tr_takesMark_18 (by decide) ?_
  obtain ⟨h1, h2⟩ := h
  refine q_icmp_ge (pc := 19) 26 C d_Tr_takesMark_19 (by decide) (fun hc => ?_) (fun hc => ?_)
  · have h := h1 hc
    refine q_iconst (pc := 26) (v := 0) C d_Tr_takesMark_26 (by decide) ?_
    exact q_zret (pc := 27) C hr d_Tr_takesMark_27 bz0 h
  have h := h2 hc
  refine q_iconst (pc := 22) (v := 1) C d_Tr_takesMark_22 (by decide) ?_
  refine q_goto (pc := 23) 27 C d_Tr_takesMark_23 (by decide) ?_
  exact q_zret (pc := 27) C hr d_Tr_takesMark_27 bz1 h
theorem d_Ho_addAppliance_0 : decode prog_4_method_6_code 0 = .ok (.aload_n 0, 1) := by decide +kernel
theorem d_Ho_addAppliance_1 : decode prog_4_method_6_code 1 = .ok (.getfield 30, 3) := by decide +kernel
theorem d_Ho_addAppliance_4 : decode prog_4_method_6_code 4 = .ok (.iconst 4, 1) := by decide +kernel
theorem d_Ho_addAppliance_5 : decode prog_4_method_6_code 5 = .ok (.if_icmp .lt 5, 3) := by decide +kernel
theorem d_Ho_addAppliance_8 : decode prog_4_method_6_code 8 = .ok (.iconst 0, 1) := by decide +kernel
theorem d_Ho_addAppliance_9 : decode prog_4_method_6_code 9 = .ok (.ireturn, 1) := by decide +kernel
theorem d_Ho_addAppliance_10 : decode prog_4_method_6_code 10 = .ok (.aload_n 0, 1) := by decide +kernel
theorem d_Ho_addAppliance_11 : decode prog_4_method_6_code 11 = .ok (.getfield 9, 3) := by decide +kernel
theorem d_Ho_addAppliance_14 : decode prog_4_method_6_code 14 = .ok (.aload_n 0, 1) := by decide +kernel
theorem d_Ho_addAppliance_15 : decode prog_4_method_6_code 15 = .ok (.getfield 30, 3) := by decide +kernel
theorem d_Ho_addAppliance_18 : decode prog_4_method_6_code 18 = .ok (.iload_n 1, 1) := by decide +kernel
theorem d_Ho_addAppliance_19 : decode prog_4_method_6_code 19 = .ok (.iastore, 1) := by decide +kernel
theorem d_Ho_addAppliance_20 : decode prog_4_method_6_code 20 = .ok (.aload_n 0, 1) := by decide +kernel
theorem d_Ho_addAppliance_21 : decode prog_4_method_6_code 21 = .ok (.getfield 15, 3) := by decide +kernel
theorem d_Ho_addAppliance_24 : decode prog_4_method_6_code 24 = .ok (.aload_n 0, 1) := by decide +kernel
theorem d_Ho_addAppliance_25 : decode prog_4_method_6_code 25 = .ok (.getfield 30, 3) := by decide +kernel
theorem d_Ho_addAppliance_28 : decode prog_4_method_6_code 28 = .ok (.iconst 0, 1) := by decide +kernel
theorem d_Ho_addAppliance_29 : decode prog_4_method_6_code 29 = .ok (.iastore, 1) := by decide +kernel
theorem d_Ho_addAppliance_30 : decode prog_4_method_6_code 30 = .ok (.aload_n 0, 1) := by decide +kernel
theorem d_Ho_addAppliance_31 : decode prog_4_method_6_code 31 = .ok (.dup, 1) := by decide +kernel
theorem d_Ho_addAppliance_32 : decode prog_4_method_6_code 32 = .ok (.getfield 30, 3) := by decide +kernel
theorem d_Ho_addAppliance_35 : decode prog_4_method_6_code 35 = .ok (.iconst 1, 1) := by decide +kernel
theorem d_Ho_addAppliance_36 : decode prog_4_method_6_code 36 = .ok (.iadd, 1) := by decide +kernel
theorem d_Ho_addAppliance_37 : decode prog_4_method_6_code 37 = .ok (.putfield 30, 3) := by decide +kernel
theorem d_Ho_addAppliance_40 : decode prog_4_method_6_code 40 = .ok (.iconst 1, 1) := by decide +kernel
theorem d_Ho_addAppliance_41 : decode prog_4_method_6_code 41 = .ok (.ireturn, 1) := by decide +kernel
abbrev y_Ho_addAppliance : MethodName := ⟨"LoadCycles$House", "addAppliance", "(I)Z"⟩
theorem mi_Ho_addAppliance : miV y_Ho_addAppliance prog_4_method_6_code 2 (some .boolean) 1 := ⟨wd_320, wd_321, wd_66, wd_322, by decide, by decide, by decide +kernel⟩
def w_Ho_addAppliance (o : Nat) (x1 : Int32) (σ : Sg) (K : Int32 → Sg → Prop) : Prop :=
  (((σ o 4) < (4 : Int32) → (vp_in (σ o 4) 4 ∧ (∀ τ19 : Sg, τ19 = s2 σ (o + 1) (σ o 4).toNatClampNeg x1 → (vp_in (τ19 o 4) 4 ∧ (∀ τ29 : Sg, τ29 = s2 τ19 (o + 2) (τ19 o 4).toNatClampNeg (0 : Int32) → (∀ τ37 : Sg, τ37 = s2 τ29 o 4 ((τ29 o 4) + (1 : Int32)) → K (1 : Int32) τ37)))))) ∧ (¬ (σ o 4) < (4 : Int32) → K (0 : Int32) σ))
set_option maxHeartbeats 4000000 in
theorem m_Ho_addAppliance {Y : Yx} {o : Nat} {x1 : Int32} {σ : Sg} {K : Int32 → Sg → Prop} (hY : YD Y) (ho : kd o = 2) (h : w_Ho_addAppliance o x1 σ K) : MetI Y y_Ho_addAppliance prog_4_method_6_code 2 (.boolean) 0 0 [.ref (ya Y o), .int x1] σ K := by
  refine met_I [(0, .ref (ya Y o)), (1, .int x1)] hY (by decide) (Nat.le_of_ble_eq_true rfl) rfl (fun X C hr => ?_)
  unfold w_Ho_addAppliance at h
  refine q_aload_n (pc := 0) C d_Ho_addAppliance_0 rfl 0 rfl ?_
  refine q_get (pc := 1) (c := o) (ci := 2) (k := 4) (v := .int (σ o 4)) C ho (by decide) (by decide) wd_102 rfl d_Ho_addAppliance_1 ?_
  refine q_iconst (pc := 4) (v := 4) C d_Ho_addAppliance_4 (by decide) ?_
  obtain ⟨h3, h4⟩ := h
  refine q_icmp_lt (pc := 5) 10 C d_Ho_addAppliance_5 (by decide) (fun hc => ?_) (fun hc => ?_)
  · have h := h3 hc
    refine q_aload_n (pc := 10) C d_Ho_addAppliance_10 rfl 0 rfl ?_
    refine q_get (pc := 11) (c := o) (ci := 2) (k := 0) (v := .ref (ya Y (o + 1))) C ho (by decide) (by decide) wd_91 rfl d_Ho_addAppliance_11 ?_
    refine q_aload_n (pc := 14) C d_Ho_addAppliance_14 rfl 0 rfl ?_
    refine q_get (pc := 15) (c := o) (ci := 2) (k := 4) (v := .int (σ o 4)) C ho (by decide) (by decide) wd_102 rfl d_Ho_addAppliance_15 ?_
    refine q_iload_n (pc := 18) C d_Ho_addAppliance_18 rfl 1 rfl ?_
    obtain ⟨h1, h⟩ := h
    refine q_iast (pc := 19) (c := (o + 1)) C (k2_1 ho) h1 d_Ho_addAppliance_19 ?_
    refine q_nms (fun τ19 eτ19 => ?_)
    replace h := h τ19 eτ19
    refine q_aload_n (pc := 20) C d_Ho_addAppliance_20 rfl 0 rfl ?_
    refine q_get (pc := 21) (c := o) (ci := 2) (k := 1) (v := .ref (ya Y (o + 2))) C ho (by decide) (by decide) wd_93 rfl d_Ho_addAppliance_21 ?_
    refine q_aload_n (pc := 24) C d_Ho_addAppliance_24 rfl 0 rfl ?_
    refine q_get (pc := 25) (c := o) (ci := 2) (k := 4) (v := .int (τ19 o 4)) C ho (by decide) (by decide) wd_102 rfl d_Ho_addAppliance_25 ?_
    refine q_iconst (pc := 28) (v := 0) C d_Ho_addAppliance_28 (by decide) ?_
    obtain ⟨h2, h⟩ := h
    refine q_iast (pc := 29) (c := (o + 2)) C (k2_2 ho) h2 d_Ho_addAppliance_29 ?_
    refine q_nms (fun τ29 eτ29 => ?_)
    replace h := h τ29 eτ29
    refine q_aload_n (pc := 30) C d_Ho_addAppliance_30 rfl 0 rfl ?_
    refine q_dup (pc := 31) C d_Ho_addAppliance_31 rfl ?_
    refine q_get (pc := 32) (c := o) (ci := 2) (k := 4) (v := .int (τ29 o 4)) C ho (by decide) (by decide) wd_102 rfl d_Ho_addAppliance_32 ?_
    refine q_iconst (pc := 35) (v := 1) C d_Ho_addAppliance_35 (by decide) ?_
    refine q_iadd (pc := 36) C d_Ho_addAppliance_36 ?_
    refine q_put (pc := 37) (c := o) (ci := 2) (k := 4) C ho (by decide) (by decide) wd_102 rfl rfl rfl fs_2_4 d_Ho_addAppliance_37 ?_
    refine q_nms (fun τ37 eτ37 => ?_)
    replace h := h τ37 eτ37
    refine q_iconst (pc := 40) (v := 1) C d_Ho_addAppliance_40 (by decide) ?_
    exact q_zret (pc := 41) C hr d_Ho_addAppliance_41 bz1 h
  have h := h4 hc
  refine q_iconst (pc := 8) (v := 0) C d_Ho_addAppliance_8 (by decide) ?_
  exact q_zret (pc := 9) C hr d_Ho_addAppliance_9 bz0 h
theorem d_Tr_takesKind_0 : decode prog_6_method_6_code 0 = .ok (.aload_n 0, 1) := by decide +kernel
theorem d_Tr_takesKind_1 : decode prog_6_method_6_code 1 = .ok (.iconst 3, 1) := by decide +kernel
theorem d_Tr_takesKind_2 : decode prog_6_method_6_code 2 = .ok (.putfield 22, 3) := by decide +kernel
theorem d_Tr_takesKind_5 : decode prog_6_method_6_code 5 = .ok (.iload_n 1, 1) := by decide +kernel
theorem d_Tr_takesKind_6 : decode prog_6_method_6_code 6 = .ok (.lookupswitch 61 #[(68, 52), (72, 43), (80, 34)], 34) := by decide +kernel
theorem d_Tr_takesKind_40 : decode prog_6_method_6_code 40 = .ok (.aload_n 0, 1) := by decide +kernel
theorem d_Tr_takesKind_41 : decode prog_6_method_6_code 41 = .ok (.getfield 12, 3) := by decide +kernel
theorem d_Tr_takesKind_44 : decode prog_6_method_6_code 44 = .ok (.iconst 0, 1) := by decide +kernel
theorem d_Tr_takesKind_45 : decode prog_6_method_6_code 45 = .ok (.invokevirtual 47, 3) := by decide +kernel
theorem d_Tr_takesKind_48 : decode prog_6_method_6_code 48 = .ok (.ireturn, 1) := by decide +kernel
theorem d_Tr_takesKind_49 : decode prog_6_method_6_code 49 = .ok (.aload_n 0, 1) := by decide +kernel
theorem d_Tr_takesKind_50 : decode prog_6_method_6_code 50 = .ok (.getfield 12, 3) := by decide +kernel
theorem d_Tr_takesKind_53 : decode prog_6_method_6_code 53 = .ok (.iconst 1, 1) := by decide +kernel
theorem d_Tr_takesKind_54 : decode prog_6_method_6_code 54 = .ok (.invokevirtual 47, 3) := by decide +kernel
theorem d_Tr_takesKind_57 : decode prog_6_method_6_code 57 = .ok (.ireturn, 1) := by decide +kernel
theorem d_Tr_takesKind_58 : decode prog_6_method_6_code 58 = .ok (.aload_n 0, 1) := by decide +kernel
theorem d_Tr_takesKind_59 : decode prog_6_method_6_code 59 = .ok (.getfield 12, 3) := by decide +kernel
theorem d_Tr_takesKind_62 : decode prog_6_method_6_code 62 = .ok (.iconst 2, 1) := by decide +kernel
theorem d_Tr_takesKind_63 : decode prog_6_method_6_code 63 = .ok (.invokevirtual 47, 3) := by decide +kernel
theorem d_Tr_takesKind_66 : decode prog_6_method_6_code 66 = .ok (.ireturn, 1) := by decide +kernel
theorem d_Tr_takesKind_67 : decode prog_6_method_6_code 67 = .ok (.iconst 0, 1) := by decide +kernel
theorem d_Tr_takesKind_68 : decode prog_6_method_6_code 68 = .ok (.ireturn, 1) := by decide +kernel
abbrev y_Tr_takesKind : MethodName := ⟨"LoadCycles$TextReader", "takesKind", "(I)Z"⟩
theorem mi_Tr_takesKind : miV y_Tr_takesKind prog_6_method_6_code 2 (some .boolean) 1 := ⟨wd_317, wd_4, wd_69, wd_318, by decide, by decide, by decide +kernel⟩
def w_Tr_takesKind (x1 : Int32) (σ : Sg) (K : Int32 → Sg → Prop) : Prop :=
  (∀ τ2 : Sg, τ2 = s2 σ 28 1 (3 : Int32) → ((x1 = (68 : Int32) → w_Ho_addAppliance 11 (2 : Int32) τ2 (fun u63 τ63 => (bz u63 ∧ K u63 τ63))) ∧ (x1 = (72 : Int32) → w_Ho_addAppliance 11 (1 : Int32) τ2 (fun u54 τ54 => (bz u54 ∧ K u54 τ54))) ∧ (x1 = (80 : Int32) → w_Ho_addAppliance 11 (0 : Int32) τ2 (fun u45 τ45 => (bz u45 ∧ K u45 τ45))) ∧ (¬ x1 = (68 : Int32) → ¬ x1 = (72 : Int32) → ¬ x1 = (80 : Int32) → K (0 : Int32) τ2)))
set_option maxHeartbeats 4000000 in
theorem m_Tr_takesKind {Y : Yx} {x1 : Int32} {σ : Sg} {K : Int32 → Sg → Prop} (hY : YD Y)  (h : w_Tr_takesKind x1 σ K) : MetI Y y_Tr_takesKind prog_6_method_6_code 2 (.boolean) 1 21 [.ref (ya Y 28), .int x1] σ K := by
  refine met_I [(0, .ref (ya Y 28)), (1, .int x1)] hY (by decide) (Nat.le_of_ble_eq_true rfl) rfl (fun X C hr => ?_)
  unfold w_Tr_takesKind at h
  refine q_aload_n (pc := 0) C d_Tr_takesKind_0 rfl 0 rfl ?_
  refine q_iconst (pc := 1) (v := 3) C d_Tr_takesKind_1 (by decide) ?_
  refine q_put (pc := 2) (c := 28) (ci := 4) (k := 1) C rfl (by decide) (by decide) wd_190 rfl rfl rfl fs_4_1 d_Tr_takesKind_2 ?_
  refine q_nms (fun τ2 eτ2 => ?_)
  replace h := h τ2 eτ2
  refine q_iload_n (pc := 5) C d_Tr_takesKind_5 rfl 1 rfl ?_
  obtain ⟨h3, h6, h9, h10⟩ := h
  by_cases h2 : x1 = (68 : Int32)
  · refine q_lookupK (pc := 6) 58 (k := 68) (off := 52) C h2 (by decide) d_Tr_takesKind_6 (by decide) (by decide) (by decide) ?_
    have h := h3 h2
    refine q_aload_n (pc := 58) C d_Tr_takesKind_58 rfl 0 rfl ?_
    refine q_get (pc := 59) (c := 28) (ci := 4) (k := 0) (v := .ref (ya Y 11)) C rfl (by decide) (by decide) wd_188 rfl d_Tr_takesKind_59 ?_
    refine q_iconst (pc := 62) (v := 2) C d_Tr_takesKind_62 (by decide) ?_
    refine q_callVI (pc := 63) (st := []) (d := 11) C (m_Ho_addAppliance hY rfl h) mi_Ho_addAppliance rfl (by decide) rfl wd_319 rfl rfl (Nat.le_of_ble_eq_true rfl) (by decide) (by decide) d_Tr_takesKind_63 (fun u63 τ63 h => ?_)
    obtain ⟨h1, h⟩ := h
    exact q_zret (pc := 66) C hr d_Tr_takesKind_66 h1 h
  by_cases h5 : x1 = (72 : Int32)
  · refine q_lookupK (pc := 6) 49 (k := 72) (off := 43) C h5 (by decide) d_Tr_takesKind_6 (by decide) (by decide) (by decide) ?_
    have h := h6 h5
    refine q_aload_n (pc := 49) C d_Tr_takesKind_49 rfl 0 rfl ?_
    refine q_get (pc := 50) (c := 28) (ci := 4) (k := 0) (v := .ref (ya Y 11)) C rfl (by decide) (by decide) wd_188 rfl d_Tr_takesKind_50 ?_
    refine q_iconst (pc := 53) (v := 1) C d_Tr_takesKind_53 (by decide) ?_
    refine q_callVI (pc := 54) (st := []) (d := 11) C (m_Ho_addAppliance hY rfl h) mi_Ho_addAppliance rfl (by decide) rfl wd_319 rfl rfl (Nat.le_of_ble_eq_true rfl) (by decide) (by decide) d_Tr_takesKind_54 (fun u54 τ54 h => ?_)
    obtain ⟨h4, h⟩ := h
    exact q_zret (pc := 57) C hr d_Tr_takesKind_57 h4 h
  by_cases h8 : x1 = (80 : Int32)
  · refine q_lookupK (pc := 6) 40 (k := 80) (off := 34) C h8 (by decide) d_Tr_takesKind_6 (by decide) (by decide) (by decide) ?_
    have h := h9 h8
    refine q_aload_n (pc := 40) C d_Tr_takesKind_40 rfl 0 rfl ?_
    refine q_get (pc := 41) (c := 28) (ci := 4) (k := 0) (v := .ref (ya Y 11)) C rfl (by decide) (by decide) wd_188 rfl d_Tr_takesKind_41 ?_
    refine q_iconst (pc := 44) (v := 0) C d_Tr_takesKind_44 (by decide) ?_
    refine q_callVI (pc := 45) (st := []) (d := 11) C (m_Ho_addAppliance hY rfl h) mi_Ho_addAppliance rfl (by decide) rfl wd_319 rfl rfl (Nat.le_of_ble_eq_true rfl) (by decide) (by decide) d_Tr_takesKind_45 (fun u45 τ45 h => ?_)
    obtain ⟨h7, h⟩ := h
    exact q_zret (pc := 48) C hr d_Tr_takesKind_48 h7 h
  refine q_lookup (pc := 6) 67 (off := 61) C d_Tr_takesKind_6 (by decide) (by show Op.lookupswitch.offset [(68, 52), (72, 43), (80, 34)] 61 _ = _; rw [Op.lookupswitch.offset_cons, if_neg (Ne.symm (sw_ne (k := 68) rfl h2)), Op.lookupswitch.offset_cons, if_neg (Ne.symm (sw_ne (k := 72) rfl h5)), Op.lookupswitch.offset_cons, if_neg (Ne.symm (sw_ne (k := 80) rfl h8))]; rfl) (by decide) ?_
  have h := h10 h2 h5 h8
  refine q_iconst (pc := 67) (v := 0) C d_Tr_takesKind_67 (by decide) ?_
  exact q_zret (pc := 68) C hr d_Tr_takesKind_68 bz0 h
theorem d_Lc_isLevelValue_0 : decode prog_1_method_36_code 0 = .ok (.iload_n 0, 1) := by decide +kernel
theorem d_Lc_isLevelValue_1 : decode prog_1_method_36_code 1 = .ok (.iconst 1, 1) := by decide +kernel
theorem d_Lc_isLevelValue_2 : decode prog_1_method_36_code 2 = .ok (.if_icmp .lt 13, 3) := by decide +kernel
theorem d_Lc_isLevelValue_5 : decode prog_1_method_36_code 5 = .ok (.iload_n 0, 1) := by decide +kernel
theorem d_Lc_isLevelValue_6 : decode prog_1_method_36_code 6 = .ok (.bipush 9, 2) := by decide +kernel
theorem d_Lc_isLevelValue_8 : decode prog_1_method_36_code 8 = .ok (.if_icmp .gt 7, 3) := by decide +kernel
theorem d_Lc_isLevelValue_11 : decode prog_1_method_36_code 11 = .ok (.iconst 1, 1) := by decide +kernel
theorem d_Lc_isLevelValue_12 : decode prog_1_method_36_code 12 = .ok (.goto 4, 3) := by decide +kernel
theorem d_Lc_isLevelValue_15 : decode prog_1_method_36_code 15 = .ok (.iconst 0, 1) := by decide +kernel
theorem d_Lc_isLevelValue_16 : decode prog_1_method_36_code 16 = .ok (.ireturn, 1) := by decide +kernel
abbrev y_Lc_isLevelValue : MethodName := ⟨"LoadCycles", "isLevelValue", "(I)Z"⟩
theorem mi_Lc_isLevelValue : miS y_Lc_isLevelValue prog_1_method_36_code 1 (some .boolean) 1 := ⟨wd_328, wd_65, wd_329, by decide, by decide, by decide +kernel⟩
def w_Lc_isLevelValue (x0 : Int32) (σ : Sg) (K : Int32 → Prop) : Prop :=
  ((x0 < (1 : Int32) → K (0 : Int32)) ∧ (¬ x0 < (1 : Int32) → (((9 : Int32) < x0 → K (0 : Int32)) ∧ (¬ (9 : Int32) < x0 → K (1 : Int32)))))
set_option maxHeartbeats 4000000 in
theorem m_Lc_isLevelValue {Y : Yx} {x0 : Int32} {σ : Sg} {K : Int32 → Prop} (hY : YD Y)  (h : w_Lc_isLevelValue x0 σ K) : MetI Y y_Lc_isLevelValue prog_1_method_36_code 1 (.boolean) 0 0 [.int x0] σ (fun r τ => τ = σ ∧ K r) := by
  refine met_I [(0, .int x0)] hY (by decide) (Nat.le_of_ble_eq_true rfl) rfl (fun X C hr => ?_)
  unfold w_Lc_isLevelValue at h
  refine q_iload_n (pc := 0) C d_Lc_isLevelValue_0 rfl 0 rfl ?_
  refine q_iconst (pc := 1) (v := 1) C d_Lc_isLevelValue_1 (by decide) ?_
  obtain ⟨h3, h4⟩ := h
  refine q_icmp_lt (pc := 2) 15 C d_Lc_isLevelValue_2 (by decide) (fun hc => ?_) (fun hc => ?_)
  · have h := h3 hc
    refine q_iconst (pc := 15) (v := 0) C d_Lc_isLevelValue_15 (by decide) ?_
    exact q_zret (pc := 16) C hr d_Lc_isLevelValue_16 bz0 ⟨rfl, h⟩
  have h := h4 hc
  refine q_iload_n (pc := 5) C d_Lc_isLevelValue_5 rfl 0 rfl ?_
  refine q_bipush (pc := 6) (v := 9) C d_Lc_isLevelValue_6 (by decide) ?_
  obtain ⟨h1, h2⟩ := h
  refine q_icmp_gt (pc := 8) 15 C d_Lc_isLevelValue_8 (by decide) (fun hc => ?_) (fun hc => ?_)
  · have h := h1 hc
    refine q_iconst (pc := 15) (v := 0) C d_Lc_isLevelValue_15 (by decide) ?_
    exact q_zret (pc := 16) C hr d_Lc_isLevelValue_16 bz0 ⟨rfl, h⟩
  have h := h2 hc
  refine q_iconst (pc := 11) (v := 1) C d_Lc_isLevelValue_11 (by decide) ?_
  refine q_goto (pc := 12) 16 C d_Lc_isLevelValue_12 (by decide) ?_
  exact q_zret (pc := 16) C hr d_Lc_isLevelValue_16 bz1 ⟨rfl, h⟩
theorem d_Ho_setLevel_0 : decode prog_4_method_9_code 0 = .ok (.aload_n 0, 1) := by decide +kernel
theorem d_Ho_setLevel_1 : decode prog_4_method_9_code 1 = .ok (.getfield 18, 3) := by decide +kernel
theorem d_Ho_setLevel_4 : decode prog_4_method_9_code 4 = .ok (.iconst 3, 1) := by decide +kernel
theorem d_Ho_setLevel_5 : decode prog_4_method_9_code 5 = .ok (.iload_n 1, 1) := by decide +kernel
theorem d_Ho_setLevel_6 : decode prog_4_method_9_code 6 = .ok (.imul, 1) := by decide +kernel
theorem d_Ho_setLevel_7 : decode prog_4_method_9_code 7 = .ok (.iload_n 2, 1) := by decide +kernel
theorem d_Ho_setLevel_8 : decode prog_4_method_9_code 8 = .ok (.iadd, 1) := by decide +kernel
theorem d_Ho_setLevel_9 : decode prog_4_method_9_code 9 = .ok (.iload_n 3, 1) := by decide +kernel
theorem d_Ho_setLevel_10 : decode prog_4_method_9_code 10 = .ok (.iastore, 1) := by decide +kernel
theorem d_Ho_setLevel_11 : decode prog_4_method_9_code 11 = .ok (.return_, 1) := by decide +kernel
abbrev y_Ho_setLevel : MethodName := ⟨"LoadCycles$House", "setLevel", "(III)V"⟩
theorem mi_Ho_setLevel : miV y_Ho_setLevel prog_4_method_9_code 4 none 3 := ⟨wd_335, wd_336, wd_66, wd_337, by decide, by decide, by decide +kernel⟩
def w_Ho_setLevel (o : Nat) (x1 : Int32) (x2 : Int32) (x3 : Int32) (σ : Sg) (K : Sg → Prop) : Prop :=
  (vp_in (((3 : Int32) * x1) + x2) 12 ∧ (∀ τ10 : Sg, τ10 = s2 σ (o + 3) (((3 : Int32) * x1) + x2).toNatClampNeg x3 → K τ10))
set_option maxHeartbeats 4000000 in
theorem m_Ho_setLevel {Y : Yx} {o : Nat} {x1 : Int32} {x2 : Int32} {x3 : Int32} {σ : Sg} {K : Sg → Prop} (hY : YD Y) (ho : kd o = 2) (h : w_Ho_setLevel o x1 x2 x3 σ K) : MetV Y y_Ho_setLevel prog_4_method_9_code 4 0 0 [.ref (ya Y o), .int x1, .int x2, .int x3] σ K := by
  refine met_V [(0, .ref (ya Y o)), (1, .int x1), (2, .int x2), (3, .int x3)] hY (by decide) (Nat.le_of_ble_eq_true rfl) rfl (fun X C hr => ?_)
  unfold w_Ho_setLevel at h
  refine q_aload_n (pc := 0) C d_Ho_setLevel_0 rfl 0 rfl ?_
  refine q_get (pc := 1) (c := o) (ci := 2) (k := 2) (v := .ref (ya Y (o + 3))) C ho (by decide) (by decide) wd_96 rfl d_Ho_setLevel_1 ?_
  refine q_iconst (pc := 4) (v := 3) C d_Ho_setLevel_4 (by decide) ?_
  refine q_iload_n (pc := 5) C d_Ho_setLevel_5 rfl 1 rfl ?_
  refine q_imul (pc := 6) C d_Ho_setLevel_6 ?_
  refine q_iload_n (pc := 7) C d_Ho_setLevel_7 rfl 2 rfl ?_
  refine q_iadd (pc := 8) C d_Ho_setLevel_8 ?_
  refine q_iload_n (pc := 9) C d_Ho_setLevel_9 rfl 3 rfl ?_
  obtain ⟨h1, h⟩ := h
  refine q_iast (pc := 10) (c := (o + 3)) C (k2_3 ho) h1 d_Ho_setLevel_10 ?_
  refine q_nms (fun τ10 eτ10 => ?_)
  replace h := h τ10 eτ10
  exact q_vret (pc := 11) C hr d_Ho_setLevel_11 h
theorem d_Ho_addLevel_0 : decode prog_4_method_7_code 0 = .ok (.aload_n 0, 1) := by decide +kernel
theorem d_Ho_addLevel_1 : decode prog_4_method_7_code 1 = .ok (.getfield 30, 3) := by decide +kernel
theorem d_Ho_addLevel_4 : decode prog_4_method_7_code 4 = .ok (.iconst 1, 1) := by decide +kernel
theorem d_Ho_addLevel_5 : decode prog_4_method_7_code 5 = .ok (.isub, 1) := by decide +kernel
theorem d_Ho_addLevel_6 : decode prog_4_method_7_code 6 = .ok (.istore_n 2, 1) := by decide +kernel
theorem d_Ho_addLevel_7 : decode prog_4_method_7_code 7 = .ok (.iload_n 2, 1) := by decide +kernel
theorem d_Ho_addLevel_8 : decode prog_4_method_7_code 8 = .ok (.ifCond .lt 13, 3) := by decide +kernel
theorem d_Ho_addLevel_11 : decode prog_4_method_7_code 11 = .ok (.aload_n 0, 1) := by decide +kernel
theorem d_Ho_addLevel_12 : decode prog_4_method_7_code 12 = .ok (.getfield 15, 3) := by decide +kernel
theorem d_Ho_addLevel_15 : decode prog_4_method_7_code 15 = .ok (.iload_n 2, 1) := by decide +kernel
theorem d_Ho_addLevel_16 : decode prog_4_method_7_code 16 = .ok (.iaload, 1) := by decide +kernel
theorem d_Ho_addLevel_17 : decode prog_4_method_7_code 17 = .ok (.iconst 3, 1) := by decide +kernel
theorem d_Ho_addLevel_18 : decode prog_4_method_7_code 18 = .ok (.if_icmp .lt 5, 3) := by decide +kernel
theorem d_Ho_addLevel_21 : decode prog_4_method_7_code 21 = .ok (.iconst 0, 1) := by decide +kernel
theorem d_Ho_addLevel_22 : decode prog_4_method_7_code 22 = .ok (.ireturn, 1) := by decide +kernel
theorem d_Ho_addLevel_23 : decode prog_4_method_7_code 23 = .ok (.aload_n 0, 1) := by decide +kernel
theorem d_Ho_addLevel_24 : decode prog_4_method_7_code 24 = .ok (.getfield 15, 3) := by decide +kernel
theorem d_Ho_addLevel_27 : decode prog_4_method_7_code 27 = .ok (.iload_n 2, 1) := by decide +kernel
theorem d_Ho_addLevel_28 : decode prog_4_method_7_code 28 = .ok (.dup2, 1) := by decide +kernel
theorem d_Ho_addLevel_29 : decode prog_4_method_7_code 29 = .ok (.iaload, 1) := by decide +kernel
theorem d_Ho_addLevel_30 : decode prog_4_method_7_code 30 = .ok (.iconst 1, 1) := by decide +kernel
theorem d_Ho_addLevel_31 : decode prog_4_method_7_code 31 = .ok (.iadd, 1) := by decide +kernel
theorem d_Ho_addLevel_32 : decode prog_4_method_7_code 32 = .ok (.iastore, 1) := by decide +kernel
theorem d_Ho_addLevel_33 : decode prog_4_method_7_code 33 = .ok (.aload_n 0, 1) := by decide +kernel
theorem d_Ho_addLevel_34 : decode prog_4_method_7_code 34 = .ok (.iload_n 2, 1) := by decide +kernel
theorem d_Ho_addLevel_35 : decode prog_4_method_7_code 35 = .ok (.aload_n 0, 1) := by decide +kernel
theorem d_Ho_addLevel_36 : decode prog_4_method_7_code 36 = .ok (.getfield 15, 3) := by decide +kernel
theorem d_Ho_addLevel_39 : decode prog_4_method_7_code 39 = .ok (.iload_n 2, 1) := by decide +kernel
theorem d_Ho_addLevel_40 : decode prog_4_method_7_code 40 = .ok (.iaload, 1) := by decide +kernel
theorem d_Ho_addLevel_41 : decode prog_4_method_7_code 41 = .ok (.iconst 1, 1) := by decide +kernel
theorem d_Ho_addLevel_42 : decode prog_4_method_7_code 42 = .ok (.isub, 1) := by decide +kernel
theorem d_Ho_addLevel_43 : decode prog_4_method_7_code 43 = .ok (.iload_n 1, 1) := by decide +kernel
theorem d_Ho_addLevel_44 : decode prog_4_method_7_code 44 = .ok (.invokevirtual 40, 3) := by decide +kernel
theorem d_Ho_addLevel_47 : decode prog_4_method_7_code 47 = .ok (.iconst 1, 1) := by decide +kernel
theorem d_Ho_addLevel_48 : decode prog_4_method_7_code 48 = .ok (.ireturn, 1) := by decide +kernel
abbrev y_Ho_addLevel : MethodName := ⟨"LoadCycles$House", "addLevel", "(I)Z"⟩
theorem mi_Ho_addLevel : miV y_Ho_addLevel prog_4_method_7_code 3 (some .boolean) 1 := ⟨wd_331, wd_332, wd_66, wd_333, by decide, by decide, by decide +kernel⟩
def w_Ho_addLevel (o : Nat) (x1 : Int32) (σ : Sg) (K : Int32 → Sg → Prop) : Prop :=
  (∀ y2_6 : Int32, y2_6 = ((σ o 4) - (1 : Int32)) → ((y2_6 < 0 → K (0 : Int32) σ) ∧ (¬ y2_6 < 0 → (vp_in y2_6 4 ∧ (((σ (o + 2) y2_6.toNatClampNeg) < (3 : Int32) → (vp_in y2_6 4 ∧ (vp_in y2_6 4 ∧ (∀ τ32 : Sg, τ32 = s2 σ (o + 2) y2_6.toNatClampNeg ((σ (o + 2) y2_6.toNatClampNeg) + (1 : Int32)) → (vp_in y2_6 4 ∧ w_Ho_setLevel o y2_6 ((τ32 (o + 2) y2_6.toNatClampNeg) - (1 : Int32)) x1 τ32 (fun τ44 => K (1 : Int32) τ44)))))) ∧ (¬ (σ (o + 2) y2_6.toNatClampNeg) < (3 : Int32) → K (0 : Int32) σ))))))
set_option maxHeartbeats 4000000 in
theorem m_Ho_addLevel {Y : Yx} {o : Nat} {x1 : Int32} {σ : Sg} {K : Int32 → Sg → Prop} (hY : YD Y) (ho : kd o = 2) (h : w_Ho_addLevel o x1 σ K) : MetI Y y_Ho_addLevel prog_4_method_7_code 3 (.boolean) 1 23 [.ref (ya Y o), .int x1] σ K := by
  refine met_I [(0, .ref (ya Y o)), (1, .int x1)] hY (by decide) (Nat.le_of_ble_eq_true rfl) rfl (fun X C hr => ?_)
  unfold w_Ho_addLevel at h
  refine q_aload_n (pc := 0) C d_Ho_addLevel_0 rfl 0 rfl ?_
  refine q_get (pc := 1) (c := o) (ci := 2) (k := 4) (v := .int (σ o 4)) C ho (by decide) (by decide) wd_102 rfl d_Ho_addLevel_1 ?_
  refine q_iconst (pc := 4) (v := 1) C d_Ho_addLevel_4 (by decide) ?_
  refine q_isub (pc := 5) C d_Ho_addLevel_5 ?_
  refine q_nmi (fun y2_6 ey2_6 => ?_)
  replace h := h y2_6 ey2_6
  refine q_istore_n (pc := 6) [(2, .int y2_6), (0, .ref (ya Y o)), (1, .int x1)] C d_Ho_addLevel_6 rfl (by decide) rfl ?_
  refine q_iload_n (pc := 7) C d_Ho_addLevel_7 rfl 0 rfl ?_
  obtain ⟨h7, h8⟩ := h
  refine q_if_lt (pc := 8) 21 C d_Ho_addLevel_8 (by decide) (fun hc => ?_) (fun hc => ?_)
  · have h := h7 hc
    refine q_iconst (pc := 21) (v := 0) C d_Ho_addLevel_21 (by decide) ?_
    exact q_zret (pc := 22) C hr d_Ho_addLevel_22 bz0 h
  have h := h8 hc
  refine q_aload_n (pc := 11) C d_Ho_addLevel_11 rfl 1 rfl ?_
  refine q_get (pc := 12) (c := o) (ci := 2) (k := 1) (v := .ref (ya Y (o + 2))) C ho (by decide) (by decide) wd_93 rfl d_Ho_addLevel_12 ?_
  refine q_iload_n (pc := 15) C d_Ho_addLevel_15 rfl 0 rfl ?_
  obtain ⟨h1, h⟩ := h
  refine q_iald (pc := 16) (c := (o + 2)) C (k2_2 ho) h1 d_Ho_addLevel_16 ?_
  refine q_iconst (pc := 17) (v := 3) C d_Ho_addLevel_17 (by decide) ?_
  obtain ⟨h5, h6⟩ := h
  refine q_icmp_lt (pc := 18) 23 C d_Ho_addLevel_18 (by decide) (fun hc => ?_) (fun hc => ?_)
  · have h := h5 hc
    refine q_aload_n (pc := 23) C d_Ho_addLevel_23 rfl 1 rfl ?_
    refine q_get (pc := 24) (c := o) (ci := 2) (k := 1) (v := .ref (ya Y (o + 2))) C ho (by decide) (by decide) wd_93 rfl d_Ho_addLevel_24 ?_
    refine q_iload_n (pc := 27) C d_Ho_addLevel_27 rfl 0 rfl ?_
    refine q_dup2 (pc := 28) C d_Ho_addLevel_28 rfl rfl ?_
    obtain ⟨h2, h⟩ := h
    refine q_iald (pc := 29) (c := (o + 2)) C (k2_2 ho) h2 d_Ho_addLevel_29 ?_
    refine q_iconst (pc := 30) (v := 1) C d_Ho_addLevel_30 (by decide) ?_
    refine q_iadd (pc := 31) C d_Ho_addLevel_31 ?_
    obtain ⟨h3, h⟩ := h
    refine q_iast (pc := 32) (c := (o + 2)) C (k2_2 ho) h3 d_Ho_addLevel_32 ?_
    refine q_nms (fun τ32 eτ32 => ?_)
    replace h := h τ32 eτ32
    refine q_aload_n (pc := 33) C d_Ho_addLevel_33 rfl 1 rfl ?_
    refine q_iload_n (pc := 34) C d_Ho_addLevel_34 rfl 0 rfl ?_
    refine q_aload_n (pc := 35) C d_Ho_addLevel_35 rfl 1 rfl ?_
    refine q_get (pc := 36) (c := o) (ci := 2) (k := 1) (v := .ref (ya Y (o + 2))) C ho (by decide) (by decide) wd_93 rfl d_Ho_addLevel_36 ?_
    refine q_iload_n (pc := 39) C d_Ho_addLevel_39 rfl 0 rfl ?_
    obtain ⟨h4, h⟩ := h
    refine q_iald (pc := 40) (c := (o + 2)) C (k2_2 ho) h4 d_Ho_addLevel_40 ?_
    refine q_iconst (pc := 41) (v := 1) C d_Ho_addLevel_41 (by decide) ?_
    refine q_isub (pc := 42) C d_Ho_addLevel_42 ?_
    refine q_iload_n (pc := 43) C d_Ho_addLevel_43 rfl 2 rfl ?_
    refine q_callVV (pc := 44) (st := []) (d := o) C (m_Ho_setLevel hY ho h) mi_Ho_setLevel ho (by decide) rfl wd_334 rfl rfl (Nat.le_of_ble_eq_true rfl) (by decide) (by decide) d_Ho_addLevel_44 (fun τ44 h => ?_)
    refine q_iconst (pc := 47) (v := 1) C d_Ho_addLevel_47 (by decide) ?_
    exact q_zret (pc := 48) C hr d_Ho_addLevel_48 bz1 h
  have h := h6 hc
  refine q_iconst (pc := 21) (v := 0) C d_Ho_addLevel_21 (by decide) ?_
  exact q_zret (pc := 22) C hr d_Ho_addLevel_22 bz0 h
theorem d_Tr_takesLevel_0 : decode prog_6_method_7_code 0 = .ok (.aload_n 0, 1) := by decide +kernel
theorem d_Tr_takesLevel_1 : decode prog_6_method_7_code 1 = .ok (.iconst 4, 1) := by decide +kernel
theorem d_Tr_takesLevel_2 : decode prog_6_method_7_code 2 = .ok (.putfield 22, 3) := by decide +kernel
theorem d_Tr_takesLevel_5 : decode prog_6_method_7_code 5 = .ok (.iload_n 1, 1) := by decide +kernel
theorem d_Tr_takesLevel_6 : decode prog_6_method_7_code 6 = .ok (.bipush 48, 2) := by decide +kernel
theorem d_Tr_takesLevel_8 : decode prog_6_method_7_code 8 = .ok (.isub, 1) := by decide +kernel
theorem d_Tr_takesLevel_9 : decode prog_6_method_7_code 9 = .ok (.invokestatic 50, 3) := by decide +kernel
theorem d_Tr_takesLevel_12 : decode prog_6_method_7_code 12 = .ok (.ifCond .eq 21, 3) := by decide +kernel
theorem d_Tr_takesLevel_15 : decode prog_6_method_7_code 15 = .ok (.aload_n 0, 1) := by decide +kernel
theorem d_Tr_takesLevel_16 : decode prog_6_method_7_code 16 = .ok (.getfield 12, 3) := by decide +kernel
theorem d_Tr_takesLevel_19 : decode prog_6_method_7_code 19 = .ok (.iload_n 1, 1) := by decide +kernel
theorem d_Tr_takesLevel_20 : decode prog_6_method_7_code 20 = .ok (.bipush 48, 2) := by decide +kernel
theorem d_Tr_takesLevel_22 : decode prog_6_method_7_code 22 = .ok (.isub, 1) := by decide +kernel
theorem d_Tr_takesLevel_23 : decode prog_6_method_7_code 23 = .ok (.invokevirtual 53, 3) := by decide +kernel
theorem d_Tr_takesLevel_26 : decode prog_6_method_7_code 26 = .ok (.ifCond .eq 7, 3) := by decide +kernel
theorem d_Tr_takesLevel_29 : decode prog_6_method_7_code 29 = .ok (.iconst 1, 1) := by decide +kernel
theorem d_Tr_takesLevel_30 : decode prog_6_method_7_code 30 = .ok (.goto 4, 3) := by decide +kernel
theorem d_Tr_takesLevel_33 : decode prog_6_method_7_code 33 = .ok (.iconst 0, 1) := by decide +kernel
theorem d_Tr_takesLevel_34 : decode prog_6_method_7_code 34 = .ok (.ireturn, 1) := by decide +kernel
abbrev y_Tr_takesLevel : MethodName := ⟨"LoadCycles$TextReader", "takesLevel", "(I)Z"⟩
theorem mi_Tr_takesLevel : miV y_Tr_takesLevel prog_6_method_7_code 2 (some .boolean) 1 := ⟨wd_325, wd_5, wd_69, wd_326, by decide, by decide, by decide +kernel⟩
def w_Tr_takesLevel (x1 : Int32) (σ : Sg) (K : Int32 → Sg → Prop) : Prop :=
  (∀ τ2 : Sg, τ2 = s2 σ 28 1 (4 : Int32) → w_Lc_isLevelValue (x1 - (48 : Int32)) τ2 (fun u9 => ((u9 = 0 → K (0 : Int32) τ2) ∧ (¬ u9 = 0 → w_Ho_addLevel 11 (x1 - (48 : Int32)) τ2 (fun u23 τ23 => ((u23 = 0 → K (0 : Int32) τ23) ∧ (¬ u23 = 0 → K (1 : Int32) τ23)))))))
set_option maxHeartbeats 4000000 in
theorem m_Tr_takesLevel {Y : Yx} {x1 : Int32} {σ : Sg} {K : Int32 → Sg → Prop} (hY : YD Y)  (h : w_Tr_takesLevel x1 σ K) : MetI Y y_Tr_takesLevel prog_6_method_7_code 2 (.boolean) 2 45 [.ref (ya Y 28), .int x1] σ K := by
  refine met_I [(0, .ref (ya Y 28)), (1, .int x1)] hY (by decide) (Nat.le_of_ble_eq_true rfl) rfl (fun X C hr => ?_)
  unfold w_Tr_takesLevel at h
  refine q_aload_n (pc := 0) C d_Tr_takesLevel_0 rfl 0 rfl ?_
  refine q_iconst (pc := 1) (v := 4) C d_Tr_takesLevel_1 (by decide) ?_
  refine q_put (pc := 2) (c := 28) (ci := 4) (k := 1) C rfl (by decide) (by decide) wd_190 rfl rfl rfl fs_4_1 d_Tr_takesLevel_2 ?_
  refine q_nms (fun τ2 eτ2 => ?_)
  replace h := h τ2 eτ2
  refine q_iload_n (pc := 5) C d_Tr_takesLevel_5 rfl 1 rfl ?_
  refine q_bipush (pc := 6) (v := 48) C d_Tr_takesLevel_6 (by decide) ?_
  refine q_isub (pc := 8) C d_Tr_takesLevel_8 ?_
  refine q_callNIr (pc := 9) (st := []) C (m_Lc_isLevelValue hY h) mi_Lc_isLevelValue rfl rfl rfl (Nat.le_of_ble_eq_true rfl) (by decide) (by decide) d_Tr_takesLevel_9 (fun u9 h => ?_)
  obtain ⟨h3, h4⟩ := h
  refine q_if_eq (pc := 12) 33 C d_Tr_takesLevel_12 (by decide) (fun hc => ?_) (fun hc => ?_)
  · have h := h3 hc
    refine q_iconst (pc := 33) (v := 0) C d_Tr_takesLevel_33 (by decide) ?_
    exact q_zret (pc := 34) C hr d_Tr_takesLevel_34 bz0 h
  have h := h4 hc
  refine q_aload_n (pc := 15) C d_Tr_takesLevel_15 rfl 0 rfl ?_
  refine q_get (pc := 16) (c := 28) (ci := 4) (k := 0) (v := .ref (ya Y 11)) C rfl (by decide) (by decide) wd_188 rfl d_Tr_takesLevel_16 ?_
  refine q_iload_n (pc := 19) C d_Tr_takesLevel_19 rfl 1 rfl ?_
  refine q_bipush (pc := 20) (v := 48) C d_Tr_takesLevel_20 (by decide) ?_
  refine q_isub (pc := 22) C d_Tr_takesLevel_22 ?_
  refine q_callVI (pc := 23) (st := []) (d := 11) C (m_Ho_addLevel hY rfl h) mi_Ho_addLevel rfl (by decide) rfl wd_330 rfl rfl (Nat.le_of_ble_eq_true rfl) (by decide) (by decide) d_Tr_takesLevel_23 (fun u23 τ23 h => ?_)
  obtain ⟨h1, h2⟩ := h
  refine q_if_eq (pc := 26) 33 C d_Tr_takesLevel_26 (by decide) (fun hc => ?_) (fun hc => ?_)
  · have h := h1 hc
    refine q_iconst (pc := 33) (v := 0) C d_Tr_takesLevel_33 (by decide) ?_
    exact q_zret (pc := 34) C hr d_Tr_takesLevel_34 bz0 h
  have h := h2 hc
  refine q_iconst (pc := 29) (v := 1) C d_Tr_takesLevel_29 (by decide) ?_
  refine q_goto (pc := 30) 34 C d_Tr_takesLevel_30 (by decide) ?_
  exact q_zret (pc := 34) C hr d_Tr_takesLevel_34 bz1 h
theorem d_Tr_goesOn_0 : decode prog_6_method_3_code 0 = .ok (.aload_n 0, 1) := by decide +kernel
theorem d_Tr_goesOn_1 : decode prog_6_method_3_code 1 = .ok (.getfield 22, 3) := by decide +kernel
theorem d_Tr_goesOn_4 : decode prog_6_method_3_code 4 = .ok (.tableswitch 56 0 3 #[32, 38, 44, 50], 32) := by decide +kernel
theorem d_Tr_goesOn_36 : decode prog_6_method_3_code 36 = .ok (.aload_n 0, 1) := by decide +kernel
theorem d_Tr_goesOn_37 : decode prog_6_method_3_code 37 = .ok (.iload_n 1, 1) := by decide +kernel
theorem d_Tr_goesOn_38 : decode prog_6_method_3_code 38 = .ok (.invokevirtual 35, 3) := by decide +kernel
theorem d_Tr_goesOn_41 : decode prog_6_method_3_code 41 = .ok (.ireturn, 1) := by decide +kernel
theorem d_Tr_goesOn_42 : decode prog_6_method_3_code 42 = .ok (.aload_n 0, 1) := by decide +kernel
theorem d_Tr_goesOn_43 : decode prog_6_method_3_code 43 = .ok (.iload_n 1, 1) := by decide +kernel
theorem d_Tr_goesOn_44 : decode prog_6_method_3_code 44 = .ok (.invokevirtual 38, 3) := by decide +kernel
theorem d_Tr_goesOn_47 : decode prog_6_method_3_code 47 = .ok (.ireturn, 1) := by decide +kernel
theorem d_Tr_goesOn_48 : decode prog_6_method_3_code 48 = .ok (.aload_n 0, 1) := by decide +kernel
theorem d_Tr_goesOn_49 : decode prog_6_method_3_code 49 = .ok (.iload_n 1, 1) := by decide +kernel
theorem d_Tr_goesOn_50 : decode prog_6_method_3_code 50 = .ok (.invokevirtual 41, 3) := by decide +kernel
theorem d_Tr_goesOn_53 : decode prog_6_method_3_code 53 = .ok (.ireturn, 1) := by decide +kernel
theorem d_Tr_goesOn_54 : decode prog_6_method_3_code 54 = .ok (.aload_n 0, 1) := by decide +kernel
theorem d_Tr_goesOn_55 : decode prog_6_method_3_code 55 = .ok (.iload_n 1, 1) := by decide +kernel
theorem d_Tr_goesOn_56 : decode prog_6_method_3_code 56 = .ok (.invokevirtual 44, 3) := by decide +kernel
theorem d_Tr_goesOn_59 : decode prog_6_method_3_code 59 = .ok (.ireturn, 1) := by decide +kernel
theorem d_Tr_goesOn_60 : decode prog_6_method_3_code 60 = .ok (.aload_n 0, 1) := by decide +kernel
theorem d_Tr_goesOn_61 : decode prog_6_method_3_code 61 = .ok (.iload_n 1, 1) := by decide +kernel
theorem d_Tr_goesOn_62 : decode prog_6_method_3_code 62 = .ok (.invokevirtual 44, 3) := by decide +kernel
theorem d_Tr_goesOn_65 : decode prog_6_method_3_code 65 = .ok (.ifCond .ne 11, 3) := by decide +kernel
theorem d_Tr_goesOn_68 : decode prog_6_method_3_code 68 = .ok (.aload_n 0, 1) := by decide +kernel
theorem d_Tr_goesOn_69 : decode prog_6_method_3_code 69 = .ok (.iload_n 1, 1) := by decide +kernel
theorem d_Tr_goesOn_70 : decode prog_6_method_3_code 70 = .ok (.invokevirtual 38, 3) := by decide +kernel
theorem d_Tr_goesOn_73 : decode prog_6_method_3_code 73 = .ok (.ifCond .eq 7, 3) := by decide +kernel
theorem d_Tr_goesOn_76 : decode prog_6_method_3_code 76 = .ok (.iconst 1, 1) := by decide +kernel
theorem d_Tr_goesOn_77 : decode prog_6_method_3_code 77 = .ok (.goto 4, 3) := by decide +kernel
theorem d_Tr_goesOn_80 : decode prog_6_method_3_code 80 = .ok (.iconst 0, 1) := by decide +kernel
theorem d_Tr_goesOn_81 : decode prog_6_method_3_code 81 = .ok (.ireturn, 1) := by decide +kernel
abbrev y_Tr_goesOn : MethodName := ⟨"LoadCycles$TextReader", "goesOn", "(I)Z"⟩
theorem mi_Tr_goesOn : miV y_Tr_goesOn prog_6_method_3_code 2 (some .boolean) 1 := ⟨wd_305, wd_1, wd_69, wd_306, by decide, by decide, by decide +kernel⟩
def w_Tr_goesOn (x1 : Int32) (σ : Sg) (K : Int32 → Sg → Prop) : Prop :=
  (((σ 28 1) = (0 : Int32) → w_Tr_takesOpening x1 σ (fun u38 τ38 => (bz u38 ∧ K u38 τ38))) ∧ ((σ 28 1) = (1 : Int32) → w_Tr_takesMark x1 σ (fun u44 τ44 => (bz u44 ∧ K u44 τ44))) ∧ ((σ 28 1) = (2 : Int32) → w_Tr_takesKind x1 σ (fun u50 τ50 => (bz u50 ∧ K u50 τ50))) ∧ ((σ 28 1) = (3 : Int32) → w_Tr_takesLevel x1 σ (fun u56 τ56 => (bz u56 ∧ K u56 τ56))) ∧ (¬ (σ 28 1) = (0 : Int32) → ¬ (σ 28 1) = (1 : Int32) → ¬ (σ 28 1) = (2 : Int32) → ¬ (σ 28 1) = (3 : Int32) → w_Tr_takesLevel x1 σ (fun u62 τ62 => ((¬ u62 = 0 → K (1 : Int32) τ62) ∧ (u62 = 0 → w_Tr_takesMark x1 τ62 (fun u70 τ70 => ((u70 = 0 → K (0 : Int32) τ70) ∧ (¬ u70 = 0 → K (1 : Int32) τ70))))))))
set_option maxHeartbeats 4000000 in
theorem m_Tr_goesOn {Y : Yx} {x1 : Int32} {σ : Sg} {K : Int32 → Sg → Prop} (hY : YD Y)  (h : w_Tr_goesOn x1 σ K) : MetI Y y_Tr_goesOn prog_6_method_3_code 2 (.boolean) 3 66 [.ref (ya Y 28), .int x1] σ K := by
  refine met_I [(0, .ref (ya Y 28)), (1, .int x1)] hY (by decide) (Nat.le_of_ble_eq_true rfl) rfl (fun X C hr => ?_)
  unfold w_Tr_goesOn at h
  refine q_aload_n (pc := 0) C d_Tr_goesOn_0 rfl 0 rfl ?_
  refine q_get (pc := 1) (c := 28) (ci := 4) (k := 1) (v := .int (σ 28 1)) C rfl (by decide) (by decide) wd_190 rfl d_Tr_goesOn_1 ?_
  obtain ⟨h3, h6, h9, h12, h17⟩ := h
  by_cases h2 : (σ 28 1) = (0 : Int32)
  · refine q_tableK (pc := 4) 36 (k := 0) (off := 32) C h2 (by decide) d_Tr_goesOn_4 (by decide) (by decide) (by decide) (by decide) ?_
    have h := h3 h2
    refine q_aload_n (pc := 36) C d_Tr_goesOn_36 rfl 0 rfl ?_
    refine q_iload_n (pc := 37) C d_Tr_goesOn_37 rfl 1 rfl ?_
    refine q_callVI (pc := 38) (st := []) (d := 28) C (m_Tr_takesOpening hY h) mi_Tr_takesOpening rfl (by decide) rfl wd_307 rfl rfl (Nat.le_of_ble_eq_true rfl) (by decide) (by decide) d_Tr_goesOn_38 (fun u38 τ38 h => ?_)
    obtain ⟨h1, h⟩ := h
    exact q_zret (pc := 41) C hr d_Tr_goesOn_41 h1 h
  by_cases h5 : (σ 28 1) = (1 : Int32)
  · refine q_tableK (pc := 4) 42 (k := 1) (off := 38) C h5 (by decide) d_Tr_goesOn_4 (by decide) (by decide) (by decide) (by decide) ?_
    have h := h6 h5
    refine q_aload_n (pc := 42) C d_Tr_goesOn_42 rfl 0 rfl ?_
    refine q_iload_n (pc := 43) C d_Tr_goesOn_43 rfl 1 rfl ?_
    refine q_callVI (pc := 44) (st := []) (d := 28) C (m_Tr_takesMark hY h) mi_Tr_takesMark rfl (by decide) rfl wd_311 rfl rfl (Nat.le_of_ble_eq_true rfl) (by decide) (by decide) d_Tr_goesOn_44 (fun u44 τ44 h => ?_)
    obtain ⟨h4, h⟩ := h
    exact q_zret (pc := 47) C hr d_Tr_goesOn_47 h4 h
  by_cases h8 : (σ 28 1) = (2 : Int32)
  · refine q_tableK (pc := 4) 48 (k := 2) (off := 44) C h8 (by decide) d_Tr_goesOn_4 (by decide) (by decide) (by decide) (by decide) ?_
    have h := h9 h8
    refine q_aload_n (pc := 48) C d_Tr_goesOn_48 rfl 0 rfl ?_
    refine q_iload_n (pc := 49) C d_Tr_goesOn_49 rfl 1 rfl ?_
    refine q_callVI (pc := 50) (st := []) (d := 28) C (m_Tr_takesKind hY h) mi_Tr_takesKind rfl (by decide) rfl wd_315 rfl rfl (Nat.le_of_ble_eq_true rfl) (by decide) (by decide) d_Tr_goesOn_50 (fun u50 τ50 h => ?_)
    obtain ⟨h7, h⟩ := h
    exact q_zret (pc := 53) C hr d_Tr_goesOn_53 h7 h
  by_cases h11 : (σ 28 1) = (3 : Int32)
  · refine q_tableK (pc := 4) 54 (k := 3) (off := 50) C h11 (by decide) d_Tr_goesOn_4 (by decide) (by decide) (by decide) (by decide) ?_
    have h := h12 h11
    refine q_aload_n (pc := 54) C d_Tr_goesOn_54 rfl 0 rfl ?_
    refine q_iload_n (pc := 55) C d_Tr_goesOn_55 rfl 1 rfl ?_
    refine q_callVI (pc := 56) (st := []) (d := 28) C (m_Tr_takesLevel hY h) mi_Tr_takesLevel rfl (by decide) rfl wd_323 rfl rfl (Nat.le_of_ble_eq_true rfl) (by decide) (by decide) d_Tr_goesOn_56 (fun u56 τ56 h => ?_)
    obtain ⟨h10, h⟩ := h
    exact q_zret (pc := 59) C hr d_Tr_goesOn_59 h10 h
  refine q_tableOut (pc := 4) 60 C d_Tr_goesOn_4 (by have g0 := sw_ne (k := 0) rfl h2; have g1 := sw_ne (k := 1) rfl h5; have g2 := sw_ne (k := 2) rfl h8; have g3 := sw_ne (k := 3) rfl h11; omega) (by decide) ?_
  have h := h17 h2 h5 h8 h11
  refine q_aload_n (pc := 60) C d_Tr_goesOn_60 rfl 0 rfl ?_
  refine q_iload_n (pc := 61) C d_Tr_goesOn_61 rfl 1 rfl ?_
  refine q_callVI (pc := 62) (st := []) (d := 28) C (m_Tr_takesLevel hY h) mi_Tr_takesLevel rfl (by decide) rfl wd_323 rfl rfl (Nat.le_of_ble_eq_true rfl) (by decide) (by decide) d_Tr_goesOn_62 (fun u62 τ62 h => ?_)
  obtain ⟨h15, h16⟩ := h
  refine q_if_ne (pc := 65) 76 C d_Tr_goesOn_65 (by decide) (fun hc => ?_) (fun hc => ?_)
  · have h := h15 hc
    refine q_iconst (pc := 76) (v := 1) C d_Tr_goesOn_76 (by decide) ?_
    refine q_goto (pc := 77) 81 C d_Tr_goesOn_77 (by decide) ?_
    exact q_zret (pc := 81) C hr d_Tr_goesOn_81 bz1 h
  have h := h16 hc
  refine q_aload_n (pc := 68) C d_Tr_goesOn_68 rfl 0 rfl ?_
  refine q_iload_n (pc := 69) C d_Tr_goesOn_69 rfl 1 rfl ?_
  refine q_callVI (pc := 70) (st := []) (d := 28) C (m_Tr_takesMark hY h) mi_Tr_takesMark rfl (by decide) rfl wd_311 rfl rfl (Nat.le_of_ble_eq_true rfl) (by decide) (by decide) d_Tr_goesOn_70 (fun u70 τ70 h => ?_)
  obtain ⟨h13, h14⟩ := h
  refine q_if_eq (pc := 73) 80 C d_Tr_goesOn_73 (by decide) (fun hc => ?_) (fun hc => ?_)
  · have h := h13 hc
    refine q_iconst (pc := 80) (v := 0) C d_Tr_goesOn_80 (by decide) ?_
    exact q_zret (pc := 81) C hr d_Tr_goesOn_81 bz0 h
  have h := h14 hc
  refine q_iconst (pc := 76) (v := 1) C d_Tr_goesOn_76 (by decide) ?_
  refine q_goto (pc := 77) 81 C d_Tr_goesOn_77 (by decide) ?_
  exact q_zret (pc := 81) C hr d_Tr_goesOn_81 bz1 h
theorem d_Tr_firstFault_0 : decode prog_6_method_2_code 0 = .ok (.aload_n 0, 1) := by decide +kernel
theorem d_Tr_firstFault_1 : decode prog_6_method_2_code 1 = .ok (.getfield 12, 3) := by decide +kernel
theorem d_Tr_firstFault_4 : decode prog_6_method_2_code 4 = .ok (.iconst 0, 1) := by decide +kernel
theorem d_Tr_firstFault_5 : decode prog_6_method_2_code 5 = .ok (.putfield 18, 3) := by decide +kernel
theorem d_Tr_firstFault_8 : decode prog_6_method_2_code 8 = .ok (.aload_n 0, 1) := by decide +kernel
theorem d_Tr_firstFault_9 : decode prog_6_method_2_code 9 = .ok (.iconst 0, 1) := by decide +kernel
theorem d_Tr_firstFault_10 : decode prog_6_method_2_code 10 = .ok (.putfield 22, 3) := by decide +kernel
theorem d_Tr_firstFault_13 : decode prog_6_method_2_code 13 = .ok (.iconst 0, 1) := by decide +kernel
theorem d_Tr_firstFault_14 : decode prog_6_method_2_code 14 = .ok (.istore 4, 2) := by decide +kernel
theorem d_Tr_firstFault_16 : decode prog_6_method_2_code 16 = .ok (.iload 4, 2) := by decide +kernel
theorem d_Tr_firstFault_18 : decode prog_6_method_2_code 18 = .ok (.iload_n 3, 1) := by decide +kernel
theorem d_Tr_firstFault_19 : decode prog_6_method_2_code 19 = .ok (.if_icmp .ge 28, 3) := by decide +kernel
theorem d_Tr_firstFault_22 : decode prog_6_method_2_code 22 = .ok (.aload_n 0, 1) := by decide +kernel
theorem d_Tr_firstFault_23 : decode prog_6_method_2_code 23 = .ok (.aload_n 1, 1) := by decide +kernel
theorem d_Tr_firstFault_24 : decode prog_6_method_2_code 24 = .ok (.getfield 25, 3) := by decide +kernel
theorem d_Tr_firstFault_27 : decode prog_6_method_2_code 27 = .ok (.iload_n 2, 1) := by decide +kernel
theorem d_Tr_firstFault_28 : decode prog_6_method_2_code 28 = .ok (.iload 4, 2) := by decide +kernel
theorem d_Tr_firstFault_30 : decode prog_6_method_2_code 30 = .ok (.iadd, 1) := by decide +kernel
theorem d_Tr_firstFault_31 : decode prog_6_method_2_code 31 = .ok (.iaload, 1) := by decide +kernel
theorem d_Tr_firstFault_32 : decode prog_6_method_2_code 32 = .ok (.invokevirtual 31, 3) := by decide +kernel
theorem d_Tr_firstFault_35 : decode prog_6_method_2_code 35 = .ok (.ifCond .ne 6, 3) := by decide +kernel
theorem d_Tr_firstFault_38 : decode prog_6_method_2_code 38 = .ok (.iload 4, 2) := by decide +kernel
theorem d_Tr_firstFault_40 : decode prog_6_method_2_code 40 = .ok (.ireturn, 1) := by decide +kernel
theorem d_Tr_firstFault_41 : decode prog_6_method_2_code 41 = .ok (.iinc 4 1, 3) := by decide +kernel
theorem d_Tr_firstFault_44 : decode prog_6_method_2_code 44 = .ok (.goto (-28), 3) := by decide +kernel
theorem d_Tr_firstFault_47 : decode prog_6_method_2_code 47 = .ok (.aload_n 0, 1) := by decide +kernel
theorem d_Tr_firstFault_48 : decode prog_6_method_2_code 48 = .ok (.getfield 22, 3) := by decide +kernel
theorem d_Tr_firstFault_51 : decode prog_6_method_2_code 51 = .ok (.iconst 4, 1) := by decide +kernel
theorem d_Tr_firstFault_52 : decode prog_6_method_2_code 52 = .ok (.if_icmp .ne 8, 3) := by decide +kernel
theorem d_Tr_firstFault_55 : decode prog_6_method_2_code 55 = .ok (.bipush (-9), 2) := by decide +kernel
theorem d_Tr_firstFault_57 : decode prog_6_method_2_code 57 = .ok (.goto 4, 3) := by decide +kernel
theorem d_Tr_firstFault_60 : decode prog_6_method_2_code 60 = .ok (.iload_n 3, 1) := by decide +kernel
theorem d_Tr_firstFault_61 : decode prog_6_method_2_code 61 = .ok (.ireturn, 1) := by decide +kernel
abbrev y_Tr_firstFault : MethodName := ⟨"LoadCycles$TextReader", "firstFault", "(LLoadCycles$Sheet;II)I"⟩
theorem mi_Tr_firstFault : miV y_Tr_firstFault prog_6_method_2_code 5 (some .int) 3 := ⟨wd_300, wd_301, wd_69, wd_302, by decide, by decide, by decide +kernel⟩
def L_Tr_firstFault_16 (o1 : Nat) (x2 : Int32) (x3 : Int32) (K : Int32 → Sg → Prop) : Nat → Int32 → Sg → Prop
  | 0, _, _ => False
  | n + 1, v4, σ =>
    ((x3 ≤ v4 → ((¬ (σ 28 1) = (4 : Int32) → K x3 σ) ∧ ((σ 28 1) = (4 : Int32) → K (-9 : Int32) σ))) ∧ (¬ x3 ≤ v4 → (vp_in (x2 + v4) 60 ∧ w_Tr_goesOn (σ (o1 + 1) (x2 + v4).toNatClampNeg) σ (fun u32 τ32 => ((¬ u32 = 0 → L_Tr_firstFault_16 o1 x2 x3 K n (v4 + (1 : Int32)) τ32) ∧ (u32 = 0 → K v4 τ32))))))
theorem t_Tr_firstFault_16 {X : Bx} {Y : Yx} {o1 : Nat} {x2 : Int32} {x3 : Int32} {K : Int32 → Sg → Prop}  (hY : YD Y) (C : Cx X Y prog_6_method_2_code 5 "LoadCycles$TextReader" 4 87) (hr : (xh X).sig.returnType = some .int) (ho1 : kd o1 = 3) : ∀ (n : Nat) (v4 : Int32) (σ : Sg), L_Tr_firstFault_16 o1 x2 x3 K n v4 σ → St X Y 5 (QI X Y K) 16 [(0, .ref (ya Y 28)), (1, .ref (ya Y o1)), (2, .int x2), (3, .int x3), (4, .int v4)] [] σ := by
  intro n
  induction n with
  | zero => intro v4 σ h; exact h.elim
  | succ n ih =>
    intro v4 σ h
    unfold L_Tr_firstFault_16 at h
    refine q_iload (pc := 16) C d_Tr_firstFault_16 4 rfl ?_
    refine q_iload_n (pc := 18) C d_Tr_firstFault_18 rfl 3 rfl ?_
    obtain ⟨h6, h7⟩ := h
    refine q_icmp_ge (pc := 19) 47 C d_Tr_firstFault_19 (by decide) (fun hc => ?_) (fun hc => ?_)
    · have h := h6 hc
      refine q_aload_n (pc := 47) C d_Tr_firstFault_47 rfl 0 rfl ?_
      refine q_get (pc := 48) (c := 28) (ci := 4) (k := 1) (v := .int (σ 28 1)) C rfl (by decide) (by decide) wd_190 rfl d_Tr_firstFault_48 ?_
      refine q_iconst (pc := 51) (v := 4) C d_Tr_firstFault_51 (by decide) ?_
      obtain ⟨h1, h2⟩ := h
      refine q_icmp_ne (pc := 52) 60 C d_Tr_firstFault_52 (by decide) (fun hc => ?_) (fun hc => ?_)
      · have h := h1 hc
        refine q_iload_n (pc := 60) C d_Tr_firstFault_60 rfl 3 rfl ?_
        exact q_iret (pc := 61) C hr d_Tr_firstFault_61 h
      have h := h2 hc
      refine q_bipush (pc := 55) (v := -9) C d_Tr_firstFault_55 (by decide) ?_
      refine q_goto (pc := 57) 61 C d_Tr_firstFault_57 (by decide) ?_
      exact q_iret (pc := 61) C hr d_Tr_firstFault_61 h
    have h := h7 hc
    refine q_aload_n (pc := 22) C d_Tr_firstFault_22 rfl 0 rfl ?_
    refine q_aload_n (pc := 23) C d_Tr_firstFault_23 rfl 1 rfl ?_
    refine q_get (pc := 24) (c := o1) (ci := 3) (k := 0) (v := .ref (ya Y (o1 + 1))) C ho1 (by decide) (by decide) wd_218 rfl d_Tr_firstFault_24 ?_
    refine q_iload_n (pc := 27) C d_Tr_firstFault_27 rfl 2 rfl ?_
    refine q_iload (pc := 28) C d_Tr_firstFault_28 4 rfl ?_
    refine q_iadd (pc := 30) C d_Tr_firstFault_30 ?_
    obtain ⟨h3, h⟩ := h
    refine q_iald (pc := 31) (c := (o1 + 1)) C (k3_1 ho1) h3 d_Tr_firstFault_31 ?_
    refine q_callVI (pc := 32) (st := []) (d := 28) C (m_Tr_goesOn hY h) mi_Tr_goesOn rfl (by decide) rfl wd_303 rfl rfl (Nat.le_of_ble_eq_true rfl) (by decide) (by decide) d_Tr_firstFault_32 (fun u32 τ32 h => ?_)
    obtain ⟨h4, h5⟩ := h
    refine q_if_ne (pc := 35) 41 C d_Tr_firstFault_35 (by decide) (fun hc => ?_) (fun hc => ?_)
    · have h := h4 hc
      refine q_iinc (pc := 41) (v4 + (1 : Int32)) [(4, .int (v4 + (1 : Int32))), (0, .ref (ya Y 28)), (1, .ref (ya Y o1)), (2, .int x2), (3, .int x3)] C d_Tr_firstFault_41 4 rfl rfl (by decide) rfl ?_
      refine q_goto (pc := 44) 16 C d_Tr_firstFault_44 (by decide) ?_
      refine q_sub [(0, .ref (ya Y 28)), (1, .ref (ya Y o1)), (2, .int x2), (3, .int x3), (4, .int (v4 + (1 : Int32)))] [1, 2, 3, 4, 0] rfl ?_
      exact ih (v4 + (1 : Int32)) τ32 h
    have h := h5 hc
    refine q_iload (pc := 38) C d_Tr_firstFault_38 4 rfl ?_
    exact q_iret (pc := 40) C hr d_Tr_firstFault_40 h
def w_Tr_firstFault (o1 : Nat) (x2 : Int32) (x3 : Int32) (σ : Sg) (K : Int32 → Sg → Prop) : Prop :=
  (∀ τ5 : Sg, τ5 = s2 σ 11 4 (0 : Int32) → (∀ τ10 : Sg, τ10 = s2 τ5 28 1 (0 : Int32) → (∃ n8 : Nat, L_Tr_firstFault_16 o1 x2 x3 K n8 (0 : Int32) τ10)))
set_option maxHeartbeats 4000000 in
theorem m_Tr_firstFault {Y : Yx} {o1 : Nat} {x2 : Int32} {x3 : Int32} {σ : Sg} {K : Int32 → Sg → Prop} (hY : YD Y) (ho1 : kd o1 = 3) (h : w_Tr_firstFault o1 x2 x3 σ K) : MetI Y y_Tr_firstFault prog_6_method_2_code 5 (.int) 4 87 [.ref (ya Y 28), .ref (ya Y o1), .int x2, .int x3] σ K := by
  refine met_I [(0, .ref (ya Y 28)), (1, .ref (ya Y o1)), (2, .int x2), (3, .int x3)] hY (by decide) (Nat.le_of_ble_eq_true rfl) rfl (fun X C hr => ?_)
  unfold w_Tr_firstFault at h
  refine q_aload_n (pc := 0) C d_Tr_firstFault_0 rfl 0 rfl ?_
  refine q_get (pc := 1) (c := 28) (ci := 4) (k := 0) (v := .ref (ya Y 11)) C rfl (by decide) (by decide) wd_188 rfl d_Tr_firstFault_1 ?_
  refine q_iconst (pc := 4) (v := 0) C d_Tr_firstFault_4 (by decide) ?_
  refine q_put (pc := 5) (c := 11) (ci := 2) (k := 4) C rfl (by decide) (by decide) wd_100 rfl rfl rfl fs_2_4 d_Tr_firstFault_5 ?_
  refine q_nms (fun τ5 eτ5 => ?_)
  replace h := h τ5 eτ5
  refine q_aload_n (pc := 8) C d_Tr_firstFault_8 rfl 0 rfl ?_
  refine q_iconst (pc := 9) (v := 0) C d_Tr_firstFault_9 (by decide) ?_
  refine q_put (pc := 10) (c := 28) (ci := 4) (k := 1) C rfl (by decide) (by decide) wd_190 rfl rfl rfl fs_4_1 d_Tr_firstFault_10 ?_
  refine q_nms (fun τ10 eτ10 => ?_)
  replace h := h τ10 eτ10
  refine q_iconst (pc := 13) (v := 0) C d_Tr_firstFault_13 (by decide) ?_
  refine q_istore (pc := 14) [(4, .int (0 : Int32)), (0, .ref (ya Y 28)), (1, .ref (ya Y o1)), (2, .int x2), (3, .int x3)] C d_Tr_firstFault_14 (by decide) rfl ?_
  obtain ⟨n8, h⟩ := h
  refine q_sub [(0, .ref (ya Y 28)), (1, .ref (ya Y o1)), (2, .int x2), (3, .int x3), (4, .int (0 : Int32))] [1, 2, 3, 4, 0] rfl ?_
  exact t_Tr_firstFault_16 hY C hr ho1 n8 (0 : Int32) τ10 h
theorem d_Ho_become_0 : decode prog_4_method_2_code 0 = .ok (.aload_n 1, 1) := by decide +kernel
theorem d_Ho_become_1 : decode prog_4_method_2_code 1 = .ok (.getfield 9, 3) := by decide +kernel
theorem d_Ho_become_4 : decode prog_4_method_2_code 4 = .ok (.iconst 0, 1) := by decide +kernel
theorem d_Ho_become_5 : decode prog_4_method_2_code 5 = .ok (.aload_n 0, 1) := by decide +kernel
theorem d_Ho_become_6 : decode prog_4_method_2_code 6 = .ok (.getfield 9, 3) := by decide +kernel
theorem d_Ho_become_9 : decode prog_4_method_2_code 9 = .ok (.iconst 0, 1) := by decide +kernel
theorem d_Ho_become_10 : decode prog_4_method_2_code 10 = .ok (.iconst 4, 1) := by decide +kernel
theorem d_Ho_become_11 : decode prog_4_method_2_code 11 = .ok (.invokestatic 24, 3) := by decide +kernel
theorem d_Ho_become_14 : decode prog_4_method_2_code 14 = .ok (.aload_n 1, 1) := by decide +kernel
theorem d_Ho_become_15 : decode prog_4_method_2_code 15 = .ok (.getfield 15, 3) := by decide +kernel
theorem d_Ho_become_18 : decode prog_4_method_2_code 18 = .ok (.iconst 0, 1) := by decide +kernel
theorem d_Ho_become_19 : decode prog_4_method_2_code 19 = .ok (.aload_n 0, 1) := by decide +kernel
theorem d_Ho_become_20 : decode prog_4_method_2_code 20 = .ok (.getfield 15, 3) := by decide +kernel
theorem d_Ho_become_23 : decode prog_4_method_2_code 23 = .ok (.iconst 0, 1) := by decide +kernel
theorem d_Ho_become_24 : decode prog_4_method_2_code 24 = .ok (.iconst 4, 1) := by decide +kernel
theorem d_Ho_become_25 : decode prog_4_method_2_code 25 = .ok (.invokestatic 24, 3) := by decide +kernel
theorem d_Ho_become_28 : decode prog_4_method_2_code 28 = .ok (.aload_n 1, 1) := by decide +kernel
theorem d_Ho_become_29 : decode prog_4_method_2_code 29 = .ok (.getfield 18, 3) := by decide +kernel
theorem d_Ho_become_32 : decode prog_4_method_2_code 32 = .ok (.iconst 0, 1) := by decide +kernel
theorem d_Ho_become_33 : decode prog_4_method_2_code 33 = .ok (.aload_n 0, 1) := by decide +kernel
theorem d_Ho_become_34 : decode prog_4_method_2_code 34 = .ok (.getfield 18, 3) := by decide +kernel
theorem d_Ho_become_37 : decode prog_4_method_2_code 37 = .ok (.iconst 0, 1) := by decide +kernel
theorem d_Ho_become_38 : decode prog_4_method_2_code 38 = .ok (.bipush 12, 2) := by decide +kernel
theorem d_Ho_become_40 : decode prog_4_method_2_code 40 = .ok (.invokestatic 24, 3) := by decide +kernel
theorem d_Ho_become_43 : decode prog_4_method_2_code 43 = .ok (.aload_n 1, 1) := by decide +kernel
theorem d_Ho_become_44 : decode prog_4_method_2_code 44 = .ok (.getfield 21, 3) := by decide +kernel
theorem d_Ho_become_47 : decode prog_4_method_2_code 47 = .ok (.iconst 0, 1) := by decide +kernel
theorem d_Ho_become_48 : decode prog_4_method_2_code 48 = .ok (.aload_n 0, 1) := by decide +kernel
theorem d_Ho_become_49 : decode prog_4_method_2_code 49 = .ok (.getfield 21, 3) := by decide +kernel
theorem d_Ho_become_52 : decode prog_4_method_2_code 52 = .ok (.iconst 0, 1) := by decide +kernel
theorem d_Ho_become_53 : decode prog_4_method_2_code 53 = .ok (.bipush 20, 2) := by decide +kernel
theorem d_Ho_become_55 : decode prog_4_method_2_code 55 = .ok (.invokestatic 24, 3) := by decide +kernel
theorem d_Ho_become_58 : decode prog_4_method_2_code 58 = .ok (.aload_n 0, 1) := by decide +kernel
theorem d_Ho_become_59 : decode prog_4_method_2_code 59 = .ok (.aload_n 1, 1) := by decide +kernel
theorem d_Ho_become_60 : decode prog_4_method_2_code 60 = .ok (.getfield 30, 3) := by decide +kernel
theorem d_Ho_become_63 : decode prog_4_method_2_code 63 = .ok (.putfield 30, 3) := by decide +kernel
theorem d_Ho_become_66 : decode prog_4_method_2_code 66 = .ok (.aload_n 0, 1) := by decide +kernel
theorem d_Ho_become_67 : decode prog_4_method_2_code 67 = .ok (.aload_n 1, 1) := by decide +kernel
theorem d_Ho_become_68 : decode prog_4_method_2_code 68 = .ok (.getfield 34, 3) := by decide +kernel
theorem d_Ho_become_71 : decode prog_4_method_2_code 71 = .ok (.putfield 34, 3) := by decide +kernel
theorem d_Ho_become_74 : decode prog_4_method_2_code 74 = .ok (.aload_n 0, 1) := by decide +kernel
theorem d_Ho_become_75 : decode prog_4_method_2_code 75 = .ok (.aload_n 1, 1) := by decide +kernel
theorem d_Ho_become_76 : decode prog_4_method_2_code 76 = .ok (.getfield 37, 3) := by decide +kernel
theorem d_Ho_become_79 : decode prog_4_method_2_code 79 = .ok (.putfield 37, 3) := by decide +kernel
theorem d_Ho_become_82 : decode prog_4_method_2_code 82 = .ok (.return_, 1) := by decide +kernel
abbrev y_Ho_become : MethodName := ⟨"LoadCycles$House", "become", "(LLoadCycles$House;)V"⟩
theorem mi_Ho_become : miV y_Ho_become prog_4_method_2_code 2 none 1 := ⟨wd_339, wd_340, wd_66, wd_341, by decide, by decide, by decide +kernel⟩
def w_Ho_become (o : Nat) (o1 : Nat) (σ : Sg) (K : Sg → Prop) : Prop :=
  (cpk (0 : Int32) (0 : Int32) (4 : Int32) 4 4 ∧ (∀ τ11 : Sg, τ11 = s1 σ (o + 1) (va_cpy (σ (o1 + 1)) (σ (o + 1)) (0 : Int32).toNatClampNeg (0 : Int32).toNatClampNeg (4 : Int32).toNatClampNeg) → (cpk (0 : Int32) (0 : Int32) (4 : Int32) 4 4 ∧ (∀ τ25 : Sg, τ25 = s1 τ11 (o + 2) (va_cpy (τ11 (o1 + 2)) (τ11 (o + 2)) (0 : Int32).toNatClampNeg (0 : Int32).toNatClampNeg (4 : Int32).toNatClampNeg) → (cpk (0 : Int32) (0 : Int32) (12 : Int32) 12 12 ∧ (∀ τ40 : Sg, τ40 = s1 τ25 (o + 3) (va_cpy (τ25 (o1 + 3)) (τ25 (o + 3)) (0 : Int32).toNatClampNeg (0 : Int32).toNatClampNeg (12 : Int32).toNatClampNeg) → (cpk (0 : Int32) (0 : Int32) (20 : Int32) 20 20 ∧ (∀ τ55 : Sg, τ55 = s1 τ40 (o + 4) (va_cpy (τ40 (o1 + 4)) (τ40 (o + 4)) (0 : Int32).toNatClampNeg (0 : Int32).toNatClampNeg (20 : Int32).toNatClampNeg) → (∀ τ63 : Sg, τ63 = s2 τ55 o 4 (τ55 o1 4) → (∀ τ71 : Sg, τ71 = s2 τ63 o 5 (τ63 o1 5) → (∀ τ79 : Sg, τ79 = s2 τ71 o 6 (τ71 o1 6) → K τ79)))))))))))
set_option maxHeartbeats 4000000 in
theorem m_Ho_become {Y : Yx} {o : Nat} {o1 : Nat} {σ : Sg} {K : Sg → Prop} (hY : YD Y) (ho : kd o = 2) (ho1 : kd o1 = 2) (h : w_Ho_become o o1 σ K) : MetV Y y_Ho_become prog_4_method_2_code 2 1 60 [.ref (ya Y o), .ref (ya Y o1)] σ K := by
  refine met_V [(0, .ref (ya Y o)), (1, .ref (ya Y o1))] hY (by decide) (Nat.le_of_ble_eq_true rfl) rfl (fun X C hr => ?_)
  unfold w_Ho_become at h
  refine q_aload_n (pc := 0) C d_Ho_become_0 rfl 1 rfl ?_
  refine q_get (pc := 1) (c := o1) (ci := 2) (k := 0) (v := .ref (ya Y (o1 + 1))) C ho1 (by decide) (by decide) wd_91 rfl d_Ho_become_1 ?_
  refine q_iconst (pc := 4) (v := 0) C d_Ho_become_4 (by decide) ?_
  refine q_aload_n (pc := 5) C d_Ho_become_5 rfl 0 rfl ?_
  refine q_get (pc := 6) (c := o) (ci := 2) (k := 0) (v := .ref (ya Y (o + 1))) C ho (by decide) (by decide) wd_91 rfl d_Ho_become_6 ?_
  refine q_iconst (pc := 9) (v := 0) C d_Ho_become_9 (by decide) ?_
  refine q_iconst (pc := 10) (v := 4) C d_Ho_become_10 (by decide) ?_
  obtain ⟨h1, h⟩ := h
  refine q_copy (pc := 11) (c0 := (o1 + 1)) (c1 := (o + 1)) (st := []) C (k2_1 ho1) (k2_1 ho) h1 wd_342 wd_344 wd_343 wd_73 (by decide) (by decide) d_Ho_become_11 ?_
  refine q_nms (fun τ11 eτ11 => ?_)
  replace h := h τ11 eτ11
  refine q_aload_n (pc := 14) C d_Ho_become_14 rfl 1 rfl ?_
  refine q_get (pc := 15) (c := o1) (ci := 2) (k := 1) (v := .ref (ya Y (o1 + 2))) C ho1 (by decide) (by decide) wd_93 rfl d_Ho_become_15 ?_
  refine q_iconst (pc := 18) (v := 0) C d_Ho_become_18 (by decide) ?_
  refine q_aload_n (pc := 19) C d_Ho_become_19 rfl 0 rfl ?_
  refine q_get (pc := 20) (c := o) (ci := 2) (k := 1) (v := .ref (ya Y (o + 2))) C ho (by decide) (by decide) wd_93 rfl d_Ho_become_20 ?_
  refine q_iconst (pc := 23) (v := 0) C d_Ho_become_23 (by decide) ?_
  refine q_iconst (pc := 24) (v := 4) C d_Ho_become_24 (by decide) ?_
  obtain ⟨h2, h⟩ := h
  refine q_copy (pc := 25) (c0 := (o1 + 2)) (c1 := (o + 2)) (st := []) C (k2_2 ho1) (k2_2 ho) h2 wd_342 wd_344 wd_343 wd_73 (by decide) (by decide) d_Ho_become_25 ?_
  refine q_nms (fun τ25 eτ25 => ?_)
  replace h := h τ25 eτ25
  refine q_aload_n (pc := 28) C d_Ho_become_28 rfl 1 rfl ?_
  refine q_get (pc := 29) (c := o1) (ci := 2) (k := 2) (v := .ref (ya Y (o1 + 3))) C ho1 (by decide) (by decide) wd_96 rfl d_Ho_become_29 ?_
  refine q_iconst (pc := 32) (v := 0) C d_Ho_become_32 (by decide) ?_
  refine q_aload_n (pc := 33) C d_Ho_become_33 rfl 0 rfl ?_
  refine q_get (pc := 34) (c := o) (ci := 2) (k := 2) (v := .ref (ya Y (o + 3))) C ho (by decide) (by decide) wd_96 rfl d_Ho_become_34 ?_
  refine q_iconst (pc := 37) (v := 0) C d_Ho_become_37 (by decide) ?_
  refine q_bipush (pc := 38) (v := 12) C d_Ho_become_38 (by decide) ?_
  obtain ⟨h3, h⟩ := h
  refine q_copy (pc := 40) (c0 := (o1 + 3)) (c1 := (o + 3)) (st := []) C (k2_3 ho1) (k2_3 ho) h3 wd_342 wd_344 wd_343 wd_73 (by decide) (by decide) d_Ho_become_40 ?_
  refine q_nms (fun τ40 eτ40 => ?_)
  replace h := h τ40 eτ40
  refine q_aload_n (pc := 43) C d_Ho_become_43 rfl 1 rfl ?_
  refine q_get (pc := 44) (c := o1) (ci := 2) (k := 3) (v := .ref (ya Y (o1 + 4))) C ho1 (by decide) (by decide) wd_97 rfl d_Ho_become_44 ?_
  refine q_iconst (pc := 47) (v := 0) C d_Ho_become_47 (by decide) ?_
  refine q_aload_n (pc := 48) C d_Ho_become_48 rfl 0 rfl ?_
  refine q_get (pc := 49) (c := o) (ci := 2) (k := 3) (v := .ref (ya Y (o + 4))) C ho (by decide) (by decide) wd_97 rfl d_Ho_become_49 ?_
  refine q_iconst (pc := 52) (v := 0) C d_Ho_become_52 (by decide) ?_
  refine q_bipush (pc := 53) (v := 20) C d_Ho_become_53 (by decide) ?_
  obtain ⟨h4, h⟩ := h
  refine q_copy (pc := 55) (c0 := (o1 + 4)) (c1 := (o + 4)) (st := []) C (k2_4 ho1) (k2_4 ho) h4 wd_342 wd_344 wd_343 wd_73 (by decide) (by decide) d_Ho_become_55 ?_
  refine q_nms (fun τ55 eτ55 => ?_)
  replace h := h τ55 eτ55
  refine q_aload_n (pc := 58) C d_Ho_become_58 rfl 0 rfl ?_
  refine q_aload_n (pc := 59) C d_Ho_become_59 rfl 1 rfl ?_
  refine q_get (pc := 60) (c := o1) (ci := 2) (k := 4) (v := .int (τ55 o1 4)) C ho1 (by decide) (by decide) wd_102 rfl d_Ho_become_60 ?_
  refine q_put (pc := 63) (c := o) (ci := 2) (k := 4) C ho (by decide) (by decide) wd_102 rfl rfl rfl fs_2_4 d_Ho_become_63 ?_
  refine q_nms (fun τ63 eτ63 => ?_)
  replace h := h τ63 eτ63
  refine q_aload_n (pc := 66) C d_Ho_become_66 rfl 0 rfl ?_
  refine q_aload_n (pc := 67) C d_Ho_become_67 rfl 1 rfl ?_
  refine q_get (pc := 68) (c := o1) (ci := 2) (k := 5) (v := .int (τ63 o1 5)) C ho1 (by decide) (by decide) wd_105 rfl d_Ho_become_68 ?_
  refine q_put (pc := 71) (c := o) (ci := 2) (k := 5) C ho (by decide) (by decide) wd_105 rfl rfl rfl fs_2_5 d_Ho_become_71 ?_
  refine q_nms (fun τ71 eτ71 => ?_)
  replace h := h τ71 eτ71
  refine q_aload_n (pc := 74) C d_Ho_become_74 rfl 0 rfl ?_
  refine q_aload_n (pc := 75) C d_Ho_become_75 rfl 1 rfl ?_
  refine q_get (pc := 76) (c := o1) (ci := 2) (k := 6) (v := .int (τ71 o1 6)) C ho1 (by decide) (by decide) wd_108 rfl d_Ho_become_76 ?_
  refine q_put (pc := 79) (c := o) (ci := 2) (k := 6) C ho (by decide) (by decide) wd_108 rfl rfl rfl fs_2_6 d_Ho_become_79 ?_
  refine q_nms (fun τ79 eτ79 => ?_)
  replace h := h τ79 eτ79
  exact q_vret (pc := 82) C hr d_Ho_become_82 h
theorem d_Gu_forget_0 : decode prog_3_method_2_code 0 = .ok (.iconst 0, 1) := by decide +kernel
theorem d_Gu_forget_1 : decode prog_3_method_2_code 1 = .ok (.istore_n 1, 1) := by decide +kernel
theorem d_Gu_forget_2 : decode prog_3_method_2_code 2 = .ok (.iload_n 1, 1) := by decide +kernel
theorem d_Gu_forget_3 : decode prog_3_method_2_code 3 = .ok (.aload_n 0, 1) := by decide +kernel
theorem d_Gu_forget_4 : decode prog_3_method_2_code 4 = .ok (.getfield 11, 3) := by decide +kernel
theorem d_Gu_forget_7 : decode prog_3_method_2_code 7 = .ok (.arraylength, 1) := by decide +kernel
theorem d_Gu_forget_8 : decode prog_3_method_2_code 8 = .ok (.if_icmp .ge 16, 3) := by decide +kernel
theorem d_Gu_forget_11 : decode prog_3_method_2_code 11 = .ok (.aload_n 0, 1) := by decide +kernel
theorem d_Gu_forget_12 : decode prog_3_method_2_code 12 = .ok (.getfield 11, 3) := by decide +kernel
theorem d_Gu_forget_15 : decode prog_3_method_2_code 15 = .ok (.iload_n 1, 1) := by decide +kernel
theorem d_Gu_forget_16 : decode prog_3_method_2_code 16 = .ok (.iconst 0, 1) := by decide +kernel
theorem d_Gu_forget_17 : decode prog_3_method_2_code 17 = .ok (.bastore, 1) := by decide +kernel
theorem d_Gu_forget_18 : decode prog_3_method_2_code 18 = .ok (.iinc 1 1, 3) := by decide +kernel
theorem d_Gu_forget_21 : decode prog_3_method_2_code 21 = .ok (.goto (-19), 3) := by decide +kernel
theorem d_Gu_forget_24 : decode prog_3_method_2_code 24 = .ok (.return_, 1) := by decide +kernel
abbrev y_Gu_forget : MethodName := ⟨"LoadCycles$Guesses", "forget", "()V"⟩
theorem mi_Gu_forget : miV y_Gu_forget prog_3_method_2_code 2 none 0 := ⟨wd_350, wd_351, wd_70, wd_352, by decide, by decide, by decide +kernel⟩
def L_Gu_forget_2 (K : Sg → Prop) : Nat → Int32 → Sg → Prop
  | 0, _, _ => False
  | n + 1, v1, σ =>
    (((48 : Int32) ≤ v1 → K σ) ∧ (¬ (48 : Int32) ≤ v1 → (vp_in v1 48 ∧ (∀ τ17 : Sg, τ17 = s2 σ 30 v1.toNatClampNeg (0 : Int32) → L_Gu_forget_2 K n (v1 + (1 : Int32)) τ17))))
theorem t_Gu_forget_2 {X : Bx} {Y : Yx}  {K : Sg → Prop}  (hY : YD Y) (C : Cx X Y prog_3_method_2_code 2 "LoadCycles$Guesses" 0 0) (hr : (xh X).sig.returnType = none)  : ∀ (n : Nat) (v1 : Int32) (σ : Sg), L_Gu_forget_2 K n v1 σ → St X Y 2 (QV X Y K) 2 [(0, .ref (ya Y 29)), (1, .int v1)] [] σ := by
  intro n
  induction n with
  | zero => intro v1 σ h; exact h.elim
  | succ n ih =>
    intro v1 σ h
    unfold L_Gu_forget_2 at h
    refine q_iload_n (pc := 2) C d_Gu_forget_2 rfl 1 rfl ?_
    refine q_aload_n (pc := 3) C d_Gu_forget_3 rfl 0 rfl ?_
    refine q_get (pc := 4) (c := 29) (ci := 1) (k := 0) (v := .ref (ya Y 30)) C rfl (by decide) (by decide) wd_202 rfl d_Gu_forget_4 ?_
    refine q_alenZ (pc := 7) (c := 30) (48 : Int32) C ⟨rfl, rfl⟩ rfl d_Gu_forget_7 ?_
    obtain ⟨h2, h3⟩ := h
    refine q_icmp_ge (pc := 8) 24 C d_Gu_forget_8 (by decide) (fun hc => ?_) (fun hc => ?_)
    · have h := h2 hc
      exact q_vret (pc := 24) C hr d_Gu_forget_24 h
    have h := h3 hc
    refine q_aload_n (pc := 11) C d_Gu_forget_11 rfl 0 rfl ?_
    refine q_get (pc := 12) (c := 29) (ci := 1) (k := 0) (v := .ref (ya Y 30)) C rfl (by decide) (by decide) wd_202 rfl d_Gu_forget_12 ?_
    refine q_iload_n (pc := 15) C d_Gu_forget_15 rfl 1 rfl ?_
    refine q_iconst (pc := 16) (v := 0) C d_Gu_forget_16 (by decide) ?_
    obtain ⟨h1, h⟩ := h
    refine q_zast (pc := 17) (c := 30) C ⟨rfl, rfl⟩ h1 rfl d_Gu_forget_17 ?_
    refine q_nms (fun τ17 eτ17 => ?_)
    replace h := h τ17 eτ17
    refine q_iinc (pc := 18) (v1 + (1 : Int32)) [(1, .int (v1 + (1 : Int32))), (0, .ref (ya Y 29))] C d_Gu_forget_18 1 rfl rfl (by decide) rfl ?_
    refine q_goto (pc := 21) 2 C d_Gu_forget_21 (by decide) ?_
    refine q_sub [(0, .ref (ya Y 29)), (1, .int (v1 + (1 : Int32)))] [1, 0] rfl ?_
    exact ih (v1 + (1 : Int32)) τ17 h
def w_Gu_forget  (σ : Sg) (K : Sg → Prop) : Prop :=
  (∃ n4 : Nat, L_Gu_forget_2 K n4 (0 : Int32) σ)
set_option maxHeartbeats 4000000 in
theorem m_Gu_forget {Y : Yx}  {σ : Sg} {K : Sg → Prop} (hY : YD Y)  (h : w_Gu_forget σ K) : MetV Y y_Gu_forget prog_3_method_2_code 2 0 0 [.ref (ya Y 29)] σ K := by
  refine met_V [(0, .ref (ya Y 29))] hY (by decide) (Nat.le_of_ble_eq_true rfl) rfl (fun X C hr => ?_)
  unfold w_Gu_forget at h
  refine q_iconst (pc := 0) (v := 0) C d_Gu_forget_0 (by decide) ?_
  refine q_istore_n (pc := 1) [(1, .int (0 : Int32)), (0, .ref (ya Y 29))] C d_Gu_forget_1 rfl (by decide) rfl ?_
  obtain ⟨n4, h⟩ := h
  refine q_sub [(0, .ref (ya Y 29)), (1, .int (0 : Int32))] [1, 0] rfl ?_
  exact t_Gu_forget_2 hY C hr n4 (0 : Int32) σ h
theorem d_Lc_forgetBest_0 : decode prog_1_method_40_code 0 = .ok (.aload_n 0, 1) := by decide +kernel
theorem d_Lc_forgetBest_1 : decode prog_1_method_40_code 1 = .ok (.iconst 0, 1) := by decide +kernel
theorem d_Lc_forgetBest_2 : decode prog_1_method_40_code 2 = .ok (.putfield 263, 3) := by decide +kernel
theorem d_Lc_forgetBest_5 : decode prog_1_method_40_code 5 = .ok (.aload_n 0, 1) := by decide +kernel
theorem d_Lc_forgetBest_6 : decode prog_1_method_40_code 6 = .ok (.getfield 48, 3) := by decide +kernel
theorem d_Lc_forgetBest_9 : decode prog_1_method_40_code 9 = .ok (.invokevirtual 267, 3) := by decide +kernel
theorem d_Lc_forgetBest_12 : decode prog_1_method_40_code 12 = .ok (.return_, 1) := by decide +kernel
abbrev y_Lc_forgetBest : MethodName := ⟨"LoadCycles", "forgetBest", "()V"⟩
theorem mi_Lc_forgetBest : miV y_Lc_forgetBest prog_1_method_40_code 1 none 0 := ⟨wd_347, wd_6, wd_65, wd_348, by decide, by decide, by decide +kernel⟩
def w_Lc_forgetBest  (σ : Sg) (K : Sg → Prop) : Prop :=
  (∀ τ2 : Sg, τ2 = s2 σ 0 11 (0 : Int32) → w_Gu_forget τ2 (fun τ9 => K τ9))
set_option maxHeartbeats 4000000 in
theorem m_Lc_forgetBest {Y : Yx}  {σ : Sg} {K : Sg → Prop} (hY : YD Y)  (h : w_Lc_forgetBest σ K) : MetV Y y_Lc_forgetBest prog_1_method_40_code 1 1 21 [.ref (ya Y 0)] σ K := by
  refine met_V [(0, .ref (ya Y 0))] hY (by decide) (Nat.le_of_ble_eq_true rfl) rfl (fun X C hr => ?_)
  unfold w_Lc_forgetBest at h
  refine q_aload_n (pc := 0) C d_Lc_forgetBest_0 rfl 0 rfl ?_
  refine q_iconst (pc := 1) (v := 0) C d_Lc_forgetBest_1 (by decide) ?_
  refine q_put (pc := 2) (c := 0) (ci := 6) (k := 11) C rfl (by decide) (by decide) wd_241 rfl rfl rfl fs_6_11 d_Lc_forgetBest_2 ?_
  refine q_nms (fun τ2 eτ2 => ?_)
  replace h := h τ2 eτ2
  refine q_aload_n (pc := 5) C d_Lc_forgetBest_5 rfl 0 rfl ?_
  refine q_get (pc := 6) (c := 0) (ci := 6) (k := 6) (v := .ref (ya Y 29)) C rfl (by decide) (by decide) wd_236 rfl d_Lc_forgetBest_6 ?_
  refine q_callVV (pc := 9) (st := []) (d := 29) C (m_Gu_forget hY h) mi_Gu_forget rfl (by decide) rfl wd_349 rfl rfl (Nat.le_of_ble_eq_true rfl) (by decide) (by decide) d_Lc_forgetBest_9 (fun τ9 h => ?_)
  exact q_vret (pc := 12) C hr d_Lc_forgetBest_12 h
theorem d_Lc_house_0 : decode prog_1_method_2_code 0 = .ok (.aload_n 0, 1) := by decide +kernel
theorem d_Lc_house_1 : decode prog_1_method_2_code 1 = .ok (.iconst 0, 1) := by decide +kernel
theorem d_Lc_house_2 : decode prog_1_method_2_code 2 = .ok (.putfield 66, 3) := by decide +kernel
theorem d_Lc_house_5 : decode prog_1_method_2_code 5 = .ok (.iload_n 1, 1) := by decide +kernel
theorem d_Lc_house_6 : decode prog_1_method_2_code 6 = .ok (.invokestatic 70, 3) := by decide +kernel
theorem d_Lc_house_9 : decode prog_1_method_2_code 9 = .ok (.ifCond .ne 5, 3) := by decide +kernel
theorem d_Lc_house_12 : decode prog_1_method_2_code 12 = .ok (.iconst (-1), 1) := by decide +kernel
theorem d_Lc_house_13 : decode prog_1_method_2_code 13 = .ok (.ireturn, 1) := by decide +kernel
theorem d_Lc_house_14 : decode prog_1_method_2_code 14 = .ok (.iload_n 2, 1) := by decide +kernel
theorem d_Lc_house_15 : decode prog_1_method_2_code 15 = .ok (.invokestatic 74, 3) := by decide +kernel
theorem d_Lc_house_18 : decode prog_1_method_2_code 18 = .ok (.ifCond .ne 6, 3) := by decide +kernel
theorem d_Lc_house_21 : decode prog_1_method_2_code 21 = .ok (.bipush (-2), 2) := by decide +kernel
theorem d_Lc_house_23 : decode prog_1_method_2_code 23 = .ok (.ireturn, 1) := by decide +kernel
theorem d_Lc_house_24 : decode prog_1_method_2_code 24 = .ok (.aload_n 0, 1) := by decide +kernel
theorem d_Lc_house_25 : decode prog_1_method_2_code 25 = .ok (.getfield 54, 3) := by decide +kernel
theorem d_Lc_house_28 : decode prog_1_method_2_code 28 = .ok (.iload_n 1, 1) := by decide +kernel
theorem d_Lc_house_29 : decode prog_1_method_2_code 29 = .ok (.aaload, 1) := by decide +kernel
theorem d_Lc_house_30 : decode prog_1_method_2_code 30 = .ok (.astore 5, 2) := by decide +kernel
theorem d_Lc_house_32 : decode prog_1_method_2_code 32 = .ok (.aload 5, 2) := by decide +kernel
theorem d_Lc_house_34 : decode prog_1_method_2_code 34 = .ok (.iload_n 2, 1) := by decide +kernel
theorem d_Lc_house_35 : decode prog_1_method_2_code 35 = .ok (.invokevirtual 77, 3) := by decide +kernel
theorem d_Lc_house_38 : decode prog_1_method_2_code 38 = .ok (.istore 6, 2) := by decide +kernel
theorem d_Lc_house_40 : decode prog_1_method_2_code 40 = .ok (.iload 6, 2) := by decide +kernel
theorem d_Lc_house_42 : decode prog_1_method_2_code 42 = .ok (.ifCond .ne 11, 3) := by decide +kernel
theorem d_Lc_house_45 : decode prog_1_method_2_code 45 = .ok (.iload 4, 2) := by decide +kernel
theorem d_Lc_house_47 : decode prog_1_method_2_code 47 = .ok (.ifCond .ge 6, 3) := by decide +kernel
theorem d_Lc_house_50 : decode prog_1_method_2_code 50 = .ok (.iconst 4, 1) := by decide +kernel
theorem d_Lc_house_51 : decode prog_1_method_2_code 51 = .ok (.istore 6, 2) := by decide +kernel
theorem d_Lc_house_53 : decode prog_1_method_2_code 53 = .ok (.iload 6, 2) := by decide +kernel
theorem d_Lc_house_55 : decode prog_1_method_2_code 55 = .ok (.ifCond .ne 17, 3) := by decide +kernel
theorem d_Lc_house_58 : decode prog_1_method_2_code 58 = .ok (.aload 5, 2) := by decide +kernel
theorem d_Lc_house_60 : decode prog_1_method_2_code 60 = .ok (.iload_n 3, 1) := by decide +kernel
theorem d_Lc_house_61 : decode prog_1_method_2_code 61 = .ok (.iload 4, 2) := by decide +kernel
theorem d_Lc_house_63 : decode prog_1_method_2_code 63 = .ok (.invokevirtual 81, 3) := by decide +kernel
theorem d_Lc_house_66 : decode prog_1_method_2_code 66 = .ok (.ifCond .ne 6, 3) := by decide +kernel
theorem d_Lc_house_69 : decode prog_1_method_2_code 69 = .ok (.iconst 3, 1) := by decide +kernel
theorem d_Lc_house_70 : decode prog_1_method_2_code 70 = .ok (.istore 6, 2) := by decide +kernel
theorem d_Lc_house_72 : decode prog_1_method_2_code 72 = .ok (.iload 6, 2) := by decide +kernel
theorem d_Lc_house_74 : decode prog_1_method_2_code 74 = .ok (.ifCond .eq 10, 3) := by decide +kernel
theorem d_Lc_house_77 : decode prog_1_method_2_code 77 = .ok (.aload_n 0, 1) := by decide +kernel
theorem d_Lc_house_78 : decode prog_1_method_2_code 78 = .ok (.iload 6, 2) := by decide +kernel
theorem d_Lc_house_80 : decode prog_1_method_2_code 80 = .ok (.invokevirtual 85, 3) := by decide +kernel
theorem d_Lc_house_83 : decode prog_1_method_2_code 83 = .ok (.ireturn, 1) := by decide +kernel
theorem d_Lc_house_84 : decode prog_1_method_2_code 84 = .ok (.aload_n 0, 1) := by decide +kernel
theorem d_Lc_house_85 : decode prog_1_method_2_code 85 = .ok (.getfield 41, 3) := by decide +kernel
theorem d_Lc_house_88 : decode prog_1_method_2_code 88 = .ok (.aload 5, 2) := by decide +kernel
theorem d_Lc_house_90 : decode prog_1_method_2_code 90 = .ok (.iload_n 3, 1) := by decide +kernel
theorem d_Lc_house_91 : decode prog_1_method_2_code 91 = .ok (.iload 4, 2) := by decide +kernel
theorem d_Lc_house_93 : decode prog_1_method_2_code 93 = .ok (.invokevirtual 88, 3) := by decide +kernel
theorem d_Lc_house_96 : decode prog_1_method_2_code 96 = .ok (.istore 7, 2) := by decide +kernel
theorem d_Lc_house_98 : decode prog_1_method_2_code 98 = .ok (.iload 7, 2) := by decide +kernel
theorem d_Lc_house_100 : decode prog_1_method_2_code 100 = .ok (.bipush (-9), 2) := by decide +kernel
theorem d_Lc_house_102 : decode prog_1_method_2_code 102 = .ok (.if_icmp .eq 9, 3) := by decide +kernel
theorem d_Lc_house_105 : decode prog_1_method_2_code 105 = .ok (.bipush (-100), 2) := by decide +kernel
theorem d_Lc_house_107 : decode prog_1_method_2_code 107 = .ok (.iload 7, 2) := by decide +kernel
theorem d_Lc_house_109 : decode prog_1_method_2_code 109 = .ok (.isub, 1) := by decide +kernel
theorem d_Lc_house_110 : decode prog_1_method_2_code 110 = .ok (.ireturn, 1) := by decide +kernel
theorem d_Lc_house_111 : decode prog_1_method_2_code 111 = .ok (.aload_n 0, 1) := by decide +kernel
theorem d_Lc_house_112 : decode prog_1_method_2_code 112 = .ok (.getfield 12, 3) := by decide +kernel
theorem d_Lc_house_115 : decode prog_1_method_2_code 115 = .ok (.aload_n 0, 1) := by decide +kernel
theorem d_Lc_house_116 : decode prog_1_method_2_code 116 = .ok (.getfield 41, 3) := by decide +kernel
theorem d_Lc_house_119 : decode prog_1_method_2_code 119 = .ok (.getfield 92, 3) := by decide +kernel
theorem d_Lc_house_122 : decode prog_1_method_2_code 122 = .ok (.invokevirtual 95, 3) := by decide +kernel
theorem d_Lc_house_125 : decode prog_1_method_2_code 125 = .ok (.aload_n 0, 1) := by decide +kernel
theorem d_Lc_house_126 : decode prog_1_method_2_code 126 = .ok (.iconst 0, 1) := by decide +kernel
theorem d_Lc_house_127 : decode prog_1_method_2_code 127 = .ok (.putfield 99, 3) := by decide +kernel
theorem d_Lc_house_130 : decode prog_1_method_2_code 130 = .ok (.aload_n 0, 1) := by decide +kernel
theorem d_Lc_house_131 : decode prog_1_method_2_code 131 = .ok (.invokevirtual 102, 3) := by decide +kernel
theorem d_Lc_house_134 : decode prog_1_method_2_code 134 = .ok (.aload_n 0, 1) := by decide +kernel
theorem d_Lc_house_135 : decode prog_1_method_2_code 135 = .ok (.getfield 12, 3) := by decide +kernel
theorem d_Lc_house_138 : decode prog_1_method_2_code 138 = .ok (.getfield 105, 3) := by decide +kernel
theorem d_Lc_house_141 : decode prog_1_method_2_code 141 = .ok (.ireturn, 1) := by decide +kernel
abbrev y_Lc_house : MethodName := ⟨"LoadCycles", "house", "(IIII)I"⟩
theorem mi_Lc_house : miV y_Lc_house prog_1_method_2_code 8 (some .int) 4 := ⟨wd_274, wd_275, wd_65, wd_276, by decide, by decide, by decide +kernel⟩
def B_Lc_house_72 (x1 : Int32) (x2 : Int32) (x3 : Int32) (x4 : Int32) (K : Int32 → Sg → Prop) (c5 : Nat) (v6 : Int32) (σ : Sg) : Prop :=
  ((v6 = 0 → w_Tr_firstFault c5 x3 x4 σ (fun u93 τ93 => ((u93 = (-9 : Int32) → w_Ho_become 1 11 τ93 (fun τ122 => (∀ τ127 : Sg, τ127 = s2 τ122 0 10 (0 : Int32) → w_Lc_forgetBest τ127 (fun τ131 => K (τ131 1 4) τ131)))) ∧ (¬ u93 = (-9 : Int32) → K ((-100 : Int32) - u93) τ93)))) ∧ (¬ v6 = 0 → w_Lc_faulted v6 σ (fun u80 τ80 => K u80 τ80)))
theorem t_Lc_house_72 {X : Bx} {Y : Yx} {x1 : Int32} {x2 : Int32} {x3 : Int32} {x4 : Int32} {c5 : Nat} {v6 : Int32} {K : Int32 → Sg → Prop}  (hY : YD Y) (C : Cx X Y prog_1_method_2_code 8 "LoadCycles" 5 111) (hr : (xh X).sig.returnType = some .int) (hkc5 : kd c5 = 3)  {σ : Sg} (h : B_Lc_house_72 x1 x2 x3 x4 K c5 v6 σ) : St X Y 8 (QI X Y K) 72 [(0, .ref (ya Y 0)), (3, .int x3), (4, .int x4), (5, .ref (ya Y c5)), (6, .int v6)] [] σ := by
  unfold B_Lc_house_72 at h
  refine q_iload (pc := 72) C d_Lc_house_72 4 rfl ?_
  obtain ⟨h4, h5⟩ := h
  refine q_if_eq (pc := 74) 84 C d_Lc_house_74 (by decide) (fun hc => ?_) (fun hc => ?_)
  · have h := h4 hc
    refine q_aload_n (pc := 84) C d_Lc_house_84 rfl 0 rfl ?_
    refine q_get (pc := 85) (c := 0) (ci := 6) (k := 5) (v := .ref (ya Y 28)) C rfl (by decide) (by decide) wd_235 rfl d_Lc_house_85 ?_
    refine q_aload (pc := 88) C d_Lc_house_88 3 rfl ?_
    refine q_iload_n (pc := 90) C d_Lc_house_90 rfl 1 rfl ?_
    refine q_iload (pc := 91) C d_Lc_house_91 2 rfl ?_
    refine q_callVI (pc := 93) (st := []) (d := 28) C (m_Tr_firstFault hY hkc5 h) mi_Tr_firstFault rfl (by decide) rfl wd_299 rfl rfl (Nat.le_of_ble_eq_true rfl) (by decide) (by decide) d_Lc_house_93 (fun u93 τ93 h => ?_)
    refine q_istore (pc := 96) [(7, .int u93), (0, .ref (ya Y 0)), (3, .int x3), (4, .int x4), (5, .ref (ya Y c5)), (6, .int v6)] C d_Lc_house_96 (by decide) rfl ?_
    refine q_iload (pc := 98) C d_Lc_house_98 0 rfl ?_
    refine q_bipush (pc := 100) (v := -9) C d_Lc_house_100 (by decide) ?_
    obtain ⟨h2, h3⟩ := h
    refine q_icmp_eq (pc := 102) 111 C d_Lc_house_102 (by decide) (fun hc => ?_) (fun hc => ?_)
    · have h := h2 hc
      refine q_aload_n (pc := 111) C d_Lc_house_111 rfl 1 rfl ?_
      refine q_get (pc := 112) (c := 0) (ci := 6) (k := 0) (v := .ref (ya Y 1)) C rfl (by decide) (by decide) wd_230 rfl d_Lc_house_112 ?_
      refine q_aload_n (pc := 115) C d_Lc_house_115 rfl 1 rfl ?_
      refine q_get (pc := 116) (c := 0) (ci := 6) (k := 5) (v := .ref (ya Y 28)) C rfl (by decide) (by decide) wd_235 rfl d_Lc_house_116 ?_
      refine q_get (pc := 119) (c := 28) (ci := 4) (k := 0) (v := .ref (ya Y 11)) C rfl (by decide) (by decide) wd_189 rfl d_Lc_house_119 ?_
      refine q_callVV (pc := 122) (st := []) (d := 1) C (m_Ho_become hY rfl rfl h) mi_Ho_become rfl (by decide) rfl wd_338 rfl rfl (Nat.le_of_ble_eq_true rfl) (by decide) (by decide) d_Lc_house_122 (fun τ122 h => ?_)
      refine q_aload_n (pc := 125) C d_Lc_house_125 rfl 1 rfl ?_
      refine q_iconst (pc := 126) (v := 0) C d_Lc_house_126 (by decide) ?_
      refine q_put (pc := 127) (c := 0) (ci := 6) (k := 10) C rfl (by decide) (by decide) wd_240 rfl rfl rfl fs_6_10 d_Lc_house_127 ?_
      refine q_nms (fun τ127 eτ127 => ?_)
      replace h := h τ127 eτ127
      refine q_aload_n (pc := 130) C d_Lc_house_130 rfl 1 rfl ?_
      refine q_callVV (pc := 131) (st := []) (d := 0) C (m_Lc_forgetBest hY h) mi_Lc_forgetBest rfl (by decide) rfl wd_345 rfl rfl (Nat.le_of_ble_eq_true rfl) (by decide) (by decide) d_Lc_house_131 (fun τ131 h => ?_)
      refine q_aload_n (pc := 134) C d_Lc_house_134 rfl 1 rfl ?_
      refine q_get (pc := 135) (c := 0) (ci := 6) (k := 0) (v := .ref (ya Y 1)) C rfl (by decide) (by decide) wd_230 rfl d_Lc_house_135 ?_
      refine q_get (pc := 138) (c := 1) (ci := 2) (k := 4) (v := .int (τ131 1 4)) C rfl (by decide) (by decide) wd_103 rfl d_Lc_house_138 ?_
      exact q_iret (pc := 141) C hr d_Lc_house_141 h
    have h := h3 hc
    refine q_bipush (pc := 105) (v := -100) C d_Lc_house_105 (by decide) ?_
    refine q_iload (pc := 107) C d_Lc_house_107 0 rfl ?_
    refine q_isub (pc := 109) C d_Lc_house_109 ?_
    exact q_iret (pc := 110) C hr d_Lc_house_110 h
  have h := h5 hc
  refine q_aload_n (pc := 77) C d_Lc_house_77 rfl 0 rfl ?_
  refine q_iload (pc := 78) C d_Lc_house_78 4 rfl ?_
  refine q_callVI (pc := 80) (st := []) (d := 0) C (m_Lc_faulted hY h) mi_Lc_faulted rfl (by decide) rfl wd_295 rfl rfl (Nat.le_of_ble_eq_true rfl) (by decide) (by decide) d_Lc_house_80 (fun u80 τ80 h => ?_)
  exact q_iret (pc := 83) C hr d_Lc_house_83 h
def B_Lc_house_53 (x1 : Int32) (x2 : Int32) (x3 : Int32) (x4 : Int32) (K : Int32 → Sg → Prop) (c5 : Nat) (v6 : Int32) (σ : Sg) : Prop :=
  ((¬ v6 = 0 → B_Lc_house_72 x1 x2 x3 x4 K c5 v6 σ) ∧ (v6 = 0 → w_Sh_holds c5 x3 x4 σ (fun u63 => ((¬ u63 = 0 → B_Lc_house_72 x1 x2 x3 x4 K c5 v6 σ) ∧ (u63 = 0 → B_Lc_house_72 x1 x2 x3 x4 K c5 (3 : Int32) σ)))))
theorem t_Lc_house_53 {X : Bx} {Y : Yx} {x1 : Int32} {x2 : Int32} {x3 : Int32} {x4 : Int32} {c5 : Nat} {v6 : Int32} {K : Int32 → Sg → Prop}  (hY : YD Y) (C : Cx X Y prog_1_method_2_code 8 "LoadCycles" 5 111) (hr : (xh X).sig.returnType = some .int) (hkc5 : kd c5 = 3)  {σ : Sg} (h : B_Lc_house_53 x1 x2 x3 x4 K c5 v6 σ) : St X Y 8 (QI X Y K) 53 [(0, .ref (ya Y 0)), (3, .int x3), (4, .int x4), (5, .ref (ya Y c5)), (6, .int v6)] [] σ := by
  unfold B_Lc_house_53 at h
  refine q_iload (pc := 53) C d_Lc_house_53 4 rfl ?_
  obtain ⟨h8, h9⟩ := h
  refine q_if_ne (pc := 55) 72 C d_Lc_house_55 (by decide) (fun hc => ?_) (fun hc => ?_)
  · have h := h8 hc
    exact t_Lc_house_72 hY C hr hkc5 h
  have h := h9 hc
  refine q_aload (pc := 58) C d_Lc_house_58 3 rfl ?_
  refine q_iload_n (pc := 60) C d_Lc_house_60 rfl 1 rfl ?_
  refine q_iload (pc := 61) C d_Lc_house_61 2 rfl ?_
  refine q_callVIr (pc := 63) (st := []) (d := c5) C (m_Sh_holds hY hkc5 h) mi_Sh_holds hkc5 (by decide) rfl wd_291 rfl rfl (Nat.le_of_ble_eq_true rfl) (by decide) (by decide) d_Lc_house_63 (fun u63 h => ?_)
  obtain ⟨h6, h7⟩ := h
  refine q_if_ne (pc := 66) 72 C d_Lc_house_66 (by decide) (fun hc => ?_) (fun hc => ?_)
  · have h := h6 hc
    exact t_Lc_house_72 hY C hr hkc5 h
  have h := h7 hc
  refine q_iconst (pc := 69) (v := 3) C d_Lc_house_69 (by decide) ?_
  refine q_istore (pc := 70) [(6, .int (3 : Int32)), (0, .ref (ya Y 0)), (3, .int x3), (4, .int x4), (5, .ref (ya Y c5))] C d_Lc_house_70 (by decide) rfl ?_
  refine q_sub [(0, .ref (ya Y 0)), (3, .int x3), (4, .int x4), (5, .ref (ya Y c5)), (6, .int (3 : Int32))] [1, 2, 3, 4, 0] rfl ?_
  exact t_Lc_house_72 hY C hr hkc5 h
def w_Lc_house (x1 : Int32) (x2 : Int32) (x3 : Int32) (x4 : Int32) (σ : Sg) (K : Int32 → Sg → Prop) : Prop :=
  (∀ τ2 : Sg, τ2 = s2 σ 0 13 (0 : Int32) → w_Lc_isSheet x1 τ2 (fun u6 => ((¬ u6 = 0 → w_Lc_isLane x2 τ2 (fun u15 => ((¬ u15 = 0 → (vp_in x1 4 ∧ w_Sh_faultOfRow (33 + 2 * x1.toNatClampNeg) x2 τ2 (fun u35 => ((¬ u35 = 0 → B_Lc_house_53 x1 x2 x3 x4 K (33 + 2 * x1.toNatClampNeg) u35 τ2) ∧ (u35 = 0 → ((0 ≤ x4 → B_Lc_house_53 x1 x2 x3 x4 K (33 + 2 * x1.toNatClampNeg) u35 τ2) ∧ (¬ 0 ≤ x4 → B_Lc_house_53 x1 x2 x3 x4 K (33 + 2 * x1.toNatClampNeg) (4 : Int32) τ2))))))) ∧ (u15 = 0 → K (-2 : Int32) τ2)))) ∧ (u6 = 0 → K (-1 : Int32) τ2))))
set_option maxHeartbeats 4000000 in
theorem m_Lc_house {Y : Yx} {x1 : Int32} {x2 : Int32} {x3 : Int32} {x4 : Int32} {σ : Sg} {K : Int32 → Sg → Prop} (hY : YD Y)  (h : w_Lc_house x1 x2 x3 x4 σ K) : MetI Y y_Lc_house prog_1_method_2_code 8 (.int) 5 111 [.ref (ya Y 0), .int x1, .int x2, .int x3, .int x4] σ K := by
  refine met_I [(0, .ref (ya Y 0)), (1, .int x1), (2, .int x2), (3, .int x3), (4, .int x4)] hY (by decide) (Nat.le_of_ble_eq_true rfl) rfl (fun X C hr => ?_)
  unfold w_Lc_house at h
  refine q_aload_n (pc := 0) C d_Lc_house_0 rfl 0 rfl ?_
  refine q_iconst (pc := 1) (v := 0) C d_Lc_house_1 (by decide) ?_
  refine q_put (pc := 2) (c := 0) (ci := 6) (k := 13) C rfl (by decide) (by decide) wd_243 rfl rfl rfl fs_6_13 d_Lc_house_2 ?_
  refine q_nms (fun τ2 eτ2 => ?_)
  replace h := h τ2 eτ2
  refine q_iload_n (pc := 5) C d_Lc_house_5 rfl 1 rfl ?_
  refine q_callSIr (pc := 6) (st := []) C (m_Lc_isSheet hY h) mi_Lc_isSheet wd_277 rfl rfl (Nat.le_of_ble_eq_true rfl) (by decide) (by decide) d_Lc_house_6 (fun u6 h => ?_)
  obtain ⟨h16, h17⟩ := h
  refine q_if_ne (pc := 9) 14 C d_Lc_house_9 (by decide) (fun hc => ?_) (fun hc => ?_)
  · have h := h16 hc
    refine q_iload_n (pc := 14) C d_Lc_house_14 rfl 2 rfl ?_
    refine q_callSIr (pc := 15) (st := []) C (m_Lc_isLane hY h) mi_Lc_isLane wd_280 rfl rfl (Nat.le_of_ble_eq_true rfl) (by decide) (by decide) d_Lc_house_15 (fun u15 h => ?_)
    obtain ⟨h14, h15⟩ := h
    refine q_if_ne (pc := 18) 24 C d_Lc_house_18 (by decide) (fun hc => ?_) (fun hc => ?_)
    · have h := h14 hc
      refine q_aload_n (pc := 24) C d_Lc_house_24 rfl 0 rfl ?_
      refine q_get (pc := 25) (c := 0) (ci := 6) (k := 7) (v := .ref (ya Y 32)) C rfl (by decide) (by decide) wd_237 rfl d_Lc_house_25 ?_
      refine q_iload_n (pc := 28) C d_Lc_house_28 rfl 1 rfl ?_
      obtain ⟨h1, h⟩ := h
      refine q_aald (pc := 29) C h1 d_Lc_house_29 ?_
      refine q_astore (pc := 30) [(5, .ref (ya Y (33 + 2 * x1.toNatClampNeg))), (0, .ref (ya Y 0)), (1, .int x1), (2, .int x2), (3, .int x3), (4, .int x4)] C d_Lc_house_30 (by decide) rfl ?_
      refine q_aload (pc := 32) C d_Lc_house_32 0 rfl ?_
      refine q_iload_n (pc := 34) C d_Lc_house_34 rfl 3 rfl ?_
      refine q_callVIr (pc := 35) (st := []) (d := (33 + 2 * x1.toNatClampNeg)) C (m_Sh_faultOfRow hY (iaS h1) h) mi_Sh_faultOfRow (iaS h1) (by decide) rfl wd_283 rfl rfl (Nat.le_of_ble_eq_true rfl) (by decide) (by decide) d_Lc_house_35 (fun u35 h => ?_)
      refine q_istore (pc := 38) [(6, .int u35), (5, .ref (ya Y (33 + 2 * x1.toNatClampNeg))), (0, .ref (ya Y 0)), (1, .int x1), (2, .int x2), (3, .int x3), (4, .int x4)] C d_Lc_house_38 (by decide) rfl ?_
      refine q_iload (pc := 40) C d_Lc_house_40 0 rfl ?_
      obtain ⟨h12, h13⟩ := h
      refine q_if_ne (pc := 42) 53 C d_Lc_house_42 (by decide) (fun hc => ?_) (fun hc => ?_)
      · have h := h12 hc
        refine q_sub [(0, .ref (ya Y 0)), (3, .int x3), (4, .int x4), (5, .ref (ya Y (33 + 2 * x1.toNatClampNeg))), (6, .int u35)] [2, 5, 6, 1, 0] rfl ?_
        exact t_Lc_house_53 hY C hr ((iaS h1)) h
      have h := h13 hc
      refine q_iload (pc := 45) C d_Lc_house_45 6 rfl ?_
      obtain ⟨h10, h11⟩ := h
      refine q_if_ge (pc := 47) 53 C d_Lc_house_47 (by decide) (fun hc => ?_) (fun hc => ?_)
      · have h := h10 hc
        refine q_sub [(0, .ref (ya Y 0)), (3, .int x3), (4, .int x4), (5, .ref (ya Y (33 + 2 * x1.toNatClampNeg))), (6, .int u35)] [2, 5, 6, 1, 0] rfl ?_
        exact t_Lc_house_53 hY C hr ((iaS h1)) h
      have h := h11 hc
      refine q_iconst (pc := 50) (v := 4) C d_Lc_house_50 (by decide) ?_
      refine q_istore (pc := 51) [(6, .int (4 : Int32)), (5, .ref (ya Y (33 + 2 * x1.toNatClampNeg))), (0, .ref (ya Y 0)), (1, .int x1), (2, .int x2), (3, .int x3), (4, .int x4)] C d_Lc_house_51 (by decide) rfl ?_
      refine q_sub [(0, .ref (ya Y 0)), (3, .int x3), (4, .int x4), (5, .ref (ya Y (33 + 2 * x1.toNatClampNeg))), (6, .int (4 : Int32))] [2, 5, 6, 1, 0] rfl ?_
      exact t_Lc_house_53 hY C hr ((iaS h1)) h
    have h := h15 hc
    refine q_bipush (pc := 21) (v := -2) C d_Lc_house_21 (by decide) ?_
    exact q_iret (pc := 23) C hr d_Lc_house_23 h
  have h := h17 hc
  refine q_iconst (pc := 12) (v := -1) C d_Lc_house_12 (by decide) ?_
  exact q_iret (pc := 13) C hr d_Lc_house_13 h
theorem d_Ho_hasAppliance_0 : decode prog_4_method_3_code 0 = .ok (.iload_n 1, 1) := by decide +kernel
theorem d_Ho_hasAppliance_1 : decode prog_4_method_3_code 1 = .ok (.ifCond .lt 15, 3) := by decide +kernel
theorem d_Ho_hasAppliance_4 : decode prog_4_method_3_code 4 = .ok (.iload_n 1, 1) := by decide +kernel
theorem d_Ho_hasAppliance_5 : decode prog_4_method_3_code 5 = .ok (.aload_n 0, 1) := by decide +kernel
theorem d_Ho_hasAppliance_6 : decode prog_4_method_3_code 6 = .ok (.getfield 30, 3) := by decide +kernel
theorem d_Ho_hasAppliance_9 : decode prog_4_method_3_code 9 = .ok (.if_icmp .ge 7, 3) := by decide +kernel
theorem d_Ho_hasAppliance_12 : decode prog_4_method_3_code 12 = .ok (.iconst 1, 1) := by decide +kernel
theorem d_Ho_hasAppliance_13 : decode prog_4_method_3_code 13 = .ok (.goto 4, 3) := by decide +kernel
theorem d_Ho_hasAppliance_16 : decode prog_4_method_3_code 16 = .ok (.iconst 0, 1) := by decide +kernel
theorem d_Ho_hasAppliance_17 : decode prog_4_method_3_code 17 = .ok (.ireturn, 1) := by decide +kernel
abbrev y_Ho_hasAppliance : MethodName := ⟨"LoadCycles$House", "hasAppliance", "(I)Z"⟩
theorem mi_Ho_hasAppliance : miV y_Ho_hasAppliance prog_4_method_3_code 2 (some .boolean) 1 := ⟨wd_358, wd_359, wd_66, wd_360, by decide, by decide, by decide +kernel⟩
def w_Ho_hasAppliance (o : Nat) (x1 : Int32) (σ : Sg) (K : Int32 → Prop) : Prop :=
  ((x1 < 0 → K (0 : Int32)) ∧ (¬ x1 < 0 → (((σ o 4) ≤ x1 → K (0 : Int32)) ∧ (¬ (σ o 4) ≤ x1 → K (1 : Int32)))))
set_option maxHeartbeats 4000000 in
theorem m_Ho_hasAppliance {Y : Yx} {o : Nat} {x1 : Int32} {σ : Sg} {K : Int32 → Prop} (hY : YD Y) (ho : kd o = 2) (h : w_Ho_hasAppliance o x1 σ K) : MetI Y y_Ho_hasAppliance prog_4_method_3_code 2 (.boolean) 0 0 [.ref (ya Y o), .int x1] σ (fun r τ => τ = σ ∧ K r) := by
  refine met_I [(0, .ref (ya Y o)), (1, .int x1)] hY (by decide) (Nat.le_of_ble_eq_true rfl) rfl (fun X C hr => ?_)
  unfold w_Ho_hasAppliance at h
  refine q_iload_n (pc := 0) C d_Ho_hasAppliance_0 rfl 1 rfl ?_
  obtain ⟨h3, h4⟩ := h
  refine q_if_lt (pc := 1) 16 C d_Ho_hasAppliance_1 (by decide) (fun hc => ?_) (fun hc => ?_)
  · have h := h3 hc
    refine q_iconst (pc := 16) (v := 0) C d_Ho_hasAppliance_16 (by decide) ?_
    exact q_zret (pc := 17) C hr d_Ho_hasAppliance_17 bz0 ⟨rfl, h⟩
  have h := h4 hc
  refine q_iload_n (pc := 4) C d_Ho_hasAppliance_4 rfl 1 rfl ?_
  refine q_aload_n (pc := 5) C d_Ho_hasAppliance_5 rfl 0 rfl ?_
  refine q_get (pc := 6) (c := o) (ci := 2) (k := 4) (v := .int (σ o 4)) C ho (by decide) (by decide) wd_102 rfl d_Ho_hasAppliance_6 ?_
  obtain ⟨h1, h2⟩ := h
  refine q_icmp_ge (pc := 9) 16 C d_Ho_hasAppliance_9 (by decide) (fun hc => ?_) (fun hc => ?_)
  · have h := h1 hc
    refine q_iconst (pc := 16) (v := 0) C d_Ho_hasAppliance_16 (by decide) ?_
    exact q_zret (pc := 17) C hr d_Ho_hasAppliance_17 bz0 ⟨rfl, h⟩
  have h := h2 hc
  refine q_iconst (pc := 12) (v := 1) C d_Ho_hasAppliance_12 (by decide) ?_
  refine q_goto (pc := 13) 17 C d_Ho_hasAppliance_13 (by decide) ?_
  exact q_zret (pc := 17) C hr d_Ho_hasAppliance_17 bz1 ⟨rfl, h⟩
theorem d_Ho_hasLevel_0 : decode prog_4_method_4_code 0 = .ok (.iload_n 2, 1) := by decide +kernel
theorem d_Ho_hasLevel_1 : decode prog_4_method_4_code 1 = .ok (.ifCond .lt 17, 3) := by decide +kernel
theorem d_Ho_hasLevel_4 : decode prog_4_method_4_code 4 = .ok (.iload_n 2, 1) := by decide +kernel
theorem d_Ho_hasLevel_5 : decode prog_4_method_4_code 5 = .ok (.aload_n 0, 1) := by decide +kernel
theorem d_Ho_hasLevel_6 : decode prog_4_method_4_code 6 = .ok (.getfield 15, 3) := by decide +kernel
theorem d_Ho_hasLevel_9 : decode prog_4_method_4_code 9 = .ok (.iload_n 1, 1) := by decide +kernel
theorem d_Ho_hasLevel_10 : decode prog_4_method_4_code 10 = .ok (.iaload, 1) := by decide +kernel
theorem d_Ho_hasLevel_11 : decode prog_4_method_4_code 11 = .ok (.if_icmp .ge 7, 3) := by decide +kernel
theorem d_Ho_hasLevel_14 : decode prog_4_method_4_code 14 = .ok (.iconst 1, 1) := by decide +kernel
theorem d_Ho_hasLevel_15 : decode prog_4_method_4_code 15 = .ok (.goto 4, 3) := by decide +kernel
theorem d_Ho_hasLevel_18 : decode prog_4_method_4_code 18 = .ok (.iconst 0, 1) := by decide +kernel
theorem d_Ho_hasLevel_19 : decode prog_4_method_4_code 19 = .ok (.ireturn, 1) := by decide +kernel
abbrev y_Ho_hasLevel : MethodName := ⟨"LoadCycles$House", "hasLevel", "(II)Z"⟩
theorem mi_Ho_hasLevel : miV y_Ho_hasLevel prog_4_method_4_code 3 (some .boolean) 2 := ⟨wd_362, wd_363, wd_66, wd_364, by decide, by decide, by decide +kernel⟩
def w_Ho_hasLevel (o : Nat) (x1 : Int32) (x2 : Int32) (σ : Sg) (K : Int32 → Prop) : Prop :=
  ((x2 < 0 → K (0 : Int32)) ∧ (¬ x2 < 0 → (vp_in x1 4 ∧ (((σ (o + 2) x1.toNatClampNeg) ≤ x2 → K (0 : Int32)) ∧ (¬ (σ (o + 2) x1.toNatClampNeg) ≤ x2 → K (1 : Int32))))))
set_option maxHeartbeats 4000000 in
theorem m_Ho_hasLevel {Y : Yx} {o : Nat} {x1 : Int32} {x2 : Int32} {σ : Sg} {K : Int32 → Prop} (hY : YD Y) (ho : kd o = 2) (h : w_Ho_hasLevel o x1 x2 σ K) : MetI Y y_Ho_hasLevel prog_4_method_4_code 3 (.boolean) 0 0 [.ref (ya Y o), .int x1, .int x2] σ (fun r τ => τ = σ ∧ K r) := by
  refine met_I [(0, .ref (ya Y o)), (1, .int x1), (2, .int x2)] hY (by decide) (Nat.le_of_ble_eq_true rfl) rfl (fun X C hr => ?_)
  unfold w_Ho_hasLevel at h
  refine q_iload_n (pc := 0) C d_Ho_hasLevel_0 rfl 2 rfl ?_
  obtain ⟨h4, h5⟩ := h
  refine q_if_lt (pc := 1) 18 C d_Ho_hasLevel_1 (by decide) (fun hc => ?_) (fun hc => ?_)
  · have h := h4 hc
    refine q_iconst (pc := 18) (v := 0) C d_Ho_hasLevel_18 (by decide) ?_
    exact q_zret (pc := 19) C hr d_Ho_hasLevel_19 bz0 ⟨rfl, h⟩
  have h := h5 hc
  refine q_iload_n (pc := 4) C d_Ho_hasLevel_4 rfl 2 rfl ?_
  refine q_aload_n (pc := 5) C d_Ho_hasLevel_5 rfl 0 rfl ?_
  refine q_get (pc := 6) (c := o) (ci := 2) (k := 1) (v := .ref (ya Y (o + 2))) C ho (by decide) (by decide) wd_93 rfl d_Ho_hasLevel_6 ?_
  refine q_iload_n (pc := 9) C d_Ho_hasLevel_9 rfl 1 rfl ?_
  obtain ⟨h1, h⟩ := h
  refine q_iald (pc := 10) (c := (o + 2)) C (k2_2 ho) h1 d_Ho_hasLevel_10 ?_
  obtain ⟨h2, h3⟩ := h
  refine q_icmp_ge (pc := 11) 18 C d_Ho_hasLevel_11 (by decide) (fun hc => ?_) (fun hc => ?_)
  · have h := h2 hc
    refine q_iconst (pc := 18) (v := 0) C d_Ho_hasLevel_18 (by decide) ?_
    exact q_zret (pc := 19) C hr d_Ho_hasLevel_19 bz0 ⟨rfl, h⟩
  have h := h3 hc
  refine q_iconst (pc := 14) (v := 1) C d_Ho_hasLevel_14 (by decide) ?_
  refine q_goto (pc := 15) 19 C d_Ho_hasLevel_15 (by decide) ?_
  exact q_zret (pc := 19) C hr d_Ho_hasLevel_19 bz1 ⟨rfl, h⟩
theorem d_Ho_toldLevel_0 : decode prog_4_method_8_code 0 = .ok (.aload_n 0, 1) := by decide +kernel
theorem d_Ho_toldLevel_1 : decode prog_4_method_8_code 1 = .ok (.getfield 18, 3) := by decide +kernel
theorem d_Ho_toldLevel_4 : decode prog_4_method_8_code 4 = .ok (.iconst 3, 1) := by decide +kernel
theorem d_Ho_toldLevel_5 : decode prog_4_method_8_code 5 = .ok (.iload_n 1, 1) := by decide +kernel
theorem d_Ho_toldLevel_6 : decode prog_4_method_8_code 6 = .ok (.imul, 1) := by decide +kernel
theorem d_Ho_toldLevel_7 : decode prog_4_method_8_code 7 = .ok (.iload_n 2, 1) := by decide +kernel
theorem d_Ho_toldLevel_8 : decode prog_4_method_8_code 8 = .ok (.iadd, 1) := by decide +kernel
theorem d_Ho_toldLevel_9 : decode prog_4_method_8_code 9 = .ok (.iaload, 1) := by decide +kernel
theorem d_Ho_toldLevel_10 : decode prog_4_method_8_code 10 = .ok (.ireturn, 1) := by decide +kernel
abbrev y_Ho_toldLevel : MethodName := ⟨"LoadCycles$House", "toldLevel", "(II)I"⟩
theorem mi_Ho_toldLevel : miV y_Ho_toldLevel prog_4_method_8_code 3 (some .int) 2 := ⟨wd_366, wd_367, wd_66, wd_368, by decide, by decide, by decide +kernel⟩
def w_Ho_toldLevel (o : Nat) (x1 : Int32) (x2 : Int32) (σ : Sg) (K : Int32 → Prop) : Prop :=
  (vp_in (((3 : Int32) * x1) + x2) 12 ∧ K (σ (o + 3) (((3 : Int32) * x1) + x2).toNatClampNeg))
set_option maxHeartbeats 4000000 in
theorem m_Ho_toldLevel {Y : Yx} {o : Nat} {x1 : Int32} {x2 : Int32} {σ : Sg} {K : Int32 → Prop} (hY : YD Y) (ho : kd o = 2) (h : w_Ho_toldLevel o x1 x2 σ K) : MetI Y y_Ho_toldLevel prog_4_method_8_code 3 (.int) 0 0 [.ref (ya Y o), .int x1, .int x2] σ (fun r τ => τ = σ ∧ K r) := by
  refine met_I [(0, .ref (ya Y o)), (1, .int x1), (2, .int x2)] hY (by decide) (Nat.le_of_ble_eq_true rfl) rfl (fun X C hr => ?_)
  unfold w_Ho_toldLevel at h
  refine q_aload_n (pc := 0) C d_Ho_toldLevel_0 rfl 0 rfl ?_
  refine q_get (pc := 1) (c := o) (ci := 2) (k := 2) (v := .ref (ya Y (o + 3))) C ho (by decide) (by decide) wd_96 rfl d_Ho_toldLevel_1 ?_
  refine q_iconst (pc := 4) (v := 3) C d_Ho_toldLevel_4 (by decide) ?_
  refine q_iload_n (pc := 5) C d_Ho_toldLevel_5 rfl 1 rfl ?_
  refine q_imul (pc := 6) C d_Ho_toldLevel_6 ?_
  refine q_iload_n (pc := 7) C d_Ho_toldLevel_7 rfl 2 rfl ?_
  refine q_iadd (pc := 8) C d_Ho_toldLevel_8 ?_
  obtain ⟨h1, h⟩ := h
  refine q_iald (pc := 9) (c := (o + 3)) C (k2_3 ho) h1 d_Ho_toldLevel_9 ?_
  exact q_iret (pc := 10) C hr d_Ho_toldLevel_10 ⟨rfl, h⟩
theorem d_Ho_powerIn_0 : decode prog_4_method_11_code 0 = .ok (.iload_n 2, 1) := by decide +kernel
theorem d_Ho_powerIn_1 : decode prog_4_method_11_code 1 = .ok (.ifCond .ne 5, 3) := by decide +kernel
theorem d_Ho_powerIn_4 : decode prog_4_method_11_code 4 = .ok (.iconst 0, 1) := by decide +kernel
theorem d_Ho_powerIn_5 : decode prog_4_method_11_code 5 = .ok (.ireturn, 1) := by decide +kernel
theorem d_Ho_powerIn_6 : decode prog_4_method_11_code 6 = .ok (.aload_n 0, 1) := by decide +kernel
theorem d_Ho_powerIn_7 : decode prog_4_method_11_code 7 = .ok (.getfield 18, 3) := by decide +kernel
theorem d_Ho_powerIn_10 : decode prog_4_method_11_code 10 = .ok (.iconst 3, 1) := by decide +kernel
theorem d_Ho_powerIn_11 : decode prog_4_method_11_code 11 = .ok (.iload_n 1, 1) := by decide +kernel
theorem d_Ho_powerIn_12 : decode prog_4_method_11_code 12 = .ok (.imul, 1) := by decide +kernel
theorem d_Ho_powerIn_13 : decode prog_4_method_11_code 13 = .ok (.iload_n 2, 1) := by decide +kernel
theorem d_Ho_powerIn_14 : decode prog_4_method_11_code 14 = .ok (.iadd, 1) := by decide +kernel
theorem d_Ho_powerIn_15 : decode prog_4_method_11_code 15 = .ok (.iconst 1, 1) := by decide +kernel
theorem d_Ho_powerIn_16 : decode prog_4_method_11_code 16 = .ok (.isub, 1) := by decide +kernel
theorem d_Ho_powerIn_17 : decode prog_4_method_11_code 17 = .ok (.iaload, 1) := by decide +kernel
theorem d_Ho_powerIn_18 : decode prog_4_method_11_code 18 = .ok (.istore_n 3, 1) := by decide +kernel
theorem d_Ho_powerIn_19 : decode prog_4_method_11_code 19 = .ok (.aload_n 0, 1) := by decide +kernel
theorem d_Ho_powerIn_20 : decode prog_4_method_11_code 20 = .ok (.getfield 9, 3) := by decide +kernel
theorem d_Ho_powerIn_23 : decode prog_4_method_11_code 23 = .ok (.iload_n 1, 1) := by decide +kernel
theorem d_Ho_powerIn_24 : decode prog_4_method_11_code 24 = .ok (.iaload, 1) := by decide +kernel
theorem d_Ho_powerIn_25 : decode prog_4_method_11_code 25 = .ok (.lookupswitch 33 #[(0, 27), (1, 29)], 27) := by decide +kernel
theorem d_Ho_powerIn_52 : decode prog_4_method_11_code 52 = .ok (.iload_n 3, 1) := by decide +kernel
theorem d_Ho_powerIn_53 : decode prog_4_method_11_code 53 = .ok (.ireturn, 1) := by decide +kernel
theorem d_Ho_powerIn_54 : decode prog_4_method_11_code 54 = .ok (.iload_n 3, 1) := by decide +kernel
theorem d_Ho_powerIn_55 : decode prog_4_method_11_code 55 = .ok (.iconst 1, 1) := by decide +kernel
theorem d_Ho_powerIn_56 : decode prog_4_method_11_code 56 = .ok (.iadd, 1) := by decide +kernel
theorem d_Ho_powerIn_57 : decode prog_4_method_11_code 57 = .ok (.ireturn, 1) := by decide +kernel
theorem d_Ho_powerIn_58 : decode prog_4_method_11_code 58 = .ok (.iconst 2, 1) := by decide +kernel
theorem d_Ho_powerIn_59 : decode prog_4_method_11_code 59 = .ok (.iload_n 3, 1) := by decide +kernel
theorem d_Ho_powerIn_60 : decode prog_4_method_11_code 60 = .ok (.imul, 1) := by decide +kernel
theorem d_Ho_powerIn_61 : decode prog_4_method_11_code 61 = .ok (.ireturn, 1) := by decide +kernel
abbrev y_Ho_powerIn : MethodName := ⟨"LoadCycles$House", "powerIn", "(II)I"⟩
theorem mi_Ho_powerIn : miV y_Ho_powerIn prog_4_method_11_code 4 (some .int) 2 := ⟨wd_374, wd_375, wd_66, wd_376, by decide, by decide, by decide +kernel⟩
def w_Ho_powerIn (o : Nat) (x1 : Int32) (x2 : Int32) (σ : Sg) (K : Int32 → Prop) : Prop :=
  ((¬ x2 = 0 → (vp_in ((((3 : Int32) * x1) + x2) - (1 : Int32)) 12 ∧ (∀ y3_18 : Int32, y3_18 = (σ (o + 3) ((((3 : Int32) * x1) + x2) - (1 : Int32)).toNatClampNeg) → (vp_in x1 4 ∧ (((σ (o + 1) x1.toNatClampNeg) = (0 : Int32) → K y3_18) ∧ ((σ (o + 1) x1.toNatClampNeg) = (1 : Int32) → K (y3_18 + (1 : Int32))) ∧ (¬ (σ (o + 1) x1.toNatClampNeg) = (0 : Int32) → ¬ (σ (o + 1) x1.toNatClampNeg) = (1 : Int32) → K ((2 : Int32) * y3_18))))))) ∧ (x2 = 0 → K (0 : Int32)))
set_option maxHeartbeats 4000000 in
theorem m_Ho_powerIn {Y : Yx} {o : Nat} {x1 : Int32} {x2 : Int32} {σ : Sg} {K : Int32 → Prop} (hY : YD Y) (ho : kd o = 2) (h : w_Ho_powerIn o x1 x2 σ K) : MetI Y y_Ho_powerIn prog_4_method_11_code 4 (.int) 0 0 [.ref (ya Y o), .int x1, .int x2] σ (fun r τ => τ = σ ∧ K r) := by
  refine met_I [(0, .ref (ya Y o)), (1, .int x1), (2, .int x2)] hY (by decide) (Nat.le_of_ble_eq_true rfl) rfl (fun X C hr => ?_)
  unfold w_Ho_powerIn at h
  refine q_iload_n (pc := 0) C d_Ho_powerIn_0 rfl 2 rfl ?_
  obtain ⟨h8, h9⟩ := h
  refine q_if_ne (pc := 1) 6 C d_Ho_powerIn_1 (by decide) (fun hc => ?_) (fun hc => ?_)
  · have h := h8 hc
    refine q_aload_n (pc := 6) C d_Ho_powerIn_6 rfl 0 rfl ?_
    refine q_get (pc := 7) (c := o) (ci := 2) (k := 2) (v := .ref (ya Y (o + 3))) C ho (by decide) (by decide) wd_96 rfl d_Ho_powerIn_7 ?_
    refine q_iconst (pc := 10) (v := 3) C d_Ho_powerIn_10 (by decide) ?_
    refine q_iload_n (pc := 11) C d_Ho_powerIn_11 rfl 1 rfl ?_
    refine q_imul (pc := 12) C d_Ho_powerIn_12 ?_
    refine q_iload_n (pc := 13) C d_Ho_powerIn_13 rfl 2 rfl ?_
    refine q_iadd (pc := 14) C d_Ho_powerIn_14 ?_
    refine q_iconst (pc := 15) (v := 1) C d_Ho_powerIn_15 (by decide) ?_
    refine q_isub (pc := 16) C d_Ho_powerIn_16 ?_
    obtain ⟨h1, h⟩ := h
    refine q_iald (pc := 17) (c := (o + 3)) C (k2_3 ho) h1 d_Ho_powerIn_17 ?_
    refine q_nmi (fun y3_18 ey3_18 => ?_)
    replace h := h y3_18 ey3_18
    refine q_istore_n (pc := 18) [(3, .int y3_18), (0, .ref (ya Y o)), (1, .int x1), (2, .int x2)] C d_Ho_powerIn_18 rfl (by decide) rfl ?_
    refine q_aload_n (pc := 19) C d_Ho_powerIn_19 rfl 1 rfl ?_
    refine q_get (pc := 20) (c := o) (ci := 2) (k := 0) (v := .ref (ya Y (o + 1))) C ho (by decide) (by decide) wd_91 rfl d_Ho_powerIn_20 ?_
    refine q_iload_n (pc := 23) C d_Ho_powerIn_23 rfl 2 rfl ?_
    obtain ⟨h2, h⟩ := h
    refine q_iald (pc := 24) (c := (o + 1)) C (k2_1 ho) h2 d_Ho_powerIn_24 ?_
    obtain ⟨h4, h6, h7⟩ := h
    by_cases h3 : (σ (o + 1) x1.toNatClampNeg) = (0 : Int32)
    · refine q_lookupK (pc := 25) 52 (k := 0) (off := 27) C h3 (by decide) d_Ho_powerIn_25 (by decide) (by decide) (by decide) ?_
      have h := h4 h3
      refine q_iload_n (pc := 52) C d_Ho_powerIn_52 rfl 0 rfl ?_
      exact q_iret (pc := 53) C hr d_Ho_powerIn_53 ⟨rfl, h⟩
    by_cases h5 : (σ (o + 1) x1.toNatClampNeg) = (1 : Int32)
    · refine q_lookupK (pc := 25) 54 (k := 1) (off := 29) C h5 (by decide) d_Ho_powerIn_25 (by decide) (by decide) (by decide) ?_
      have h := h6 h5
      refine q_iload_n (pc := 54) C d_Ho_powerIn_54 rfl 0 rfl ?_
      refine q_iconst (pc := 55) (v := 1) C d_Ho_powerIn_55 (by decide) ?_
      refine q_iadd (pc := 56) C d_Ho_powerIn_56 ?_
      exact q_iret (pc := 57) C hr d_Ho_powerIn_57 ⟨rfl, h⟩
    refine q_lookup (pc := 25) 58 (off := 33) C d_Ho_powerIn_25 (by decide) (by show Op.lookupswitch.offset [(0, 27), (1, 29)] 33 _ = _; rw [Op.lookupswitch.offset_cons, if_neg (Ne.symm (sw_ne (k := 0) rfl h3)), Op.lookupswitch.offset_cons, if_neg (Ne.symm (sw_ne (k := 1) rfl h5))]; rfl) (by decide) ?_
    have h := h7 h3 h5
    refine q_iconst (pc := 58) (v := 2) C d_Ho_powerIn_58 (by decide) ?_
    refine q_iload_n (pc := 59) C d_Ho_powerIn_59 rfl 0 rfl ?_
    refine q_imul (pc := 60) C d_Ho_powerIn_60 ?_
    exact q_iret (pc := 61) C hr d_Ho_powerIn_61 ⟨rfl, h⟩
  have h := h9 hc
  refine q_iconst (pc := 4) (v := 0) C d_Ho_powerIn_4 (by decide) ?_
  exact q_iret (pc := 5) C hr d_Ho_powerIn_5 ⟨rfl, h⟩
theorem d_Ho_powerOf_0 : decode prog_4_method_10_code 0 = .ok (.aload_n 0, 1) := by decide +kernel
theorem d_Ho_powerOf_1 : decode prog_4_method_10_code 1 = .ok (.iload_n 1, 1) := by decide +kernel
theorem d_Ho_powerOf_2 : decode prog_4_method_10_code 2 = .ok (.iload_n 2, 1) := by decide +kernel
theorem d_Ho_powerOf_3 : decode prog_4_method_10_code 3 = .ok (.iconst 1, 1) := by decide +kernel
theorem d_Ho_powerOf_4 : decode prog_4_method_10_code 4 = .ok (.iadd, 1) := by decide +kernel
theorem d_Ho_powerOf_5 : decode prog_4_method_10_code 5 = .ok (.invokevirtual 44, 3) := by decide +kernel
theorem d_Ho_powerOf_8 : decode prog_4_method_10_code 8 = .ok (.ireturn, 1) := by decide +kernel
abbrev y_Ho_powerOf : MethodName := ⟨"LoadCycles$House", "powerOf", "(II)I"⟩
theorem mi_Ho_powerOf : miV y_Ho_powerOf prog_4_method_10_code 3 (some .int) 2 := ⟨wd_370, wd_371, wd_66, wd_372, by decide, by decide, by decide +kernel⟩
def w_Ho_powerOf (o : Nat) (x1 : Int32) (x2 : Int32) (σ : Sg) (K : Int32 → Prop) : Prop :=
  w_Ho_powerIn o x1 (x2 + (1 : Int32)) σ (fun u5 => K u5)
set_option maxHeartbeats 4000000 in
theorem m_Ho_powerOf {Y : Yx} {o : Nat} {x1 : Int32} {x2 : Int32} {σ : Sg} {K : Int32 → Prop} (hY : YD Y) (ho : kd o = 2) (h : w_Ho_powerOf o x1 x2 σ K) : MetI Y y_Ho_powerOf prog_4_method_10_code 3 (.int) 1 23 [.ref (ya Y o), .int x1, .int x2] σ (fun r τ => τ = σ ∧ K r) := by
  refine met_I [(0, .ref (ya Y o)), (1, .int x1), (2, .int x2)] hY (by decide) (Nat.le_of_ble_eq_true rfl) rfl (fun X C hr => ?_)
  unfold w_Ho_powerOf at h
  refine q_aload_n (pc := 0) C d_Ho_powerOf_0 rfl 0 rfl ?_
  refine q_iload_n (pc := 1) C d_Ho_powerOf_1 rfl 1 rfl ?_
  refine q_iload_n (pc := 2) C d_Ho_powerOf_2 rfl 2 rfl ?_
  refine q_iconst (pc := 3) (v := 1) C d_Ho_powerOf_3 (by decide) ?_
  refine q_iadd (pc := 4) C d_Ho_powerOf_4 ?_
  refine q_callVIr (pc := 5) (st := []) (d := o) C (m_Ho_powerIn hY ho h) mi_Ho_powerIn ho (by decide) rfl wd_373 rfl rfl (Nat.le_of_ble_eq_true rfl) (by decide) (by decide) d_Ho_powerOf_5 (fun u5 h => ?_)
  exact q_iret (pc := 8) C hr d_Ho_powerOf_8 ⟨rfl, h⟩
