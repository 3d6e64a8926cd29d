theorem d_Md_restOf_0 : decode prog_9_method_33_code 0 = .ok (.aload_n 0, 1) := by decide +kernel
theorem d_Md_restOf_1 : decode prog_9_method_33_code 1 = .ok (.getfield 28, 3) := by decide +kernel
theorem d_Md_restOf_4 : decode prog_9_method_33_code 4 = .ok (.iload_n 1, 1) := by decide +kernel
theorem d_Md_restOf_5 : decode prog_9_method_33_code 5 = .ok (.iaload, 1) := by decide +kernel
theorem d_Md_restOf_6 : decode prog_9_method_33_code 6 = .ok (.aload_n 0, 1) := by decide +kernel
theorem d_Md_restOf_7 : decode prog_9_method_33_code 7 = .ok (.getfield 137, 3) := by decide +kernel
theorem d_Md_restOf_10 : decode prog_9_method_33_code 10 = .ok (.isub, 1) := by decide +kernel
theorem d_Md_restOf_11 : decode prog_9_method_33_code 11 = .ok (.aload_n 0, 1) := by decide +kernel
theorem d_Md_restOf_12 : decode prog_9_method_33_code 12 = .ok (.getfield 40, 3) := by decide +kernel
theorem d_Md_restOf_15 : decode prog_9_method_33_code 15 = .ok (.aload_n 0, 1) := by decide +kernel
theorem d_Md_restOf_16 : decode prog_9_method_33_code 16 = .ok (.getfield 64, 3) := by decide +kernel
theorem d_Md_restOf_19 : decode prog_9_method_33_code 19 = .ok (.iload_n 1, 1) := by decide +kernel
theorem d_Md_restOf_20 : decode prog_9_method_33_code 20 = .ok (.iaload, 1) := by decide +kernel
theorem d_Md_restOf_21 : decode prog_9_method_33_code 21 = .ok (.iaload, 1) := by decide +kernel
theorem d_Md_restOf_22 : decode prog_9_method_33_code 22 = .ok (.isub, 1) := by decide +kernel
theorem d_Md_restOf_23 : decode prog_9_method_33_code 23 = .ok (.ireturn, 1) := by decide +kernel
abbrev y_Md_restOf : MethodName := ⟨"LoadCyclesModel", "restOf", "(I)I"⟩
theorem mi_Md_restOf : miV y_Md_restOf prog_9_method_33_code 2 (some .int) 1 := ⟨wd_963, wd_47, wd_72, wd_964, by decide, by decide, by decide +kernel⟩
def w_Md_restOf (x1 : Int32) (σ : Sg) (K : Int32 → Prop) : Prop :=
  (vp_in x1 20 ∧ (vp_in x1 20 ∧ (vp_in (σ 62 x1.toNatClampNeg) 256 ∧ K (((σ 50 x1.toNatClampNeg) - (σ 43 11)) - (σ 54 (σ 62 x1.toNatClampNeg).toNatClampNeg)))))
set_option maxHeartbeats 4000000 in
theorem m_Md_restOf {Y : Yx} {x1 : Int32} {σ : Sg} {K : Int32 → Prop} (hY : YD Y)  (h : w_Md_restOf x1 σ K) : MetI Y y_Md_restOf prog_9_method_33_code 2 (.int) 0 0 [.ref (ya Y 43), .int x1] σ (fun r τ => τ = σ ∧ K r) := by
  refine met_I [(0, .ref (ya Y 43)), (1, .int x1)] hY (by decide) (Nat.le_of_ble_eq_true rfl) rfl (fun X C hr => ?_)
  unfold w_Md_restOf at h
  refine q_aload_n (pc := 0) C d_Md_restOf_0 rfl 0 rfl ?_
  refine q_get (pc := 1) (c := 43) (ci := 7) (k := 10) (v := .ref (ya Y 50)) C rfl (by decide) (by decide) wd_743 rfl d_Md_restOf_1 ?_
  refine q_iload_n (pc := 4) C d_Md_restOf_4 rfl 1 rfl ?_
  obtain ⟨h1, h⟩ := h
  refine q_iald (pc := 5) (c := 50) C ⟨rfl, rfl⟩ h1 d_Md_restOf_5 ?_
  refine q_aload_n (pc := 6) C d_Md_restOf_6 rfl 0 rfl ?_
  refine q_get (pc := 7) (c := 43) (ci := 7) (k := 11) (v := .int (σ 43 11)) C rfl (by decide) (by decide) wd_744 rfl d_Md_restOf_7 ?_
  refine q_isub (pc := 10) C d_Md_restOf_10 ?_
  refine q_aload_n (pc := 11) C d_Md_restOf_11 rfl 0 rfl ?_
  refine q_get (pc := 12) (c := 43) (ci := 7) (k := 18) (v := .ref (ya Y 54)) C rfl (by decide) (by decide) wd_751 rfl d_Md_restOf_12 ?_
  refine q_aload_n (pc := 15) C d_Md_restOf_15 rfl 0 rfl ?_
  refine q_get (pc := 16) (c := 43) (ci := 7) (k := 26) (v := .ref (ya Y 62)) C rfl (by decide) (by decide) wd_759 rfl d_Md_restOf_16 ?_
  refine q_iload_n (pc := 19) C d_Md_restOf_19 rfl 1 rfl ?_
  obtain ⟨h2, h⟩ := h
  refine q_iald (pc := 20) (c := 62) C ⟨rfl, rfl⟩ h2 d_Md_restOf_20 ?_
  obtain ⟨h3, h⟩ := h
  refine q_iald (pc := 21) (c := 54) C ⟨rfl, rfl⟩ h3 d_Md_restOf_21 ?_
  refine q_isub (pc := 22) C d_Md_restOf_22 ?_
  exact q_iret (pc := 23) C hr d_Md_restOf_23 ⟨rfl, h⟩
theorem d_Md_rest_0 : decode prog_9_method_39_code 0 = .ok (.aload_n 0, 1) := by decide +kernel
theorem d_Md_rest_1 : decode prog_9_method_39_code 1 = .ok (.iload_n 1, 1) := by decide +kernel
theorem d_Md_rest_2 : decode prog_9_method_39_code 2 = .ok (.invokevirtual 166, 3) := by decide +kernel
theorem d_Md_rest_5 : decode prog_9_method_39_code 5 = .ok (.ifCond .ne 5, 3) := by decide +kernel
theorem d_Md_rest_8 : decode prog_9_method_39_code 8 = .ok (.iconst (-1), 1) := by decide +kernel
theorem d_Md_rest_9 : decode prog_9_method_39_code 9 = .ok (.ireturn, 1) := by decide +kernel
theorem d_Md_rest_10 : decode prog_9_method_39_code 10 = .ok (.aload_n 0, 1) := by decide +kernel
theorem d_Md_rest_11 : decode prog_9_method_39_code 11 = .ok (.invokevirtual 202, 3) := by decide +kernel
theorem d_Md_rest_14 : decode prog_9_method_39_code 14 = .ok (.aload_n 0, 1) := by decide +kernel
theorem d_Md_rest_15 : decode prog_9_method_39_code 15 = .ok (.iload_n 1, 1) := by decide +kernel
theorem d_Md_rest_16 : decode prog_9_method_39_code 16 = .ok (.invokevirtual 205, 3) := by decide +kernel
theorem d_Md_rest_19 : decode prog_9_method_39_code 19 = .ok (.ireturn, 1) := by decide +kernel
abbrev y_Md_rest : MethodName := ⟨"LoadCyclesModel", "rest", "(I)I"⟩
theorem mi_Md_rest : miV y_Md_rest prog_9_method_39_code 2 (some .int) 1 := ⟨wd_958, wd_959, wd_72, wd_960, by decide, by decide, by decide +kernel⟩
def w_Md_rest (x1 : Int32) (σ : Sg) (K : Int32 → Sg → Prop) : Prop :=
  w_Md_isTime x1 σ (fun u2 => ((¬ u2 = 0 → w_Md_findBest σ (fun τ11 => w_Md_restOf x1 τ11 (fun u16 => K u16 τ11))) ∧ (u2 = 0 → K (-1 : Int32) σ)))
set_option maxHeartbeats 4000000 in
theorem m_Md_rest {Y : Yx} {x1 : Int32} {σ : Sg} {K : Int32 → Sg → Prop} (hY : YD Y)  (h : w_Md_rest x1 σ K) : MetI Y y_Md_rest prog_9_method_39_code 2 (.int) 4 91 [.ref (ya Y 43), .int x1] σ K := by
  refine met_I [(0, .ref (ya Y 43)), (1, .int x1)] hY (by decide) (Nat.le_of_ble_eq_true rfl) rfl (fun X C hr => ?_)
  unfold w_Md_rest at h
  refine q_aload_n (pc := 0) C d_Md_rest_0 rfl 0 rfl ?_
  refine q_iload_n (pc := 1) C d_Md_rest_1 rfl 1 rfl ?_
  refine q_callVIr (pc := 2) (st := []) (d := 43) C (m_Md_isTime hY h) mi_Md_isTime rfl (by decide) rfl wd_903 rfl rfl (Nat.le_of_ble_eq_true rfl) (by decide) (by decide) d_Md_rest_2 (fun u2 h => ?_)
  obtain ⟨h1, h2⟩ := h
  refine q_if_ne (pc := 5) 10 C d_Md_rest_5 (by decide) (fun hc => ?_) (fun hc => ?_)
  · have h := h1 hc
    refine q_aload_n (pc := 10) C d_Md_rest_10 rfl 0 rfl ?_
    refine q_callVV (pc := 11) (st := []) (d := 43) C (m_Md_findBest hY h) mi_Md_findBest rfl (by decide) rfl wd_919 rfl rfl (Nat.le_of_ble_eq_true rfl) (by decide) (by decide) d_Md_rest_11 (fun τ11 h => ?_)
    refine q_aload_n (pc := 14) C d_Md_rest_14 rfl 0 rfl ?_
    refine q_iload_n (pc := 15) C d_Md_rest_15 rfl 1 rfl ?_
    refine q_callVIr (pc := 16) (st := []) (d := 43) C (m_Md_restOf hY h) mi_Md_restOf rfl (by decide) rfl wd_961 rfl rfl (Nat.le_of_ble_eq_true rfl) (by decide) (by decide) d_Md_rest_16 (fun u16 h => ?_)
    exact q_iret (pc := 19) C hr d_Md_rest_19 h
  have h := h2 hc
  refine q_iconst (pc := 8) (v := -1) C d_Md_rest_8 (by decide) ?_
  exact q_iret (pc := 9) C hr d_Md_rest_9 h
theorem d_Md_rests_0 : decode prog_9_method_35_code 0 = .ok (.aload_n 0, 1) := by decide +kernel
theorem d_Md_rests_1 : decode prog_9_method_35_code 1 = .ok (.invokevirtual 202, 3) := by decide +kernel
theorem d_Md_rests_4 : decode prog_9_method_35_code 4 = .ok (.iconst 0, 1) := by decide +kernel
theorem d_Md_rests_5 : decode prog_9_method_35_code 5 = .ok (.istore_n 1, 1) := by decide +kernel
theorem d_Md_rests_6 : decode prog_9_method_35_code 6 = .ok (.iconst 0, 1) := by decide +kernel
theorem d_Md_rests_7 : decode prog_9_method_35_code 7 = .ok (.istore_n 2, 1) := by decide +kernel
theorem d_Md_rests_8 : decode prog_9_method_35_code 8 = .ok (.iload_n 2, 1) := by decide +kernel
theorem d_Md_rests_9 : decode prog_9_method_35_code 9 = .ok (.aload_n 0, 1) := by decide +kernel
theorem d_Md_rests_10 : decode prog_9_method_35_code 10 = .ok (.getfield 96, 3) := by decide +kernel
theorem d_Md_rests_13 : decode prog_9_method_35_code 13 = .ok (.if_icmp .ge 17, 3) := by decide +kernel
theorem d_Md_rests_16 : decode prog_9_method_35_code 16 = .ok (.iload_n 1, 1) := by decide +kernel
theorem d_Md_rests_17 : decode prog_9_method_35_code 17 = .ok (.aload_n 0, 1) := by decide +kernel
theorem d_Md_rests_18 : decode prog_9_method_35_code 18 = .ok (.iload_n 2, 1) := by decide +kernel
theorem d_Md_rests_19 : decode prog_9_method_35_code 19 = .ok (.invokevirtual 205, 3) := by decide +kernel
theorem d_Md_rests_22 : decode prog_9_method_35_code 22 = .ok (.iadd, 1) := by decide +kernel
theorem d_Md_rests_23 : decode prog_9_method_35_code 23 = .ok (.istore_n 1, 1) := by decide +kernel
theorem d_Md_rests_24 : decode prog_9_method_35_code 24 = .ok (.iinc 2 1, 3) := by decide +kernel
theorem d_Md_rests_27 : decode prog_9_method_35_code 27 = .ok (.goto (-19), 3) := by decide +kernel
theorem d_Md_rests_30 : decode prog_9_method_35_code 30 = .ok (.iload_n 1, 1) := by decide +kernel
theorem d_Md_rests_31 : decode prog_9_method_35_code 31 = .ok (.ireturn, 1) := by decide +kernel
abbrev y_Md_rests : MethodName := ⟨"LoadCyclesModel", "rests", "()I"⟩
theorem mi_Md_rests : miV y_Md_rests prog_9_method_35_code 3 (some .int) 0 := ⟨wd_971, wd_48, wd_72, wd_972, by decide, by decide, by decide +kernel⟩
def L_Md_rests_8 (K : Int32 → Sg → Prop) : Nat → Int32 → Int32 → Sg → Prop
  | 0, _, _, _ => False
  | n + 1, v1, v2, σ =>
    (((σ 43 9) ≤ v2 → K v1 σ) ∧ (¬ (σ 43 9) ≤ v2 → w_Md_restOf v2 σ (fun u19 => (∀ y1_23 : Int32, y1_23 = (v1 + u19) → L_Md_rests_8 K n y1_23 (v2 + (1 : Int32)) σ))))
theorem t_Md_rests_8 {X : Bx} {Y : Yx}  {K : Int32 → Sg → Prop}  (hY : YD Y) (C : Cx X Y prog_9_method_35_code 3 "LoadCyclesModel" 4 91) (hr : (xh X).sig.returnType = some .int)  : ∀ (n : Nat) (v1 : Int32) (v2 : Int32) (σ : Sg), L_Md_rests_8 K n v1 v2 σ → St X Y 3 (QI X Y K) 8 [(0, .ref (ya Y 43)), (1, .int v1), (2, .int v2)] [] σ := by
  intro n
  induction n with
  | zero => intro v1 v2 σ h; exact h.elim
  | succ n ih =>
    intro v1 v2 σ h
    unfold L_Md_rests_8 at h
    refine q_iload_n (pc := 8) C d_Md_rests_8 rfl 2 rfl ?_
    refine q_aload_n (pc := 9) C d_Md_rests_9 rfl 0 rfl ?_
    refine q_get (pc := 10) (c := 43) (ci := 7) (k := 9) (v := .int (σ 43 9)) C rfl (by decide) (by decide) wd_742 rfl d_Md_rests_10 ?_
    obtain ⟨h1, h2⟩ := h
    refine q_icmp_ge (pc := 13) 30 C d_Md_rests_13 (by decide) (fun hc => ?_) (fun hc => ?_)
    · have h := h1 hc
      refine q_iload_n (pc := 30) C d_Md_rests_30 rfl 1 rfl ?_
      exact q_iret (pc := 31) C hr d_Md_rests_31 h
    have h := h2 hc
    refine q_iload_n (pc := 16) C d_Md_rests_16 rfl 1 rfl ?_
    refine q_aload_n (pc := 17) C d_Md_rests_17 rfl 0 rfl ?_
    refine q_iload_n (pc := 18) C d_Md_rests_18 rfl 2 rfl ?_
    refine q_callVIr (pc := 19) (st := [.int v1]) (d := 43) C (m_Md_restOf hY h) mi_Md_restOf rfl (by decide) rfl wd_961 rfl rfl (Nat.le_of_ble_eq_true rfl) (by decide) (by decide) d_Md_rests_19 (fun u19 h => ?_)
    refine q_iadd (pc := 22) C d_Md_rests_22 ?_
    refine q_nmi (fun y1_23 ey1_23 => ?_)
    replace h := h y1_23 ey1_23
    refine q_istore_n (pc := 23) [(1, .int y1_23), (0, .ref (ya Y 43)), (2, .int v2)] C d_Md_rests_23 rfl (by decide) rfl ?_
    refine q_iinc (pc := 24) (v2 + (1 : Int32)) [(2, .int (v2 + (1 : Int32))), (1, .int y1_23), (0, .ref (ya Y 43))] C d_Md_rests_24 2 rfl rfl (by decide) rfl ?_
    refine q_goto (pc := 27) 8 C d_Md_rests_27 (by decide) ?_
    refine q_sub [(0, .ref (ya Y 43)), (1, .int y1_23), (2, .int (v2 + (1 : Int32)))] [2, 1, 0] rfl ?_
    exact ih y1_23 (v2 + (1 : Int32)) σ h
def w_Md_rests  (σ : Sg) (K : Int32 → Sg → Prop) : Prop :=
  w_Md_findBest σ (fun τ1 => (∃ n3 : Nat, L_Md_rests_8 K n3 (0 : Int32) (0 : Int32) τ1))
set_option maxHeartbeats 4000000 in
theorem m_Md_rests {Y : Yx}  {σ : Sg} {K : Int32 → Sg → Prop} (hY : YD Y)  (h : w_Md_rests σ K) : MetI Y y_Md_rests prog_9_method_35_code 3 (.int) 4 91 [.ref (ya Y 43)] σ K := by
  refine met_I [(0, .ref (ya Y 43))] hY (by decide) (Nat.le_of_ble_eq_true rfl) rfl (fun X C hr => ?_)
  unfold w_Md_rests at h
  refine q_aload_n (pc := 0) C d_Md_rests_0 rfl 0 rfl ?_
  refine q_callVV (pc := 1) (st := []) (d := 43) C (m_Md_findBest hY h) mi_Md_findBest rfl (by decide) rfl wd_919 rfl rfl (Nat.le_of_ble_eq_true rfl) (by decide) (by decide) d_Md_rests_1 (fun τ1 h => ?_)
  refine q_iconst (pc := 4) (v := 0) C d_Md_rests_4 (by decide) ?_
  refine q_istore_n (pc := 5) [(1, .int (0 : Int32)), (0, .ref (ya Y 43))] C d_Md_rests_5 rfl (by decide) rfl ?_
  refine q_iconst (pc := 6) (v := 0) C d_Md_rests_6 (by decide) ?_
  refine q_istore_n (pc := 7) [(2, .int (0 : Int32)), (1, .int (0 : Int32)), (0, .ref (ya Y 43))] C d_Md_rests_7 rfl (by decide) rfl ?_
  obtain ⟨n3, h⟩ := h
  refine q_sub [(0, .ref (ya Y 43)), (1, .int (0 : Int32)), (2, .int (0 : Int32))] [2, 1, 0] rfl ?_
  exact t_Md_rests_8 hY C hr n3 (0 : Int32) (0 : Int32) τ1 h
theorem d_Md_ahead_0 : decode prog_9_method_32_code 0 = .ok (.iload_n 1, 1) := by decide +kernel
theorem d_Md_ahead_1 : decode prog_9_method_32_code 1 = .ok (.ifCond .ne 7, 3) := by decide +kernel
theorem d_Md_ahead_4 : decode prog_9_method_32_code 4 = .ok (.iconst 0, 1) := by decide +kernel
theorem d_Md_ahead_5 : decode prog_9_method_32_code 5 = .ok (.goto 15, 3) := by decide +kernel
theorem d_Md_ahead_8 : decode prog_9_method_32_code 8 = .ok (.aload_n 0, 1) := by decide +kernel
theorem d_Md_ahead_9 : decode prog_9_method_32_code 9 = .ok (.getfield 64, 3) := by decide +kernel
theorem d_Md_ahead_12 : decode prog_9_method_32_code 12 = .ok (.iload_n 1, 1) := by decide +kernel
theorem d_Md_ahead_13 : decode prog_9_method_32_code 13 = .ok (.iconst 1, 1) := by decide +kernel
theorem d_Md_ahead_14 : decode prog_9_method_32_code 14 = .ok (.isub, 1) := by decide +kernel
theorem d_Md_ahead_15 : decode prog_9_method_32_code 15 = .ok (.iaload, 1) := by decide +kernel
theorem d_Md_ahead_16 : decode prog_9_method_32_code 16 = .ok (.iload_n 2, 1) := by decide +kernel
theorem d_Md_ahead_17 : decode prog_9_method_32_code 17 = .ok (.invokestatic 172, 3) := by decide +kernel
theorem d_Md_ahead_20 : decode prog_9_method_32_code 20 = .ok (.ireturn, 1) := by decide +kernel
abbrev y_Md_ahead : MethodName := ⟨"LoadCyclesModel", "ahead", "(II)I"⟩
theorem mi_Md_ahead : miV y_Md_ahead prog_9_method_32_code 3 (some .int) 2 := ⟨wd_979, wd_50, wd_72, wd_980, by decide, by decide, by decide +kernel⟩
def w_Md_ahead (x1 : Int32) (x2 : Int32) (σ : Sg) (K : Int32 → Prop) : Prop :=
  ((¬ x1 = 0 → (vp_in (x1 - (1 : Int32)) 20 ∧ w_Md_digit (σ 62 (x1 - (1 : Int32)).toNatClampNeg) x2 σ (fun u17 => K u17))) ∧ (x1 = 0 → K (0 : Int32)))
set_option maxHeartbeats 4000000 in
theorem m_Md_ahead {Y : Yx} {x1 : Int32} {x2 : Int32} {σ : Sg} {K : Int32 → Prop} (hY : YD Y)  (h : w_Md_ahead x1 x2 σ K) : MetI Y y_Md_ahead prog_9_method_32_code 3 (.int) 1 21 [.ref (ya Y 43), .int x1, .int x2] σ (fun r τ => τ = σ ∧ K r) := by
  refine met_I [(0, .ref (ya Y 43)), (1, .int x1), (2, .int x2)] hY (by decide) (Nat.le_of_ble_eq_true rfl) rfl (fun X C hr => ?_)
  unfold w_Md_ahead at h
  refine q_iload_n (pc := 0) C d_Md_ahead_0 rfl 1 rfl ?_
  obtain ⟨h2, h3⟩ := h
  refine q_if_ne (pc := 1) 8 C d_Md_ahead_1 (by decide) (fun hc => ?_) (fun hc => ?_)
  · have h := h2 hc
    refine q_aload_n (pc := 8) C d_Md_ahead_8 rfl 0 rfl ?_
    refine q_get (pc := 9) (c := 43) (ci := 7) (k := 26) (v := .ref (ya Y 62)) C rfl (by decide) (by decide) wd_759 rfl d_Md_ahead_9 ?_
    refine q_iload_n (pc := 12) C d_Md_ahead_12 rfl 1 rfl ?_
    refine q_iconst (pc := 13) (v := 1) C d_Md_ahead_13 (by decide) ?_
    refine q_isub (pc := 14) C d_Md_ahead_14 ?_
    obtain ⟨h1, h⟩ := h
    refine q_iald (pc := 15) (c := 62) C ⟨rfl, rfl⟩ h1 d_Md_ahead_15 ?_
    refine q_iload_n (pc := 16) C d_Md_ahead_16 rfl 2 rfl ?_
    refine q_callSIr (pc := 17) (st := []) C (m_Md_digit hY h) mi_Md_digit wd_931 rfl rfl (Nat.le_of_ble_eq_true rfl) (by decide) (by decide) d_Md_ahead_17 (fun u17 h => ?_)
    exact q_iret (pc := 20) C hr d_Md_ahead_20 ⟨rfl, h⟩
  have h := h3 hc
  refine q_iconst (pc := 4) (v := 0) C d_Md_ahead_4 (by decide) ?_
  refine q_goto (pc := 5) 20 C d_Md_ahead_5 (by decide) ?_
  exact q_iret (pc := 20) C hr d_Md_ahead_20 ⟨rfl, h⟩
theorem d_Md_changes_0 : decode prog_9_method_36_code 0 = .ok (.aload_n 0, 1) := by decide +kernel
theorem d_Md_changes_1 : decode prog_9_method_36_code 1 = .ok (.invokevirtual 202, 3) := by decide +kernel
theorem d_Md_changes_4 : decode prog_9_method_36_code 4 = .ok (.iconst 0, 1) := by decide +kernel
theorem d_Md_changes_5 : decode prog_9_method_36_code 5 = .ok (.istore_n 2, 1) := by decide +kernel
theorem d_Md_changes_6 : decode prog_9_method_36_code 6 = .ok (.iconst 0, 1) := by decide +kernel
theorem d_Md_changes_7 : decode prog_9_method_36_code 7 = .ok (.istore_n 3, 1) := by decide +kernel
theorem d_Md_changes_8 : decode prog_9_method_36_code 8 = .ok (.iload_n 3, 1) := by decide +kernel
theorem d_Md_changes_9 : decode prog_9_method_36_code 9 = .ok (.aload_n 0, 1) := by decide +kernel
theorem d_Md_changes_10 : decode prog_9_method_36_code 10 = .ok (.getfield 96, 3) := by decide +kernel
theorem d_Md_changes_13 : decode prog_9_method_36_code 13 = .ok (.if_icmp .ge 81, 3) := by decide +kernel
theorem d_Md_changes_16 : decode prog_9_method_36_code 16 = .ok (.iconst 0, 1) := by decide +kernel
theorem d_Md_changes_17 : decode prog_9_method_36_code 17 = .ok (.istore 4, 2) := by decide +kernel
theorem d_Md_changes_19 : decode prog_9_method_36_code 19 = .ok (.iload 4, 2) := by decide +kernel
theorem d_Md_changes_21 : decode prog_9_method_36_code 21 = .ok (.aload_n 0, 1) := by decide +kernel
theorem d_Md_changes_22 : decode prog_9_method_36_code 22 = .ok (.getfield 93, 3) := by decide +kernel
theorem d_Md_changes_25 : decode prog_9_method_36_code 25 = .ok (.if_icmp .ge 63, 3) := by decide +kernel
theorem d_Md_changes_28 : decode prog_9_method_36_code 28 = .ok (.aload_n 0, 1) := by decide +kernel
theorem d_Md_changes_29 : decode prog_9_method_36_code 29 = .ok (.iload_n 3, 1) := by decide +kernel
theorem d_Md_changes_30 : decode prog_9_method_36_code 30 = .ok (.iload 4, 2) := by decide +kernel
theorem d_Md_changes_32 : decode prog_9_method_36_code 32 = .ok (.invokevirtual 208, 3) := by decide +kernel
theorem d_Md_changes_35 : decode prog_9_method_36_code 35 = .ok (.istore 5, 2) := by decide +kernel
theorem d_Md_changes_37 : decode prog_9_method_36_code 37 = .ok (.aload_n 0, 1) := by decide +kernel
theorem d_Md_changes_38 : decode prog_9_method_36_code 38 = .ok (.getfield 64, 3) := by decide +kernel
theorem d_Md_changes_41 : decode prog_9_method_36_code 41 = .ok (.iload_n 3, 1) := by decide +kernel
theorem d_Md_changes_42 : decode prog_9_method_36_code 42 = .ok (.iaload, 1) := by decide +kernel
theorem d_Md_changes_43 : decode prog_9_method_36_code 43 = .ok (.iload 4, 2) := by decide +kernel
theorem d_Md_changes_45 : decode prog_9_method_36_code 45 = .ok (.invokestatic 172, 3) := by decide +kernel
theorem d_Md_changes_48 : decode prog_9_method_36_code 48 = .ok (.iload 5, 2) := by decide +kernel
theorem d_Md_changes_50 : decode prog_9_method_36_code 50 = .ok (.if_icmp .eq 16, 3) := by decide +kernel
theorem d_Md_changes_53 : decode prog_9_method_36_code 53 = .ok (.iload_n 1, 1) := by decide +kernel
theorem d_Md_changes_54 : decode prog_9_method_36_code 54 = .ok (.ifCond .eq 8, 3) := by decide +kernel
theorem d_Md_changes_57 : decode prog_9_method_36_code 57 = .ok (.iload 5, 2) := by decide +kernel
theorem d_Md_changes_59 : decode prog_9_method_36_code 59 = .ok (.ifCond .ne 7, 3) := by decide +kernel
theorem d_Md_changes_62 : decode prog_9_method_36_code 62 = .ok (.iconst 1, 1) := by decide +kernel
theorem d_Md_changes_63 : decode prog_9_method_36_code 63 = .ok (.goto 4, 3) := by decide +kernel
theorem d_Md_changes_66 : decode prog_9_method_36_code 66 = .ok (.iconst 0, 1) := by decide +kernel
theorem d_Md_changes_67 : decode prog_9_method_36_code 67 = .ok (.istore 6, 2) := by decide +kernel
theorem d_Md_changes_69 : decode prog_9_method_36_code 69 = .ok (.iload_n 2, 1) := by decide +kernel
theorem d_Md_changes_70 : decode prog_9_method_36_code 70 = .ok (.iload 6, 2) := by decide +kernel
theorem d_Md_changes_72 : decode prog_9_method_36_code 72 = .ok (.ifCond .eq 7, 3) := by decide +kernel
theorem d_Md_changes_75 : decode prog_9_method_36_code 75 = .ok (.iconst 1, 1) := by decide +kernel
theorem d_Md_changes_76 : decode prog_9_method_36_code 76 = .ok (.goto 4, 3) := by decide +kernel
theorem d_Md_changes_79 : decode prog_9_method_36_code 79 = .ok (.iconst 0, 1) := by decide +kernel
theorem d_Md_changes_80 : decode prog_9_method_36_code 80 = .ok (.iadd, 1) := by decide +kernel
theorem d_Md_changes_81 : decode prog_9_method_36_code 81 = .ok (.istore_n 2, 1) := by decide +kernel
theorem d_Md_changes_82 : decode prog_9_method_36_code 82 = .ok (.iinc 4 1, 3) := by decide +kernel
theorem d_Md_changes_85 : decode prog_9_method_36_code 85 = .ok (.goto (-66), 3) := by decide +kernel
theorem d_Md_changes_88 : decode prog_9_method_36_code 88 = .ok (.iinc 3 1, 3) := by decide +kernel
theorem d_Md_changes_91 : decode prog_9_method_36_code 91 = .ok (.goto (-83), 3) := by decide +kernel
theorem d_Md_changes_94 : decode prog_9_method_36_code 94 = .ok (.iload_n 2, 1) := by decide +kernel
theorem d_Md_changes_95 : decode prog_9_method_36_code 95 = .ok (.ireturn, 1) := by decide +kernel
abbrev y_Md_changes : MethodName := ⟨"LoadCyclesModel", "changes", "(Z)I"⟩
theorem mi_Md_changes : miV y_Md_changes prog_9_method_36_code 7 (some .int) 1 := ⟨wd_975, wd_49, wd_72, wd_976, by decide, by decide, by decide +kernel⟩
def B_Md_changes_80 (x1 : Int32) (K : Int32 → Sg → Prop) (r8 : Int32 → Int32 → Sg → Prop) (r19 : Int32 → Int32 → Sg → Prop) (v3 : Int32) (v4 : Int32) (vs0 : Int32) (vs1 : Int32) (σ : Sg) : Prop :=
  (∀ y2_81 : Int32, y2_81 = (vs1 + vs0) → r19 y2_81 (v4 + (1 : Int32)) σ)
theorem t_Md_changes_80 {X : Bx} {Y : Yx} {x1 : Int32} {v3 : Int32} {v4 : Int32} {vs0 : Int32} {vs1 : Int32} {K : Int32 → Sg → Prop} {r8 : Int32 → Int32 → Sg → Prop} {r19 : Int32 → Int32 → Sg → Prop} (hY : YD Y) (C : Cx X Y prog_9_method_36_code 7 "LoadCyclesModel" 4 91) (hr : (xh X).sig.returnType = some .int)  (H8 : ∀ (v2 : Int32) (v3 : Int32) (σ : Sg), r8 v2 v3 σ → St X Y 7 (QI X Y K) 8 [(0, .ref (ya Y 43)), (1, .int x1), (2, .int v2), (3, .int v3)] [] σ) (H19 : ∀ (v2 : Int32) (v4 : Int32) (σ : Sg), r19 v2 v4 σ → St X Y 7 (QI X Y K) 19 [(0, .ref (ya Y 43)), (1, .int x1), (2, .int v2), (3, .int v3), (4, .int v4)] [] σ)  {σ : Sg} (h : B_Md_changes_80 x1 K r8 r19 v3 v4 vs0 vs1 σ) : St X Y 7 (QI X Y K) 80 [(0, .ref (ya Y 43)), (1, .int x1), (3, .int v3), (4, .int v4)] [.int vs0, .int vs1] σ := by
  unfold B_Md_changes_80 at h
  refine q_iadd (pc := 80) C d_Md_changes_80 ?_
  refine q_nmi (fun y2_81 ey2_81 => ?_)
  replace h := h y2_81 ey2_81
  refine q_istore_n (pc := 81) [(2, .int y2_81), (0, .ref (ya Y 43)), (1, .int x1), (3, .int v3), (4, .int v4)] C d_Md_changes_81 rfl (by decide) rfl ?_
  refine q_iinc (pc := 82) (v4 + (1 : Int32)) [(4, .int (v4 + (1 : Int32))), (2, .int y2_81), (0, .ref (ya Y 43)), (1, .int x1), (3, .int v3)] C d_Md_changes_82 4 rfl rfl (by decide) rfl ?_
  refine q_goto (pc := 85) 19 C d_Md_changes_85 (by decide) ?_
  refine q_sub [(0, .ref (ya Y 43)), (1, .int x1), (2, .int y2_81), (3, .int v3), (4, .int (v4 + (1 : Int32)))] [2, 3, 1, 4, 0] rfl ?_
  exact H19 y2_81 (v4 + (1 : Int32)) σ h
def B_Md_changes_67 (x1 : Int32) (K : Int32 → Sg → Prop) (r8 : Int32 → Int32 → Sg → Prop) (r19 : Int32 → Int32 → Sg → Prop) (v2 : Int32) (v3 : Int32) (v4 : Int32) (vs0 : Int32) (σ : Sg) : Prop :=
  ((vs0 = 0 → B_Md_changes_80 x1 K r8 r19 v3 v4 (0 : Int32) v2 σ) ∧ (¬ vs0 = 0 → B_Md_changes_80 x1 K r8 r19 v3 v4 (1 : Int32) v2 σ))
theorem t_Md_changes_67 {X : Bx} {Y : Yx} {x1 : Int32} {v2 : Int32} {v3 : Int32} {v4 : Int32} {vs0 : Int32} {K : Int32 → Sg → Prop} {r8 : Int32 → Int32 → Sg → Prop} {r19 : Int32 → Int32 → Sg → Prop} (hY : YD Y) (C : Cx X Y prog_9_method_36_code 7 "LoadCyclesModel" 4 91) (hr : (xh X).sig.returnType = some .int)  (H8 : ∀ (v2 : Int32) (v3 : Int32) (σ : Sg), r8 v2 v3 σ → St X Y 7 (QI X Y K) 8 [(0, .ref (ya Y 43)), (1, .int x1), (2, .int v2), (3, .int v3)] [] σ) (H19 : ∀ (v2 : Int32) (v4 : Int32) (σ : Sg), r19 v2 v4 σ → St X Y 7 (QI X Y K) 19 [(0, .ref (ya Y 43)), (1, .int x1), (2, .int v2), (3, .int v3), (4, .int v4)] [] σ)  {σ : Sg} (h : B_Md_changes_67 x1 K r8 r19 v2 v3 v4 vs0 σ) : St X Y 7 (QI X Y K) 67 [(0, .ref (ya Y 43)), (1, .int x1), (2, .int v2), (3, .int v3), (4, .int v4)] [.int vs0] σ := by
  unfold B_Md_changes_67 at h
  refine q_istore (pc := 67) [(6, .int vs0), (0, .ref (ya Y 43)), (1, .int x1), (2, .int v2), (3, .int v3), (4, .int v4)] C d_Md_changes_67 (by decide) rfl ?_
  refine q_iload_n (pc := 69) C d_Md_changes_69 rfl 3 rfl ?_
  refine q_iload (pc := 70) C d_Md_changes_70 0 rfl ?_
  obtain ⟨h2, h3⟩ := h
  refine q_if_eq (pc := 72) 79 C d_Md_changes_72 (by decide) (fun hc => ?_) (fun hc => ?_)
  · have h := h2 hc
    refine q_iconst (pc := 79) (v := 0) C d_Md_changes_79 (by decide) ?_
    refine q_sub [(0, .ref (ya Y 43)), (1, .int x1), (3, .int v3), (4, .int v4)] [1, 2, 4, 5] rfl ?_
    exact t_Md_changes_80 hY C hr H8 H19 h
  have h := h3 hc
  refine q_iconst (pc := 75) (v := 1) C d_Md_changes_75 (by decide) ?_
  refine q_goto (pc := 76) 80 C d_Md_changes_76 (by decide) ?_
  refine q_sub [(0, .ref (ya Y 43)), (1, .int x1), (3, .int v3), (4, .int v4)] [1, 2, 4, 5] rfl ?_
  exact t_Md_changes_80 hY C hr H8 H19 h
def B_Md_changes_66 (x1 : Int32) (K : Int32 → Sg → Prop) (r8 : Int32 → Int32 → Sg → Prop) (r19 : Int32 → Int32 → Sg → Prop) (v2 : Int32) (v3 : Int32) (v4 : Int32) (σ : Sg) : Prop :=
  B_Md_changes_67 x1 K r8 r19 v2 v3 v4 (0 : Int32) σ
theorem t_Md_changes_66 {X : Bx} {Y : Yx} {x1 : Int32} {v2 : Int32} {v3 : Int32} {v4 : Int32} {K : Int32 → Sg → Prop} {r8 : Int32 → Int32 → Sg → Prop} {r19 : Int32 → Int32 → Sg → Prop} (hY : YD Y) (C : Cx X Y prog_9_method_36_code 7 "LoadCyclesModel" 4 91) (hr : (xh X).sig.returnType = some .int)  (H8 : ∀ (v2 : Int32) (v3 : Int32) (σ : Sg), r8 v2 v3 σ → St X Y 7 (QI X Y K) 8 [(0, .ref (ya Y 43)), (1, .int x1), (2, .int v2), (3, .int v3)] [] σ) (H19 : ∀ (v2 : Int32) (v4 : Int32) (σ : Sg), r19 v2 v4 σ → St X Y 7 (QI X Y K) 19 [(0, .ref (ya Y 43)), (1, .int x1), (2, .int v2), (3, .int v3), (4, .int v4)] [] σ)  {σ : Sg} (h : B_Md_changes_66 x1 K r8 r19 v2 v3 v4 σ) : St X Y 7 (QI X Y K) 66 [(0, .ref (ya Y 43)), (1, .int x1), (2, .int v2), (3, .int v3), (4, .int v4)] [] σ := by
  unfold B_Md_changes_66 at h
  refine q_iconst (pc := 66) (v := 0) C d_Md_changes_66 (by decide) ?_
  exact t_Md_changes_67 hY C hr H8 H19 h
def B_Md_changes_62 (x1 : Int32) (K : Int32 → Sg → Prop) (r8 : Int32 → Int32 → Sg → Prop) (r19 : Int32 → Int32 → Sg → Prop) (v2 : Int32) (v3 : Int32) (v4 : Int32) (σ : Sg) : Prop :=
  B_Md_changes_67 x1 K r8 r19 v2 v3 v4 (1 : Int32) σ
theorem t_Md_changes_62 {X : Bx} {Y : Yx} {x1 : Int32} {v2 : Int32} {v3 : Int32} {v4 : Int32} {K : Int32 → Sg → Prop} {r8 : Int32 → Int32 → Sg → Prop} {r19 : Int32 → Int32 → Sg → Prop} (hY : YD Y) (C : Cx X Y prog_9_method_36_code 7 "LoadCyclesModel" 4 91) (hr : (xh X).sig.returnType = some .int)  (H8 : ∀ (v2 : Int32) (v3 : Int32) (σ : Sg), r8 v2 v3 σ → St X Y 7 (QI X Y K) 8 [(0, .ref (ya Y 43)), (1, .int x1), (2, .int v2), (3, .int v3)] [] σ) (H19 : ∀ (v2 : Int32) (v4 : Int32) (σ : Sg), r19 v2 v4 σ → St X Y 7 (QI X Y K) 19 [(0, .ref (ya Y 43)), (1, .int x1), (2, .int v2), (3, .int v3), (4, .int v4)] [] σ)  {σ : Sg} (h : B_Md_changes_62 x1 K r8 r19 v2 v3 v4 σ) : St X Y 7 (QI X Y K) 62 [(0, .ref (ya Y 43)), (1, .int x1), (2, .int v2), (3, .int v3), (4, .int v4)] [] σ := by
  unfold B_Md_changes_62 at h
  refine q_iconst (pc := 62) (v := 1) C d_Md_changes_62 (by decide) ?_
  refine q_goto (pc := 63) 67 C d_Md_changes_63 (by decide) ?_
  exact t_Md_changes_67 hY C hr H8 H19 h
def L_Md_changes_19 (x1 : Int32) (v3 : Int32) (K : Int32 → Sg → Prop) (r8 : Int32 → Int32 → Sg → Prop) : Nat → Int32 → Int32 → Sg → Prop
  | 0, _, _, _ => False
  | n + 1, v2, v4, σ =>
    (((σ 43 5) ≤ v4 → r8 v2 (v3 + (1 : Int32)) σ) ∧ (¬ (σ 43 5) ≤ v4 → w_Md_ahead v3 v4 σ (fun u32 => (vp_in v3 20 ∧ w_Md_digit (σ 62 v3.toNatClampNeg) v4 σ (fun u45 => ((u45 = u32 → B_Md_changes_66 x1 K r8 (fun a0 a1 a2 => L_Md_changes_19 x1 v3 K r8 n a0 a1 a2) v2 v3 v4 σ) ∧ (¬ u45 = u32 → ((x1 = 0 → B_Md_changes_62 x1 K r8 (fun a0 a1 a2 => L_Md_changes_19 x1 v3 K r8 n a0 a1 a2) v2 v3 v4 σ) ∧ (¬ x1 = 0 → ((¬ u32 = 0 → B_Md_changes_66 x1 K r8 (fun a0 a1 a2 => L_Md_changes_19 x1 v3 K r8 n a0 a1 a2) v2 v3 v4 σ) ∧ (u32 = 0 → B_Md_changes_62 x1 K r8 (fun a0 a1 a2 => L_Md_changes_19 x1 v3 K r8 n a0 a1 a2) v2 v3 v4 σ)))))))))))
theorem t_Md_changes_19 {X : Bx} {Y : Yx} {x1 : Int32} {v3 : Int32} {K : Int32 → Sg → Prop} {r8 : Int32 → Int32 → Sg → Prop} (hY : YD Y) (C : Cx X Y prog_9_method_36_code 7 "LoadCyclesModel" 4 91) (hr : (xh X).sig.returnType = some .int)  (H8 : ∀ (v2 : Int32) (v3 : Int32) (σ : Sg), r8 v2 v3 σ → St X Y 7 (QI X Y K) 8 [(0, .ref (ya Y 43)), (1, .int x1), (2, .int v2), (3, .int v3)] [] σ) : ∀ (n : Nat) (v2 : Int32) (v4 : Int32) (σ : Sg), L_Md_changes_19 x1 v3 K r8 n v2 v4 σ → St X Y 7 (QI X Y K) 19 [(0, .ref (ya Y 43)), (1, .int x1), (2, .int v2), (3, .int v3), (4, .int v4)] [] σ := by
  intro n
  induction n with
  | zero => intro v2 v4 σ h; exact h.elim
  | succ n ih =>
    intro v2 v4 σ h
    unfold L_Md_changes_19 at h
    refine q_iload (pc := 19) C d_Md_changes_19 4 rfl ?_
    refine q_aload_n (pc := 21) C d_Md_changes_21 rfl 0 rfl ?_
    refine q_get (pc := 22) (c := 43) (ci := 7) (k := 5) (v := .int (σ 43 5)) C rfl (by decide) (by decide) wd_738 rfl d_Md_changes_22 ?_
    obtain ⟨h10, h11⟩ := h
    refine q_icmp_ge (pc := 25) 88 C d_Md_changes_25 (by decide) (fun hc => ?_) (fun hc => ?_)
    · have h := h10 hc
      refine q_iinc (pc := 88) (v3 + (1 : Int32)) [(3, .int (v3 + (1 : Int32))), (0, .ref (ya Y 43)), (1, .int x1), (2, .int v2), (4, .int v4)] C d_Md_changes_88 3 rfl rfl (by decide) rfl ?_
      refine q_goto (pc := 91) 8 C d_Md_changes_91 (by decide) ?_
      refine q_sub [(0, .ref (ya Y 43)), (1, .int x1), (2, .int v2), (3, .int (v3 + (1 : Int32)))] [1, 2, 3, 0] rfl ?_
      exact H8 v2 (v3 + (1 : Int32)) σ h
    have h := h11 hc
    refine q_aload_n (pc := 28) C d_Md_changes_28 rfl 0 rfl ?_
    refine q_iload_n (pc := 29) C d_Md_changes_29 rfl 3 rfl ?_
    refine q_iload (pc := 30) C d_Md_changes_30 4 rfl ?_
    refine q_callVIr (pc := 32) (st := []) (d := 43) C (m_Md_ahead hY h) mi_Md_ahead rfl (by decide) rfl wd_977 rfl rfl (Nat.le_of_ble_eq_true rfl) (by decide) (by decide) d_Md_changes_32 (fun u32 h => ?_)
    refine q_istore (pc := 35) [(5, .int u32), (0, .ref (ya Y 43)), (1, .int x1), (2, .int v2), (3, .int v3), (4, .int v4)] C d_Md_changes_35 (by decide) rfl ?_
    refine q_aload_n (pc := 37) C d_Md_changes_37 rfl 1 rfl ?_
    refine q_get (pc := 38) (c := 43) (ci := 7) (k := 26) (v := .ref (ya Y 62)) C rfl (by decide) (by decide) wd_759 rfl d_Md_changes_38 ?_
    refine q_iload_n (pc := 41) C d_Md_changes_41 rfl 4 rfl ?_
    obtain ⟨h1, h⟩ := h
    refine q_iald (pc := 42) (c := 62) C ⟨rfl, rfl⟩ h1 d_Md_changes_42 ?_
    refine q_iload (pc := 43) C d_Md_changes_43 5 rfl ?_
    refine q_callSIr (pc := 45) (st := []) C (m_Md_digit hY h) mi_Md_digit wd_931 rfl rfl (Nat.le_of_ble_eq_true rfl) (by decide) (by decide) d_Md_changes_45 (fun u45 h => ?_)
    refine q_iload (pc := 48) C d_Md_changes_48 0 rfl ?_
    obtain ⟨h8, h9⟩ := h
    refine q_icmp_eq (pc := 50) 66 C d_Md_changes_50 (by decide) (fun hc => ?_) (fun hc => ?_)
    · have h := h8 hc
      refine q_sub [(0, .ref (ya Y 43)), (1, .int x1), (2, .int v2), (3, .int v3), (4, .int v4)] [1, 2, 3, 4, 5] rfl ?_
      exact t_Md_changes_66 hY C hr H8 ih h
    have h := h9 hc
    refine q_iload_n (pc := 53) C d_Md_changes_53 rfl 2 rfl ?_
    obtain ⟨h6, h7⟩ := h
    refine q_if_eq (pc := 54) 62 C d_Md_changes_54 (by decide) (fun hc => ?_) (fun hc => ?_)
    · have h := h6 hc
      refine q_sub [(0, .ref (ya Y 43)), (1, .int x1), (2, .int v2), (3, .int v3), (4, .int v4)] [1, 2, 3, 4, 5] rfl ?_
      exact t_Md_changes_62 hY C hr H8 ih h
    have h := h7 hc
    refine q_iload (pc := 57) C d_Md_changes_57 0 rfl ?_
    obtain ⟨h4, h5⟩ := h
    refine q_if_ne (pc := 59) 66 C d_Md_changes_59 (by decide) (fun hc => ?_) (fun hc => ?_)
    · have h := h4 hc
      refine q_sub [(0, .ref (ya Y 43)), (1, .int x1), (2, .int v2), (3, .int v3), (4, .int v4)] [1, 2, 3, 4, 5] rfl ?_
      exact t_Md_changes_66 hY C hr H8 ih h
    have h := h5 hc
    refine q_sub [(0, .ref (ya Y 43)), (1, .int x1), (2, .int v2), (3, .int v3), (4, .int v4)] [1, 2, 3, 4, 5] rfl ?_
    exact t_Md_changes_62 hY C hr H8 ih h
def L_Md_changes_8 (x1 : Int32) (K : Int32 → Sg → Prop) : Nat → Int32 → Int32 → Sg → Prop
  | 0, _, _, _ => False
  | n + 1, v2, v3, σ =>
    (((σ 43 9) ≤ v3 → K v2 σ) ∧ (¬ (σ 43 9) ≤ v3 → (∃ n12 : Nat, L_Md_changes_19 x1 v3 K (fun a0 a1 a2 => L_Md_changes_8 x1 K n a0 a1 a2) n12 v2 (0 : Int32) σ)))
theorem t_Md_changes_8 {X : Bx} {Y : Yx} {x1 : Int32} {K : Int32 → Sg → Prop}  (hY : YD Y) (C : Cx X Y prog_9_method_36_code 7 "LoadCyclesModel" 4 91) (hr : (xh X).sig.returnType = some .int)  : ∀ (n : Nat) (v2 : Int32) (v3 : Int32) (σ : Sg), L_Md_changes_8 x1 K n v2 v3 σ → St X Y 7 (QI X Y K) 8 [(0, .ref (ya Y 43)), (1, .int x1), (2, .int v2), (3, .int v3)] [] σ := by
  intro n
  induction n with
  | zero => intro v2 v3 σ h; exact h.elim
  | succ n ih =>
    intro v2 v3 σ h
    unfold L_Md_changes_8 at h
    refine q_iload_n (pc := 8) C d_Md_changes_8 rfl 3 rfl ?_
    refine q_aload_n (pc := 9) C d_Md_changes_9 rfl 0 rfl ?_
    refine q_get (pc := 10) (c := 43) (ci := 7) (k := 9) (v := .int (σ 43 9)) C rfl (by decide) (by decide) wd_742 rfl d_Md_changes_10 ?_
    obtain ⟨h13, h14⟩ := h
    refine q_icmp_ge (pc := 13) 94 C d_Md_changes_13 (by decide) (fun hc => ?_) (fun hc => ?_)
    · have h := h13 hc
      refine q_iload_n (pc := 94) C d_Md_changes_94 rfl 2 rfl ?_
      exact q_iret (pc := 95) C hr d_Md_changes_95 h
    have h := h14 hc
    refine q_iconst (pc := 16) (v := 0) C d_Md_changes_16 (by decide) ?_
    refine q_istore (pc := 17) [(4, .int (0 : Int32)), (0, .ref (ya Y 43)), (1, .int x1), (2, .int v2), (3, .int v3)] C d_Md_changes_17 (by decide) rfl ?_
    obtain ⟨n12, h⟩ := h
    refine q_sub [(0, .ref (ya Y 43)), (1, .int x1), (2, .int v2), (3, .int v3), (4, .int (0 : Int32))] [1, 2, 3, 4, 0] rfl ?_
    exact t_Md_changes_19 hY C hr ih n12 v2 (0 : Int32) σ h
def w_Md_changes (x1 : Int32) (σ : Sg) (K : Int32 → Sg → Prop) : Prop :=
  w_Md_findBest σ (fun τ1 => (∃ n15 : Nat, L_Md_changes_8 x1 K n15 (0 : Int32) (0 : Int32) τ1))
set_option maxHeartbeats 4000000 in
theorem m_Md_changes {Y : Yx} {x1 : Int32} {σ : Sg} {K : Int32 → Sg → Prop} (hY : YD Y)  (h : w_Md_changes x1 σ K) : MetI Y y_Md_changes prog_9_method_36_code 7 (.int) 4 91 [.ref (ya Y 43), .int x1] σ K := by
  refine met_I [(0, .ref (ya Y 43)), (1, .int x1)] hY (by decide) (Nat.le_of_ble_eq_true rfl) rfl (fun X C hr => ?_)
  unfold w_Md_changes at h
  refine q_aload_n (pc := 0) C d_Md_changes_0 rfl 0 rfl ?_
  refine q_callVV (pc := 1) (st := []) (d := 43) C (m_Md_findBest hY h) mi_Md_findBest rfl (by decide) rfl wd_919 rfl rfl (Nat.le_of_ble_eq_true rfl) (by decide) (by decide) d_Md_changes_1 (fun τ1 h => ?_)
  refine q_iconst (pc := 4) (v := 0) C d_Md_changes_4 (by decide) ?_
  refine q_istore_n (pc := 5) [(2, .int (0 : Int32)), (0, .ref (ya Y 43)), (1, .int x1)] C d_Md_changes_5 rfl (by decide) rfl ?_
  refine q_iconst (pc := 6) (v := 0) C d_Md_changes_6 (by decide) ?_
  refine q_istore_n (pc := 7) [(3, .int (0 : Int32)), (2, .int (0 : Int32)), (0, .ref (ya Y 43)), (1, .int x1)] C d_Md_changes_7 rfl (by decide) rfl ?_
  obtain ⟨n15, h⟩ := h
  refine q_sub [(0, .ref (ya Y 43)), (1, .int x1), (2, .int (0 : Int32)), (3, .int (0 : Int32))] [2, 3, 1, 0] rfl ?_
  exact t_Md_changes_8 hY C hr n15 (0 : Int32) (0 : Int32) τ1 h
theorem d_Md_energyOf_0 : decode prog_9_method_34_code 0 = .ok (.aload_n 0, 1) := by decide +kernel
theorem d_Md_energyOf_1 : decode prog_9_method_34_code 1 = .ok (.invokevirtual 202, 3) := by decide +kernel
theorem d_Md_energyOf_4 : decode prog_9_method_34_code 4 = .ok (.iconst 0, 1) := by decide +kernel
theorem d_Md_energyOf_5 : decode prog_9_method_34_code 5 = .ok (.istore_n 2, 1) := by decide +kernel
theorem d_Md_energyOf_6 : decode prog_9_method_34_code 6 = .ok (.iconst 0, 1) := by decide +kernel
theorem d_Md_energyOf_7 : decode prog_9_method_34_code 7 = .ok (.istore_n 3, 1) := by decide +kernel
theorem d_Md_energyOf_8 : decode prog_9_method_34_code 8 = .ok (.iload_n 3, 1) := by decide +kernel
theorem d_Md_energyOf_9 : decode prog_9_method_34_code 9 = .ok (.aload_n 0, 1) := by decide +kernel
theorem d_Md_energyOf_10 : decode prog_9_method_34_code 10 = .ok (.getfield 96, 3) := by decide +kernel
theorem d_Md_energyOf_13 : decode prog_9_method_34_code 13 = .ok (.if_icmp .ge 42, 3) := by decide +kernel
theorem d_Md_energyOf_16 : decode prog_9_method_34_code 16 = .ok (.aload_n 0, 1) := by decide +kernel
theorem d_Md_energyOf_17 : decode prog_9_method_34_code 17 = .ok (.getfield 64, 3) := by decide +kernel
theorem d_Md_energyOf_20 : decode prog_9_method_34_code 20 = .ok (.iload_n 3, 1) := by decide +kernel
theorem d_Md_energyOf_21 : decode prog_9_method_34_code 21 = .ok (.iaload, 1) := by decide +kernel
theorem d_Md_energyOf_22 : decode prog_9_method_34_code 22 = .ok (.iload_n 1, 1) := by decide +kernel
theorem d_Md_energyOf_23 : decode prog_9_method_34_code 23 = .ok (.invokestatic 172, 3) := by decide +kernel
theorem d_Md_energyOf_26 : decode prog_9_method_34_code 26 = .ok (.istore 4, 2) := by decide +kernel
theorem d_Md_energyOf_28 : decode prog_9_method_34_code 28 = .ok (.iload_n 2, 1) := by decide +kernel
theorem d_Md_energyOf_29 : decode prog_9_method_34_code 29 = .ok (.iload 4, 2) := by decide +kernel
theorem d_Md_energyOf_31 : decode prog_9_method_34_code 31 = .ok (.ifCond .ne 7, 3) := by decide +kernel
theorem d_Md_energyOf_34 : decode prog_9_method_34_code 34 = .ok (.iconst 0, 1) := by decide +kernel
theorem d_Md_energyOf_35 : decode prog_9_method_34_code 35 = .ok (.goto 12, 3) := by decide +kernel
theorem d_Md_energyOf_38 : decode prog_9_method_34_code 38 = .ok (.aload_n 0, 1) := by decide +kernel
theorem d_Md_energyOf_39 : decode prog_9_method_34_code 39 = .ok (.iload_n 1, 1) := by decide +kernel
theorem d_Md_energyOf_40 : decode prog_9_method_34_code 40 = .ok (.iload 4, 2) := by decide +kernel
theorem d_Md_energyOf_42 : decode prog_9_method_34_code 42 = .ok (.iconst 1, 1) := by decide +kernel
theorem d_Md_energyOf_43 : decode prog_9_method_34_code 43 = .ok (.isub, 1) := by decide +kernel
theorem d_Md_energyOf_44 : decode prog_9_method_34_code 44 = .ok (.invokevirtual 158, 3) := by decide +kernel
theorem d_Md_energyOf_47 : decode prog_9_method_34_code 47 = .ok (.iadd, 1) := by decide +kernel
theorem d_Md_energyOf_48 : decode prog_9_method_34_code 48 = .ok (.istore_n 2, 1) := by decide +kernel
theorem d_Md_energyOf_49 : decode prog_9_method_34_code 49 = .ok (.iinc 3 1, 3) := by decide +kernel
theorem d_Md_energyOf_52 : decode prog_9_method_34_code 52 = .ok (.goto (-44), 3) := by decide +kernel
theorem d_Md_energyOf_55 : decode prog_9_method_34_code 55 = .ok (.iload_n 2, 1) := by decide +kernel
theorem d_Md_energyOf_56 : decode prog_9_method_34_code 56 = .ok (.ireturn, 1) := by decide +kernel
abbrev y_Md_energyOf : MethodName := ⟨"LoadCyclesModel", "energyOf", "(I)I"⟩
theorem mi_Md_energyOf : miV y_Md_energyOf prog_9_method_34_code 5 (some .int) 1 := ⟨wd_987, wd_52, wd_72, wd_988, by decide, by decide, by decide +kernel⟩
def B_Md_energyOf_47 (x1 : Int32) (K : Int32 → Sg → Prop) (r8 : Int32 → Int32 → Sg → Prop) (v3 : Int32) (vs0 : Int32) (vs1 : Int32) (σ : Sg) : Prop :=
  (∀ y2_48 : Int32, y2_48 = (vs1 + vs0) → r8 y2_48 (v3 + (1 : Int32)) σ)
theorem t_Md_energyOf_47 {X : Bx} {Y : Yx} {x1 : Int32} {v3 : Int32} {vs0 : Int32} {vs1 : Int32} {K : Int32 → Sg → Prop} {r8 : Int32 → Int32 → Sg → Prop} (hY : YD Y) (C : Cx X Y prog_9_method_34_code 5 "LoadCyclesModel" 4 91) (hr : (xh X).sig.returnType = some .int)  (H8 : ∀ (v2 : Int32) (v3 : Int32) (σ : Sg), r8 v2 v3 σ → St X Y 5 (QI X Y K) 8 [(0, .ref (ya Y 43)), (1, .int x1), (2, .int v2), (3, .int v3)] [] σ)  {σ : Sg} (h : B_Md_energyOf_47 x1 K r8 v3 vs0 vs1 σ) : St X Y 5 (QI X Y K) 47 [(0, .ref (ya Y 43)), (1, .int x1), (3, .int v3)] [.int vs0, .int vs1] σ := by
  unfold B_Md_energyOf_47 at h
  refine q_iadd (pc := 47) C d_Md_energyOf_47 ?_
  refine q_nmi (fun y2_48 ey2_48 => ?_)
  replace h := h y2_48 ey2_48
  refine q_istore_n (pc := 48) [(2, .int y2_48), (0, .ref (ya Y 43)), (1, .int x1), (3, .int v3)] C d_Md_energyOf_48 rfl (by decide) rfl ?_
  refine q_iinc (pc := 49) (v3 + (1 : Int32)) [(3, .int (v3 + (1 : Int32))), (2, .int y2_48), (0, .ref (ya Y 43)), (1, .int x1)] C d_Md_energyOf_49 3 rfl rfl (by decide) rfl ?_
  refine q_goto (pc := 52) 8 C d_Md_energyOf_52 (by decide) ?_
  refine q_sub [(0, .ref (ya Y 43)), (1, .int x1), (2, .int y2_48), (3, .int (v3 + (1 : Int32)))] [2, 3, 1, 0] rfl ?_
  exact H8 y2_48 (v3 + (1 : Int32)) σ h
def L_Md_energyOf_8 (x1 : Int32) (K : Int32 → Sg → Prop) : Nat → Int32 → Int32 → Sg → Prop
  | 0, _, _, _ => False
  | n + 1, v2, v3, σ =>
    (((σ 43 9) ≤ v3 → K v2 σ) ∧ (¬ (σ 43 9) ≤ v3 → (vp_in v3 20 ∧ w_Md_digit (σ 62 v3.toNatClampNeg) x1 σ (fun u23 => ((¬ u23 = 0 → w_Md_powerOf x1 (u23 - (1 : Int32)) σ (fun u44 => B_Md_energyOf_47 x1 K (fun a0 a1 a2 => L_Md_energyOf_8 x1 K n a0 a1 a2) v3 u44 v2 σ)) ∧ (u23 = 0 → B_Md_energyOf_47 x1 K (fun a0 a1 a2 => L_Md_energyOf_8 x1 K n a0 a1 a2) v3 (0 : Int32) v2 σ))))))
theorem t_Md_energyOf_8 {X : Bx} {Y : Yx} {x1 : Int32} {K : Int32 → Sg → Prop}  (hY : YD Y) (C : Cx X Y prog_9_method_34_code 5 "LoadCyclesModel" 4 91) (hr : (xh X).sig.returnType = some .int)  : ∀ (n : Nat) (v2 : Int32) (v3 : Int32) (σ : Sg), L_Md_energyOf_8 x1 K n v2 v3 σ → St X Y 5 (QI X Y K) 8 [(0, .ref (ya Y 43)), (1, .int x1), (2, .int v2), (3, .int v3)] [] σ := by
  intro n
  induction n with
  | zero => intro v2 v3 σ h; exact h.elim
  | succ n ih =>
    intro v2 v3 σ h
    unfold L_Md_energyOf_8 at h
    refine q_iload_n (pc := 8) C d_Md_energyOf_8 rfl 3 rfl ?_
    refine q_aload_n (pc := 9) C d_Md_energyOf_9 rfl 0 rfl ?_
    refine q_get (pc := 10) (c := 43) (ci := 7) (k := 9) (v := .int (σ 43 9)) C rfl (by decide) (by decide) wd_742 rfl d_Md_energyOf_10 ?_
    obtain ⟨h4, h5⟩ := h
    refine q_icmp_ge (pc := 13) 55 C d_Md_energyOf_13 (by decide) (fun hc => ?_) (fun hc => ?_)
    · have h := h4 hc
      refine q_iload_n (pc := 55) C d_Md_energyOf_55 rfl 2 rfl ?_
      exact q_iret (pc := 56) C hr d_Md_energyOf_56 h
    have h := h5 hc
    refine q_aload_n (pc := 16) C d_Md_energyOf_16 rfl 0 rfl ?_
    refine q_get (pc := 17) (c := 43) (ci := 7) (k := 26) (v := .ref (ya Y 62)) C rfl (by decide) (by decide) wd_759 rfl d_Md_energyOf_17 ?_
    refine q_iload_n (pc := 20) C d_Md_energyOf_20 rfl 3 rfl ?_
    obtain ⟨h1, h⟩ := h
    refine q_iald (pc := 21) (c := 62) C ⟨rfl, rfl⟩ h1 d_Md_energyOf_21 ?_
    refine q_iload_n (pc := 22) C d_Md_energyOf_22 rfl 1 rfl ?_
    refine q_callSIr (pc := 23) (st := []) C (m_Md_digit hY h) mi_Md_digit wd_931 rfl rfl (Nat.le_of_ble_eq_true rfl) (by decide) (by decide) d_Md_energyOf_23 (fun u23 h => ?_)
    refine q_istore (pc := 26) [(4, .int u23), (0, .ref (ya Y 43)), (1, .int x1), (2, .int v2), (3, .int v3)] C d_Md_energyOf_26 (by decide) rfl ?_
    refine q_iload_n (pc := 28) C d_Md_energyOf_28 rfl 3 rfl ?_
    refine q_iload (pc := 29) C d_Md_energyOf_29 0 rfl ?_
    obtain ⟨h2, h3⟩ := h
    refine q_if_ne (pc := 31) 38 C d_Md_energyOf_31 (by decide) (fun hc => ?_) (fun hc => ?_)
    · have h := h2 hc
      refine q_aload_n (pc := 38) C d_Md_energyOf_38 rfl 1 rfl ?_
      refine q_iload_n (pc := 39) C d_Md_energyOf_39 rfl 2 rfl ?_
      refine q_iload (pc := 40) C d_Md_energyOf_40 0 rfl ?_
      refine q_iconst (pc := 42) (v := 1) C d_Md_energyOf_42 (by decide) ?_
      refine q_isub (pc := 43) C d_Md_energyOf_43 ?_
      refine q_callVIr (pc := 44) (st := [.int v2]) (d := 43) C (m_Md_powerOf hY h) mi_Md_powerOf rfl (by decide) rfl wd_885 rfl rfl (Nat.le_of_ble_eq_true rfl) (by decide) (by decide) d_Md_energyOf_44 (fun u44 h => ?_)
      refine q_sub [(0, .ref (ya Y 43)), (1, .int x1), (3, .int v3)] [1, 2, 4] rfl ?_
      exact t_Md_energyOf_47 hY C hr ih h
    have h := h3 hc
    refine q_iconst (pc := 34) (v := 0) C d_Md_energyOf_34 (by decide) ?_
    refine q_goto (pc := 35) 47 C d_Md_energyOf_35 (by decide) ?_
    refine q_sub [(0, .ref (ya Y 43)), (1, .int x1), (3, .int v3)] [1, 2, 4] rfl ?_
    exact t_Md_energyOf_47 hY C hr ih h
def w_Md_energyOf (x1 : Int32) (σ : Sg) (K : Int32 → Sg → Prop) : Prop :=
  w_Md_findBest σ (fun τ1 => (∃ n6 : Nat, L_Md_energyOf_8 x1 K n6 (0 : Int32) (0 : Int32) τ1))
set_option maxHeartbeats 4000000 in
theorem m_Md_energyOf {Y : Yx} {x1 : Int32} {σ : Sg} {K : Int32 → Sg → Prop} (hY : YD Y)  (h : w_Md_energyOf x1 σ K) : MetI Y y_Md_energyOf prog_9_method_34_code 5 (.int) 4 91 [.ref (ya Y 43), .int x1] σ K := by
  refine met_I [(0, .ref (ya Y 43)), (1, .int x1)] hY (by decide) (Nat.le_of_ble_eq_true rfl) rfl (fun X C hr => ?_)
  unfold w_Md_energyOf at h
  refine q_aload_n (pc := 0) C d_Md_energyOf_0 rfl 0 rfl ?_
  refine q_callVV (pc := 1) (st := []) (d := 43) C (m_Md_findBest hY h) mi_Md_findBest rfl (by decide) rfl wd_919 rfl rfl (Nat.le_of_ble_eq_true rfl) (by decide) (by decide) d_Md_energyOf_1 (fun τ1 h => ?_)
  refine q_iconst (pc := 4) (v := 0) C d_Md_energyOf_4 (by decide) ?_
  refine q_istore_n (pc := 5) [(2, .int (0 : Int32)), (0, .ref (ya Y 43)), (1, .int x1)] C d_Md_energyOf_5 rfl (by decide) rfl ?_
  refine q_iconst (pc := 6) (v := 0) C d_Md_energyOf_6 (by decide) ?_
  refine q_istore_n (pc := 7) [(3, .int (0 : Int32)), (2, .int (0 : Int32)), (0, .ref (ya Y 43)), (1, .int x1)] C d_Md_energyOf_7 rfl (by decide) rfl ?_
  obtain ⟨n6, h⟩ := h
  refine q_sub [(0, .ref (ya Y 43)), (1, .int x1), (2, .int (0 : Int32)), (3, .int (0 : Int32))] [2, 3, 1, 0] rfl ?_
  exact t_Md_energyOf_8 hY C hr n6 (0 : Int32) (0 : Int32) τ1 h
theorem d_Md_energies_0 : decode prog_9_method_37_code 0 = .ok (.iconst 0, 1) := by decide +kernel
theorem d_Md_energies_1 : decode prog_9_method_37_code 1 = .ok (.istore_n 1, 1) := by decide +kernel
theorem d_Md_energies_2 : decode prog_9_method_37_code 2 = .ok (.iconst 0, 1) := by decide +kernel
theorem d_Md_energies_3 : decode prog_9_method_37_code 3 = .ok (.istore_n 2, 1) := by decide +kernel
theorem d_Md_energies_4 : decode prog_9_method_37_code 4 = .ok (.iload_n 2, 1) := by decide +kernel
theorem d_Md_energies_5 : decode prog_9_method_37_code 5 = .ok (.aload_n 0, 1) := by decide +kernel
theorem d_Md_energies_6 : decode prog_9_method_37_code 6 = .ok (.getfield 93, 3) := by decide +kernel
theorem d_Md_energies_9 : decode prog_9_method_37_code 9 = .ok (.if_icmp .ge 17, 3) := by decide +kernel
theorem d_Md_energies_12 : decode prog_9_method_37_code 12 = .ok (.iload_n 1, 1) := by decide +kernel
theorem d_Md_energies_13 : decode prog_9_method_37_code 13 = .ok (.aload_n 0, 1) := by decide +kernel
theorem d_Md_energies_14 : decode prog_9_method_37_code 14 = .ok (.iload_n 2, 1) := by decide +kernel
theorem d_Md_energies_15 : decode prog_9_method_37_code 15 = .ok (.invokevirtual 211, 3) := by decide +kernel
theorem d_Md_energies_18 : decode prog_9_method_37_code 18 = .ok (.iadd, 1) := by decide +kernel
theorem d_Md_energies_19 : decode prog_9_method_37_code 19 = .ok (.istore_n 1, 1) := by decide +kernel
theorem d_Md_energies_20 : decode prog_9_method_37_code 20 = .ok (.iinc 2 1, 3) := by decide +kernel
theorem d_Md_energies_23 : decode prog_9_method_37_code 23 = .ok (.goto (-19), 3) := by decide +kernel
theorem d_Md_energies_26 : decode prog_9_method_37_code 26 = .ok (.iload_n 1, 1) := by decide +kernel
theorem d_Md_energies_27 : decode prog_9_method_37_code 27 = .ok (.ireturn, 1) := by decide +kernel
abbrev y_Md_energies : MethodName := ⟨"LoadCyclesModel", "energies", "()I"⟩
theorem mi_Md_energies : miV y_Md_energies prog_9_method_37_code 3 (some .int) 0 := ⟨wd_983, wd_51, wd_72, wd_984, by decide, by decide, by decide +kernel⟩
def L_Md_energies_4 (K : Int32 → Sg → Prop) : Nat → Int32 → Int32 → Sg → Prop
  | 0, _, _, _ => False
  | n + 1, v1, v2, σ =>
    (((σ 43 5) ≤ v2 → K v1 σ) ∧ (¬ (σ 43 5) ≤ v2 → w_Md_energyOf v2 σ (fun u15 τ15 => (∀ y1_19 : Int32, y1_19 = (v1 + u15) → L_Md_energies_4 K n y1_19 (v2 + (1 : Int32)) τ15))))
theorem t_Md_energies_4 {X : Bx} {Y : Yx}  {K : Int32 → Sg → Prop}  (hY : YD Y) (C : Cx X Y prog_9_method_37_code 3 "LoadCyclesModel" 5 115) (hr : (xh X).sig.returnType = some .int)  : ∀ (n : Nat) (v1 : Int32) (v2 : Int32) (σ : Sg), L_Md_energies_4 K n v1 v2 σ → St X Y 3 (QI X Y K) 4 [(0, .ref (ya Y 43)), (1, .int v1), (2, .int v2)] [] σ := by
  intro n
  induction n with
  | zero => intro v1 v2 σ h; exact h.elim
  | succ n ih =>
    intro v1 v2 σ h
    unfold L_Md_energies_4 at h
    refine q_iload_n (pc := 4) C d_Md_energies_4 rfl 2 rfl ?_
    refine q_aload_n (pc := 5) C d_Md_energies_5 rfl 0 rfl ?_
    refine q_get (pc := 6) (c := 43) (ci := 7) (k := 5) (v := .int (σ 43 5)) C rfl (by decide) (by decide) wd_738 rfl d_Md_energies_6 ?_
    obtain ⟨h1, h2⟩ := h
    refine q_icmp_ge (pc := 9) 26 C d_Md_energies_9 (by decide) (fun hc => ?_) (fun hc => ?_)
    · have h := h1 hc
      refine q_iload_n (pc := 26) C d_Md_energies_26 rfl 1 rfl ?_
      exact q_iret (pc := 27) C hr d_Md_energies_27 h
    have h := h2 hc
    refine q_iload_n (pc := 12) C d_Md_energies_12 rfl 1 rfl ?_
    refine q_aload_n (pc := 13) C d_Md_energies_13 rfl 0 rfl ?_
    refine q_iload_n (pc := 14) C d_Md_energies_14 rfl 2 rfl ?_
    refine q_callVI (pc := 15) (st := [.int v1]) (d := 43) C (m_Md_energyOf hY h) mi_Md_energyOf rfl (by decide) rfl wd_985 rfl rfl (Nat.le_of_ble_eq_true rfl) (by decide) (by decide) d_Md_energies_15 (fun u15 τ15 h => ?_)
    refine q_iadd (pc := 18) C d_Md_energies_18 ?_
    refine q_nmi (fun y1_19 ey1_19 => ?_)
    replace h := h y1_19 ey1_19
    refine q_istore_n (pc := 19) [(1, .int y1_19), (0, .ref (ya Y 43)), (2, .int v2)] C d_Md_energies_19 rfl (by decide) rfl ?_
    refine q_iinc (pc := 20) (v2 + (1 : Int32)) [(2, .int (v2 + (1 : Int32))), (1, .int y1_19), (0, .ref (ya Y 43))] C d_Md_energies_20 2 rfl rfl (by decide) rfl ?_
    refine q_goto (pc := 23) 4 C d_Md_energies_23 (by decide) ?_
    refine q_sub [(0, .ref (ya Y 43)), (1, .int y1_19), (2, .int (v2 + (1 : Int32)))] [2, 1, 0] rfl ?_
    exact ih y1_19 (v2 + (1 : Int32)) τ15 h
def w_Md_energies  (σ : Sg) (K : Int32 → Sg → Prop) : Prop :=
  (∃ n3 : Nat, L_Md_energies_4 K n3 (0 : Int32) (0 : Int32) σ)
set_option maxHeartbeats 4000000 in
theorem m_Md_energies {Y : Yx}  {σ : Sg} {K : Int32 → Sg → Prop} (hY : YD Y)  (h : w_Md_energies σ K) : MetI Y y_Md_energies prog_9_method_37_code 3 (.int) 5 115 [.ref (ya Y 43)] σ K := by
  refine met_I [(0, .ref (ya Y 43))] hY (by decide) (Nat.le_of_ble_eq_true rfl) rfl (fun X C hr => ?_)
  unfold w_Md_energies at h
  refine q_iconst (pc := 0) (v := 0) C d_Md_energies_0 (by decide) ?_
  refine q_istore_n (pc := 1) [(1, .int (0 : Int32)), (0, .ref (ya Y 43))] C d_Md_energies_1 rfl (by decide) rfl ?_
  refine q_iconst (pc := 2) (v := 0) C d_Md_energies_2 (by decide) ?_
  refine q_istore_n (pc := 3) [(2, .int (0 : Int32)), (1, .int (0 : Int32)), (0, .ref (ya Y 43))] C d_Md_energies_3 rfl (by decide) rfl ?_
  obtain ⟨n3, h⟩ := h
  refine q_sub [(0, .ref (ya Y 43)), (1, .int (0 : Int32)), (2, .int (0 : Int32))] [2, 1, 0] rfl ?_
  exact t_Md_energies_4 hY C hr n3 (0 : Int32) (0 : Int32) σ h
theorem d_Md_best_0 : decode prog_9_method_40_code 0 = .ok (.iload_n 1, 1) := by decide +kernel
theorem d_Md_best_1 : decode prog_9_method_40_code 1 = .ok (.i2l, 1) := by decide +kernel
theorem d_Md_best_2 : decode prog_9_method_40_code 2 = .ok (.lconst 0, 1) := by decide +kernel
theorem d_Md_best_3 : decode prog_9_method_40_code 3 = .ok (.ldc2_w 85, 3) := by decide +kernel
theorem d_Md_best_6 : decode prog_9_method_40_code 6 = .ok (.invokestatic 87, 3) := by decide +kernel
theorem d_Md_best_9 : decode prog_9_method_40_code 9 = .ok (.ifCond .ne 6, 3) := by decide +kernel
theorem d_Md_best_12 : decode prog_9_method_40_code 12 = .ok (.bipush (-2), 2) := by decide +kernel
theorem d_Md_best_14 : decode prog_9_method_40_code 14 = .ok (.ireturn, 1) := by decide +kernel
theorem d_Md_best_15 : decode prog_9_method_40_code 15 = .ok (.aload_n 0, 1) := by decide +kernel
theorem d_Md_best_16 : decode prog_9_method_40_code 16 = .ok (.getfield 93, 3) := by decide +kernel
theorem d_Md_best_19 : decode prog_9_method_40_code 19 = .ok (.ifCond .ne 6, 3) := by decide +kernel
theorem d_Md_best_22 : decode prog_9_method_40_code 22 = .ok (.bipush (-3), 2) := by decide +kernel
theorem d_Md_best_24 : decode prog_9_method_40_code 24 = .ok (.ireturn, 1) := by decide +kernel
theorem d_Md_best_25 : decode prog_9_method_40_code 25 = .ok (.iload_n 1, 1) := by decide +kernel
theorem d_Md_best_26 : decode prog_9_method_40_code 26 = .ok (.tableswitch 43 0 2 #[26, 31, 37], 26) := by decide +kernel
theorem d_Md_best_52 : decode prog_9_method_40_code 52 = .ok (.aload_n 0, 1) := by decide +kernel
theorem d_Md_best_53 : decode prog_9_method_40_code 53 = .ok (.invokevirtual 214, 3) := by decide +kernel
theorem d_Md_best_56 : decode prog_9_method_40_code 56 = .ok (.ireturn, 1) := by decide +kernel
theorem d_Md_best_57 : decode prog_9_method_40_code 57 = .ok (.aload_n 0, 1) := by decide +kernel
theorem d_Md_best_58 : decode prog_9_method_40_code 58 = .ok (.iconst 0, 1) := by decide +kernel
theorem d_Md_best_59 : decode prog_9_method_40_code 59 = .ok (.invokevirtual 218, 3) := by decide +kernel
theorem d_Md_best_62 : decode prog_9_method_40_code 62 = .ok (.ireturn, 1) := by decide +kernel
theorem d_Md_best_63 : decode prog_9_method_40_code 63 = .ok (.aload_n 0, 1) := by decide +kernel
theorem d_Md_best_64 : decode prog_9_method_40_code 64 = .ok (.iconst 1, 1) := by decide +kernel
theorem d_Md_best_65 : decode prog_9_method_40_code 65 = .ok (.invokevirtual 218, 3) := by decide +kernel
theorem d_Md_best_68 : decode prog_9_method_40_code 68 = .ok (.ireturn, 1) := by decide +kernel
theorem d_Md_best_69 : decode prog_9_method_40_code 69 = .ok (.aload_n 0, 1) := by decide +kernel
theorem d_Md_best_70 : decode prog_9_method_40_code 70 = .ok (.invokevirtual 222, 3) := by decide +kernel
theorem d_Md_best_73 : decode prog_9_method_40_code 73 = .ok (.ireturn, 1) := by decide +kernel
abbrev y_Md_best : MethodName := ⟨"LoadCyclesModel", "best", "(I)I"⟩
theorem mi_Md_best : miV y_Md_best prog_9_method_40_code 2 (some .int) 1 := ⟨wd_966, wd_967, wd_72, wd_968, by decide, by decide, by decide +kernel⟩
def w_Md_best (x1 : Int32) (σ : Sg) (K : Int32 → Sg → Prop) : Prop :=
  w_Md_within (x1.toInt64) (0 : Int64) (3 : Int64) σ (fun u6 => ((¬ u6 = 0 → ((¬ (σ 43 5) = 0 → ((x1 = (0 : Int32) → w_Md_rests σ (fun u53 τ53 => K u53 τ53)) ∧ (x1 = (1 : Int32) → w_Md_changes (0 : Int32) σ (fun u59 τ59 => K u59 τ59)) ∧ (x1 = (2 : Int32) → w_Md_changes (1 : Int32) σ (fun u65 τ65 => K u65 τ65)) ∧ (¬ x1 = (0 : Int32) → ¬ x1 = (1 : Int32) → ¬ x1 = (2 : Int32) → w_Md_energies σ (fun u70 τ70 => K u70 τ70)))) ∧ ((σ 43 5) = 0 → K (-3 : Int32) σ))) ∧ (u6 = 0 → K (-2 : Int32) σ)))
set_option maxHeartbeats 4000000 in
theorem m_Md_best {Y : Yx} {x1 : Int32} {σ : Sg} {K : Int32 → Sg → Prop} (hY : YD Y)  (h : w_Md_best x1 σ K) : MetI Y y_Md_best prog_9_method_40_code 2 (.int) 6 137 [.ref (ya Y 43), .int x1] σ K := by
  refine met_I [(0, .ref (ya Y 43)), (1, .int x1)] hY (by decide) (Nat.le_of_ble_eq_true rfl) rfl (fun X C hr => ?_)
  unfold w_Md_best at h
  refine q_iload_n (pc := 0) C d_Md_best_0 rfl 1 rfl ?_
  refine q_i2l (pc := 1) C d_Md_best_1 ?_
  refine q_lconst (pc := 2) (v := 0) C d_Md_best_2 (by decide) ?_
  refine q_ldc2 (pc := 3) C wd_840 d_Md_best_3 ?_
  refine q_callSIr (pc := 6) (st := []) C (m_Md_within hY h) mi_Md_within wd_841 rfl rfl (Nat.le_of_ble_eq_true rfl) (by decide) (by decide) d_Md_best_6 (fun u6 h => ?_)
  obtain ⟨h10, h11⟩ := h
  refine q_if_ne (pc := 9) 15 C d_Md_best_9 (by decide) (fun hc => ?_) (fun hc => ?_)
  · have h := h10 hc
    refine q_aload_n (pc := 15) C d_Md_best_15 rfl 0 rfl ?_
    refine q_get (pc := 16) (c := 43) (ci := 7) (k := 5) (v := .int (σ 43 5)) C rfl (by decide) (by decide) wd_738 rfl d_Md_best_16 ?_
    obtain ⟨h8, h9⟩ := h
    refine q_if_ne (pc := 19) 25 C d_Md_best_19 (by decide) (fun hc => ?_) (fun hc => ?_)
    · have h := h8 hc
      refine q_iload_n (pc := 25) C d_Md_best_25 rfl 1 rfl ?_
      obtain ⟨h2, h4, h6, h7⟩ := h
      by_cases h1 : x1 = (0 : Int32)
      · refine q_tableK (pc := 26) 52 (k := 0) (off := 26) C h1 (by decide) d_Md_best_26 (by decide) (by decide) (by decide) (by decide) ?_
        have h := h2 h1
        refine q_aload_n (pc := 52) C d_Md_best_52 rfl 0 rfl ?_
        refine q_callVI (pc := 53) (st := []) (d := 43) C (m_Md_rests hY h) mi_Md_rests rfl (by decide) rfl wd_969 rfl rfl (Nat.le_of_ble_eq_true rfl) (by decide) (by decide) d_Md_best_53 (fun u53 τ53 h => ?_)
        exact q_iret (pc := 56) C hr d_Md_best_56 h
      by_cases h3 : x1 = (1 : Int32)
      · refine q_tableK (pc := 26) 57 (k := 1) (off := 31) C h3 (by decide) d_Md_best_26 (by decide) (by decide) (by decide) (by decide) ?_
        have h := h4 h3
        refine q_aload_n (pc := 57) C d_Md_best_57 rfl 0 rfl ?_
        refine q_iconst (pc := 58) (v := 0) C d_Md_best_58 (by decide) ?_
        refine q_callVI (pc := 59) (st := []) (d := 43) C (m_Md_changes hY h) mi_Md_changes rfl (by decide) rfl wd_973 rfl rfl (Nat.le_of_ble_eq_true rfl) (by decide) (by decide) d_Md_best_59 (fun u59 τ59 h => ?_)
        exact q_iret (pc := 62) C hr d_Md_best_62 h
      by_cases h5 : x1 = (2 : Int32)
      · refine q_tableK (pc := 26) 63 (k := 2) (off := 37) C h5 (by decide) d_Md_best_26 (by decide) (by decide) (by decide) (by decide) ?_
        have h := h6 h5
        refine q_aload_n (pc := 63) C d_Md_best_63 rfl 0 rfl ?_
        refine q_iconst (pc := 64) (v := 1) C d_Md_best_64 (by decide) ?_
        refine q_callVI (pc := 65) (st := []) (d := 43) C (m_Md_changes hY h) mi_Md_changes rfl (by decide) rfl wd_973 rfl rfl (Nat.le_of_ble_eq_true rfl) (by decide) (by decide) d_Md_best_65 (fun u65 τ65 h => ?_)
        exact q_iret (pc := 68) C hr d_Md_best_68 h
      refine q_tableOut (pc := 26) 69 C d_Md_best_26 (by have g0 := sw_ne (k := 0) rfl h1; have g1 := sw_ne (k := 1) rfl h3; have g2 := sw_ne (k := 2) rfl h5; omega) (by decide) ?_
      have h := h7 h1 h3 h5
      refine q_aload_n (pc := 69) C d_Md_best_69 rfl 0 rfl ?_
      refine q_callVI (pc := 70) (st := []) (d := 43) C (m_Md_energies hY h) mi_Md_energies rfl (by decide) rfl wd_981 rfl rfl (Nat.le_of_ble_eq_true rfl) (by decide) (by decide) d_Md_best_70 (fun u70 τ70 h => ?_)
      exact q_iret (pc := 73) C hr d_Md_best_73 h
    have h := h9 hc
    refine q_bipush (pc := 22) (v := -3) C d_Md_best_22 (by decide) ?_
    exact q_iret (pc := 24) C hr d_Md_best_24 h
  have h := h11 hc
  refine q_bipush (pc := 12) (v := -2) C d_Md_best_12 (by decide) ?_
  exact q_iret (pc := 14) C hr d_Md_best_14 h
theorem d_Md_energy_0 : decode prog_9_method_41_code 0 = .ok (.aload_n 0, 1) := by decide +kernel
theorem d_Md_energy_1 : decode prog_9_method_41_code 1 = .ok (.iload_n 1, 1) := by decide +kernel
theorem d_Md_energy_2 : decode prog_9_method_41_code 2 = .ok (.invokevirtual 147, 3) := by decide +kernel
theorem d_Md_energy_5 : decode prog_9_method_41_code 5 = .ok (.ifCond .eq 11, 3) := by decide +kernel
theorem d_Md_energy_8 : decode prog_9_method_41_code 8 = .ok (.aload_n 0, 1) := by decide +kernel
theorem d_Md_energy_9 : decode prog_9_method_41_code 9 = .ok (.iload_n 1, 1) := by decide +kernel
theorem d_Md_energy_10 : decode prog_9_method_41_code 10 = .ok (.invokevirtual 211, 3) := by decide +kernel
theorem d_Md_energy_13 : decode prog_9_method_41_code 13 = .ok (.goto 4, 3) := by decide +kernel
theorem d_Md_energy_16 : decode prog_9_method_41_code 16 = .ok (.iconst (-1), 1) := by decide +kernel
theorem d_Md_energy_17 : decode prog_9_method_41_code 17 = .ok (.ireturn, 1) := by decide +kernel
abbrev y_Md_energy : MethodName := ⟨"LoadCyclesModel", "energy", "(I)I"⟩
theorem mi_Md_energy : miV y_Md_energy prog_9_method_41_code 2 (some .int) 1 := ⟨wd_990, wd_991, wd_72, wd_992, by decide, by decide, by decide +kernel⟩
def w_Md_energy (x1 : Int32) (σ : Sg) (K : Int32 → Sg → Prop) : Prop :=
  w_Md_isAppliance x1 σ (fun u2 => ((u2 = 0 → K (-1 : Int32) σ) ∧ (¬ u2 = 0 → w_Md_energyOf x1 σ (fun u10 τ10 => K u10 τ10))))
set_option maxHeartbeats 4000000 in
theorem m_Md_energy {Y : Yx} {x1 : Int32} {σ : Sg} {K : Int32 → Sg → Prop} (hY : YD Y)  (h : w_Md_energy x1 σ K) : MetI Y y_Md_energy prog_9_method_41_code 2 (.int) 5 115 [.ref (ya Y 43), .int x1] σ K := by
  refine met_I [(0, .ref (ya Y 43)), (1, .int x1)] hY (by decide) (Nat.le_of_ble_eq_true rfl) rfl (fun X C hr => ?_)
  unfold w_Md_energy at h
  refine q_aload_n (pc := 0) C d_Md_energy_0 rfl 0 rfl ?_
  refine q_iload_n (pc := 1) C d_Md_energy_1 rfl 1 rfl ?_
  refine q_callVIr (pc := 2) (st := []) (d := 43) C (m_Md_isAppliance hY h) mi_Md_isAppliance rfl (by decide) rfl wd_877 rfl rfl (Nat.le_of_ble_eq_true rfl) (by decide) (by decide) d_Md_energy_2 (fun u2 h => ?_)
  obtain ⟨h1, h2⟩ := h
  refine q_if_eq (pc := 5) 16 C d_Md_energy_5 (by decide) (fun hc => ?_) (fun hc => ?_)
  · have h := h1 hc
    refine q_iconst (pc := 16) (v := -1) C d_Md_energy_16 (by decide) ?_
    exact q_iret (pc := 17) C hr d_Md_energy_17 h
  have h := h2 hc
  refine q_aload_n (pc := 8) C d_Md_energy_8 rfl 0 rfl ?_
  refine q_iload_n (pc := 9) C d_Md_energy_9 rfl 1 rfl ?_
  refine q_callVI (pc := 10) (st := []) (d := 43) C (m_Md_energyOf hY h) mi_Md_energyOf rfl (by decide) rfl wd_985 rfl rfl (Nat.le_of_ble_eq_true rfl) (by decide) (by decide) d_Md_energy_10 (fun u10 τ10 h => ?_)
  refine q_goto (pc := 13) 17 C d_Md_energy_13 (by decide) ?_
  exact q_iret (pc := 17) C hr d_Md_energy_17 h
theorem d_Md_isPair_0 : decode prog_9_method_44_code 0 = .ok (.iload_n 1, 1) := by decide +kernel
theorem d_Md_isPair_1 : decode prog_9_method_44_code 1 = .ok (.i2l, 1) := by decide +kernel
theorem d_Md_isPair_2 : decode prog_9_method_44_code 2 = .ok (.lconst 0, 1) := by decide +kernel
theorem d_Md_isPair_3 : decode prog_9_method_44_code 3 = .ok (.ldc2_w 228, 3) := by decide +kernel
theorem d_Md_isPair_6 : decode prog_9_method_44_code 6 = .ok (.invokestatic 87, 3) := by decide +kernel
theorem d_Md_isPair_9 : decode prog_9_method_44_code 9 = .ok (.ifCond .eq 13, 3) := by decide +kernel
theorem d_Md_isPair_12 : decode prog_9_method_44_code 12 = .ok (.iload_n 0, 1) := by decide +kernel
theorem d_Md_isPair_13 : decode prog_9_method_44_code 13 = .ok (.i2l, 1) := by decide +kernel
theorem d_Md_isPair_14 : decode prog_9_method_44_code 14 = .ok (.lconst 1, 1) := by decide +kernel
theorem d_Md_isPair_15 : decode prog_9_method_44_code 15 = .ok (.ldc2_w 162, 3) := by decide +kernel
theorem d_Md_isPair_18 : decode prog_9_method_44_code 18 = .ok (.invokestatic 87, 3) := by decide +kernel
theorem d_Md_isPair_21 : decode prog_9_method_44_code 21 = .ok (.ireturn, 1) := by decide +kernel
theorem d_Md_isPair_22 : decode prog_9_method_44_code 22 = .ok (.iload_n 1, 1) := by decide +kernel
theorem d_Md_isPair_23 : decode prog_9_method_44_code 23 = .ok (.bipush 20, 2) := by decide +kernel
theorem d_Md_isPair_25 : decode prog_9_method_44_code 25 = .ok (.if_icmp .eq 17, 3) := by decide +kernel
theorem d_Md_isPair_28 : decode prog_9_method_44_code 28 = .ok (.iload_n 1, 1) := by decide +kernel
theorem d_Md_isPair_29 : decode prog_9_method_44_code 29 = .ok (.i2l, 1) := by decide +kernel
theorem d_Md_isPair_30 : decode prog_9_method_44_code 30 = .ok (.ldc2_w 230, 3) := by decide +kernel
theorem d_Md_isPair_33 : decode prog_9_method_44_code 33 = .ok (.ldc2_w 106, 3) := by decide +kernel
theorem d_Md_isPair_36 : decode prog_9_method_44_code 36 = .ok (.invokestatic 87, 3) := by decide +kernel
theorem d_Md_isPair_39 : decode prog_9_method_44_code 39 = .ok (.ifCond .eq 19, 3) := by decide +kernel
theorem d_Md_isPair_42 : decode prog_9_method_44_code 42 = .ok (.iload_n 0, 1) := by decide +kernel
theorem d_Md_isPair_43 : decode prog_9_method_44_code 43 = .ok (.i2l, 1) := by decide +kernel
theorem d_Md_isPair_44 : decode prog_9_method_44_code 44 = .ok (.lconst 0, 1) := by decide +kernel
theorem d_Md_isPair_45 : decode prog_9_method_44_code 45 = .ok (.ldc2_w 164, 3) := by decide +kernel
theorem d_Md_isPair_48 : decode prog_9_method_44_code 48 = .ok (.invokestatic 87, 3) := by decide +kernel
theorem d_Md_isPair_51 : decode prog_9_method_44_code 51 = .ok (.ifCond .eq 7, 3) := by decide +kernel
theorem d_Md_isPair_54 : decode prog_9_method_44_code 54 = .ok (.iconst 1, 1) := by decide +kernel
theorem d_Md_isPair_55 : decode prog_9_method_44_code 55 = .ok (.goto 4, 3) := by decide +kernel
theorem d_Md_isPair_58 : decode prog_9_method_44_code 58 = .ok (.iconst 0, 1) := by decide +kernel
theorem d_Md_isPair_59 : decode prog_9_method_44_code 59 = .ok (.ireturn, 1) := by decide +kernel
abbrev y_Md_isPair : MethodName := ⟨"LoadCyclesModel", "isPair", "(II)Z"⟩
theorem mi_Md_isPair : miS y_Md_isPair prog_9_method_44_code 2 (some .boolean) 2 := ⟨wd_1000, wd_72, wd_1001, by decide, by decide, by decide +kernel⟩
def B_Md_isPair_42 (x0 : Int32) (x1 : Int32) (σ : Sg) (K : Int32 → Prop)  : Prop :=
  w_Md_within (x0.toInt64) (0 : Int64) (99 : Int64) σ (fun u48 => ((u48 = 0 → K (0 : Int32)) ∧ (¬ u48 = 0 → K (1 : Int32))))
theorem t_Md_isPair_42 {X : Bx} {Y : Yx} {x0 : Int32} {x1 : Int32} {σ : Sg} {K : Int32 → Prop}  (hY : YD Y) (C : Cx X Y prog_9_method_44_code 2 "LoadCyclesModel" 1 25) (hr : (xh X).sig.returnType = some .boolean)   (h : B_Md_isPair_42 x0 x1 σ K) : St X Y 2 (QI X Y (fun r τ => τ = σ ∧ K r)) 42 [(0, .int x0)] [] σ := by
  unfold B_Md_isPair_42 at h
  refine q_iload_n (pc := 42) C d_Md_isPair_42 rfl 0 rfl ?_
  refine q_i2l (pc := 43) C d_Md_isPair_43 ?_
  refine q_lconst (pc := 44) (v := 0) C d_Md_isPair_44 (by decide) ?_
  refine q_ldc2 (pc := 45) C wd_898 d_Md_isPair_45 ?_
  refine q_callSIr (pc := 48) (st := []) C (m_Md_within hY h) mi_Md_within wd_841 rfl rfl (Nat.le_of_ble_eq_true rfl) (by decide) (by decide) d_Md_isPair_48 (fun u48 h => ?_)
  obtain ⟨h1, h2⟩ := h
  refine q_if_eq (pc := 51) 58 C d_Md_isPair_51 (by decide) (fun hc => ?_) (fun hc => ?_)
  · have h := h1 hc
    refine q_iconst (pc := 58) (v := 0) C d_Md_isPair_58 (by decide) ?_
    exact q_zret (pc := 59) C hr d_Md_isPair_59 bz0 ⟨rfl, h⟩
  have h := h2 hc
  refine q_iconst (pc := 54) (v := 1) C d_Md_isPair_54 (by decide) ?_
  refine q_goto (pc := 55) 59 C d_Md_isPair_55 (by decide) ?_
  exact q_zret (pc := 59) C hr d_Md_isPair_59 bz1 ⟨rfl, h⟩
def w_Md_isPair (x0 : Int32) (x1 : Int32) (σ : Sg) (K : Int32 → Prop) : Prop :=
  w_Md_within (x1.toInt64) (0 : Int64) (11 : Int64) σ (fun u6 => ((u6 = 0 → ((x1 = (20 : Int32) → B_Md_isPair_42 x0 x1 σ K) ∧ (¬ x1 = (20 : Int32) → w_Md_within (x1.toInt64) (30 : Int64) (49 : Int64) σ (fun u36 => ((u36 = 0 → K (0 : Int32)) ∧ (¬ u36 = 0 → B_Md_isPair_42 x0 x1 σ K)))))) ∧ (¬ u6 = 0 → w_Md_within (x0.toInt64) (1 : Int64) (9 : Int64) σ (fun u18 => (bz u18 ∧ K u18)))))
set_option maxHeartbeats 4000000 in
theorem m_Md_isPair {Y : Yx} {x0 : Int32} {x1 : Int32} {σ : Sg} {K : Int32 → Prop} (hY : YD Y)  (h : w_Md_isPair x0 x1 σ K) : MetI Y y_Md_isPair prog_9_method_44_code 2 (.boolean) 1 25 [.int x0, .int x1] σ (fun r τ => τ = σ ∧ K r) := by
  refine met_I [(0, .int x0), (1, .int x1)] hY (by decide) (Nat.le_of_ble_eq_true rfl) rfl (fun X C hr => ?_)
  unfold w_Md_isPair at h
  refine q_iload_n (pc := 0) C d_Md_isPair_0 rfl 1 rfl ?_
  refine q_i2l (pc := 1) C d_Md_isPair_1 ?_
  refine q_lconst (pc := 2) (v := 0) C d_Md_isPair_2 (by decide) ?_
  refine q_ldc2 (pc := 3) C wd_1002 d_Md_isPair_3 ?_
  refine q_callSIr (pc := 6) (st := []) C (m_Md_within hY h) mi_Md_within wd_841 rfl rfl (Nat.le_of_ble_eq_true rfl) (by decide) (by decide) d_Md_isPair_6 (fun u6 h => ?_)
  obtain ⟨h8, h9⟩ := h
  refine q_if_eq (pc := 9) 22 C d_Md_isPair_9 (by decide) (fun hc => ?_) (fun hc => ?_)
  · have h := h8 hc
    refine q_iload_n (pc := 22) C d_Md_isPair_22 rfl 1 rfl ?_
    refine q_bipush (pc := 23) (v := 20) C d_Md_isPair_23 (by decide) ?_
    obtain ⟨h5, h6⟩ := h
    refine q_icmp_eq (pc := 25) 42 C d_Md_isPair_25 (by decide) (fun hc => ?_) (fun hc => ?_)
    · have h := h5 hc
      refine q_sub [(0, .int x0)] [0] rfl ?_
      exact t_Md_isPair_42 hY C hr h
    have h := h6 hc
    refine q_iload_n (pc := 28) C d_Md_isPair_28 rfl 1 rfl ?_
    refine q_i2l (pc := 29) C d_Md_isPair_29 ?_
    refine q_ldc2 (pc := 30) C wd_1003 d_Md_isPair_30 ?_
    refine q_ldc2 (pc := 33) C wd_871 d_Md_isPair_33 ?_
    refine q_callSIr (pc := 36) (st := []) C (m_Md_within hY h) mi_Md_within wd_841 rfl rfl (Nat.le_of_ble_eq_true rfl) (by decide) (by decide) d_Md_isPair_36 (fun u36 h => ?_)
    obtain ⟨h3, h4⟩ := h
    refine q_if_eq (pc := 39) 58 C d_Md_isPair_39 (by decide) (fun hc => ?_) (fun hc => ?_)
    · have h := h3 hc
      refine q_iconst (pc := 58) (v := 0) C d_Md_isPair_58 (by decide) ?_
      exact q_zret (pc := 59) C hr d_Md_isPair_59 bz0 ⟨rfl, h⟩
    have h := h4 hc
    refine q_sub [(0, .int x0)] [0] rfl ?_
    exact t_Md_isPair_42 hY C hr h
  have h := h9 hc
  refine q_iload_n (pc := 12) C d_Md_isPair_12 rfl 0 rfl ?_
  refine q_i2l (pc := 13) C d_Md_isPair_13 ?_
  refine q_lconst (pc := 14) (v := 1) C d_Md_isPair_14 (by decide) ?_
  refine q_ldc2 (pc := 15) C wd_893 d_Md_isPair_15 ?_
  refine q_callSIr (pc := 18) (st := []) C (m_Md_within hY h) mi_Md_within wd_841 rfl rfl (Nat.le_of_ble_eq_true rfl) (by decide) (by decide) d_Md_isPair_18 (fun u18 h => ?_)
  obtain ⟨h7, h⟩ := h
  exact q_zret (pc := 21) C hr d_Md_isPair_21 h7 ⟨rfl, h⟩
theorem d_Md_keep_0 : decode prog_9_method_42_code 0 = .ok (.iconst 0, 1) := by decide +kernel
theorem d_Md_keep_1 : decode prog_9_method_42_code 1 = .ok (.istore_n 1, 1) := by decide +kernel
theorem d_Md_keep_2 : decode prog_9_method_42_code 2 = .ok (.iload_n 1, 1) := by decide +kernel
theorem d_Md_keep_3 : decode prog_9_method_42_code 3 = .ok (.bipush 12, 2) := by decide +kernel
theorem d_Md_keep_5 : decode prog_9_method_42_code 5 = .ok (.if_icmp .ge 21, 3) := by decide +kernel
theorem d_Md_keep_8 : decode prog_9_method_42_code 8 = .ok (.aload_n 0, 1) := by decide +kernel
theorem d_Md_keep_9 : decode prog_9_method_42_code 9 = .ok (.getfield 67, 3) := by decide +kernel
theorem d_Md_keep_12 : decode prog_9_method_42_code 12 = .ok (.iload_n 1, 1) := by decide +kernel
theorem d_Md_keep_13 : decode prog_9_method_42_code 13 = .ok (.aload_n 0, 1) := by decide +kernel
theorem d_Md_keep_14 : decode prog_9_method_42_code 14 = .ok (.getfield 25, 3) := by decide +kernel
theorem d_Md_keep_17 : decode prog_9_method_42_code 17 = .ok (.iload_n 1, 1) := by decide +kernel
theorem d_Md_keep_18 : decode prog_9_method_42_code 18 = .ok (.iaload, 1) := by decide +kernel
theorem d_Md_keep_19 : decode prog_9_method_42_code 19 = .ok (.iastore, 1) := by decide +kernel
theorem d_Md_keep_20 : decode prog_9_method_42_code 20 = .ok (.iinc 1 1, 3) := by decide +kernel
theorem d_Md_keep_23 : decode prog_9_method_42_code 23 = .ok (.goto (-21), 3) := by decide +kernel
theorem d_Md_keep_26 : decode prog_9_method_42_code 26 = .ok (.iconst 0, 1) := by decide +kernel
theorem d_Md_keep_27 : decode prog_9_method_42_code 27 = .ok (.istore_n 1, 1) := by decide +kernel
theorem d_Md_keep_28 : decode prog_9_method_42_code 28 = .ok (.iload_n 1, 1) := by decide +kernel
theorem d_Md_keep_29 : decode prog_9_method_42_code 29 = .ok (.bipush 20, 2) := by decide +kernel
theorem d_Md_keep_31 : decode prog_9_method_42_code 31 = .ok (.if_icmp .ge 21, 3) := by decide +kernel
theorem d_Md_keep_34 : decode prog_9_method_42_code 34 = .ok (.aload_n 0, 1) := by decide +kernel
theorem d_Md_keep_35 : decode prog_9_method_42_code 35 = .ok (.getfield 70, 3) := by decide +kernel
theorem d_Md_keep_38 : decode prog_9_method_42_code 38 = .ok (.iload_n 1, 1) := by decide +kernel
theorem d_Md_keep_39 : decode prog_9_method_42_code 39 = .ok (.aload_n 0, 1) := by decide +kernel
theorem d_Md_keep_40 : decode prog_9_method_42_code 40 = .ok (.getfield 28, 3) := by decide +kernel
theorem d_Md_keep_43 : decode prog_9_method_42_code 43 = .ok (.iload_n 1, 1) := by decide +kernel
theorem d_Md_keep_44 : decode prog_9_method_42_code 44 = .ok (.iaload, 1) := by decide +kernel
theorem d_Md_keep_45 : decode prog_9_method_42_code 45 = .ok (.iastore, 1) := by decide +kernel
theorem d_Md_keep_46 : decode prog_9_method_42_code 46 = .ok (.iinc 1 1, 3) := by decide +kernel
theorem d_Md_keep_49 : decode prog_9_method_42_code 49 = .ok (.goto (-21), 3) := by decide +kernel
theorem d_Md_keep_52 : decode prog_9_method_42_code 52 = .ok (.aload_n 0, 1) := by decide +kernel
theorem d_Md_keep_53 : decode prog_9_method_42_code 53 = .ok (.aload_n 0, 1) := by decide +kernel
theorem d_Md_keep_54 : decode prog_9_method_42_code 54 = .ok (.getfield 137, 3) := by decide +kernel
theorem d_Md_keep_57 : decode prog_9_method_42_code 57 = .ok (.putfield 225, 3) := by decide +kernel
theorem d_Md_keep_60 : decode prog_9_method_42_code 60 = .ok (.aload_n 0, 1) := by decide +kernel
theorem d_Md_keep_61 : decode prog_9_method_42_code 61 = .ok (.iconst 0, 1) := by decide +kernel
theorem d_Md_keep_62 : decode prog_9_method_42_code 62 = .ok (.putfield 143, 3) := by decide +kernel
theorem d_Md_keep_65 : decode prog_9_method_42_code 65 = .ok (.return_, 1) := by decide +kernel
abbrev y_Md_keep : MethodName := ⟨"LoadCyclesModel", "keep", "()V"⟩
theorem mi_Md_keep : miV y_Md_keep prog_9_method_42_code 2 none 0 := ⟨wd_1006, wd_53, wd_72, wd_1007, by decide, by decide, by decide +kernel⟩
def L_Md_keep_28 (K : Sg → Prop) : Nat → Int32 → Sg → Prop
  | 0, _, _ => False
  | n + 1, v1, σ =>
    (((20 : Int32) ≤ v1 → (∀ τ57 : Sg, τ57 = s2 σ 43 29 (σ 43 11) → (∀ τ62 : Sg, τ62 = s2 τ57 43 17 (0 : Int32) → K τ62))) ∧ (¬ (20 : Int32) ≤ v1 → (vp_in v1 20 ∧ (vp_in v1 20 ∧ (∀ τ45 : Sg, τ45 = s2 σ 64 v1.toNatClampNeg (σ 50 v1.toNatClampNeg) → L_Md_keep_28 K n (v1 + (1 : Int32)) τ45)))))
theorem t_Md_keep_28 {X : Bx} {Y : Yx}  {K : Sg → Prop}  (hY : YD Y) (C : Cx X Y prog_9_method_42_code 2 "LoadCyclesModel" 0 0) (hr : (xh X).sig.returnType = none)  : ∀ (n : Nat) (v1 : Int32) (σ : Sg), L_Md_keep_28 K n v1 σ → St X Y 2 (QV X Y K) 28 [(0, .ref (ya Y 43)), (1, .int v1)] [] σ := by
  intro n
  induction n with
  | zero => intro v1 σ h; exact h.elim
  | succ n ih =>
    intro v1 σ h
    unfold L_Md_keep_28 at h
    refine q_iload_n (pc := 28) C d_Md_keep_28 rfl 1 rfl ?_
    refine q_bipush (pc := 29) (v := 20) C d_Md_keep_29 (by decide) ?_
    obtain ⟨h3, h4⟩ := h
    refine q_icmp_ge (pc := 31) 52 C d_Md_keep_31 (by decide) (fun hc => ?_) (fun hc => ?_)
    · have h := h3 hc
      refine q_aload_n (pc := 52) C d_Md_keep_52 rfl 0 rfl ?_
      refine q_aload_n (pc := 53) C d_Md_keep_53 rfl 0 rfl ?_
      refine q_get (pc := 54) (c := 43) (ci := 7) (k := 11) (v := .int (σ 43 11)) C rfl (by decide) (by decide) wd_744 rfl d_Md_keep_54 ?_
      refine q_put (pc := 57) (c := 43) (ci := 7) (k := 29) C rfl (by decide) (by decide) wd_762 rfl rfl rfl fs_7_29 d_Md_keep_57 ?_
      refine q_nms (fun τ57 eτ57 => ?_)
      replace h := h τ57 eτ57
      refine q_aload_n (pc := 60) C d_Md_keep_60 rfl 0 rfl ?_
      refine q_iconst (pc := 61) (v := 0) C d_Md_keep_61 (by decide) ?_
      refine q_put (pc := 62) (c := 43) (ci := 7) (k := 17) C rfl (by decide) (by decide) wd_750 rfl rfl rfl fs_7_17 d_Md_keep_62 ?_
      refine q_nms (fun τ62 eτ62 => ?_)
      replace h := h τ62 eτ62
      exact q_vret (pc := 65) C hr d_Md_keep_65 h
    have h := h4 hc
    refine q_aload_n (pc := 34) C d_Md_keep_34 rfl 0 rfl ?_
    refine q_get (pc := 35) (c := 43) (ci := 7) (k := 28) (v := .ref (ya Y 64)) C rfl (by decide) (by decide) wd_761 rfl d_Md_keep_35 ?_
    refine q_iload_n (pc := 38) C d_Md_keep_38 rfl 1 rfl ?_
    refine q_aload_n (pc := 39) C d_Md_keep_39 rfl 0 rfl ?_
    refine q_get (pc := 40) (c := 43) (ci := 7) (k := 10) (v := .ref (ya Y 50)) C rfl (by decide) (by decide) wd_743 rfl d_Md_keep_40 ?_
    refine q_iload_n (pc := 43) C d_Md_keep_43 rfl 1 rfl ?_
    obtain ⟨h1, h⟩ := h
    refine q_iald (pc := 44) (c := 50) C ⟨rfl, rfl⟩ h1 d_Md_keep_44 ?_
    obtain ⟨h2, h⟩ := h
    refine q_iast (pc := 45) (c := 64) C ⟨rfl, rfl⟩ h2 d_Md_keep_45 ?_
    refine q_nms (fun τ45 eτ45 => ?_)
    replace h := h τ45 eτ45
    refine q_iinc (pc := 46) (v1 + (1 : Int32)) [(1, .int (v1 + (1 : Int32))), (0, .ref (ya Y 43))] C d_Md_keep_46 1 rfl rfl (by decide) rfl ?_
    refine q_goto (pc := 49) 28 C d_Md_keep_49 (by decide) ?_
    refine q_sub [(0, .ref (ya Y 43)), (1, .int (v1 + (1 : Int32)))] [1, 0] rfl ?_
    exact ih (v1 + (1 : Int32)) τ45 h
def L_Md_keep_2 (K : Sg → Prop) : Nat → Int32 → Sg → Prop
  | 0, _, _ => False
  | n + 1, v1, σ =>
    (((12 : Int32) ≤ v1 → (∃ n5 : Nat, L_Md_keep_28 K n5 (0 : Int32) σ)) ∧ (¬ (12 : Int32) ≤ v1 → (vp_in v1 12 ∧ (vp_in v1 12 ∧ (∀ τ19 : Sg, τ19 = s2 σ 63 v1.toNatClampNeg (σ 49 v1.toNatClampNeg) → L_Md_keep_2 K n (v1 + (1 : Int32)) τ19)))))
theorem t_Md_keep_2 {X : Bx} {Y : Yx}  {K : Sg → Prop}  (hY : YD Y) (C : Cx X Y prog_9_method_42_code 2 "LoadCyclesModel" 0 0) (hr : (xh X).sig.returnType = none)  : ∀ (n : Nat) (v1 : Int32) (σ : Sg), L_Md_keep_2 K n v1 σ → St X Y 2 (QV X Y K) 2 [(0, .ref (ya Y 43)), (1, .int v1)] [] σ := by
  intro n
  induction n with
  | zero => intro v1 σ h; exact h.elim
  | succ n ih =>
    intro v1 σ h
    unfold L_Md_keep_2 at h
    refine q_iload_n (pc := 2) C d_Md_keep_2 rfl 1 rfl ?_
    refine q_bipush (pc := 3) (v := 12) C d_Md_keep_3 (by decide) ?_
    obtain ⟨h8, h9⟩ := h
    refine q_icmp_ge (pc := 5) 26 C d_Md_keep_5 (by decide) (fun hc => ?_) (fun hc => ?_)
    · have h := h8 hc
      refine q_iconst (pc := 26) (v := 0) C d_Md_keep_26 (by decide) ?_
      refine q_istore_n (pc := 27) [(1, .int (0 : Int32)), (0, .ref (ya Y 43))] C d_Md_keep_27 rfl (by decide) rfl ?_
      obtain ⟨n5, h⟩ := h
      refine q_sub [(0, .ref (ya Y 43)), (1, .int (0 : Int32))] [1, 0] rfl ?_
      exact t_Md_keep_28 hY C hr n5 (0 : Int32) σ h
    have h := h9 hc
    refine q_aload_n (pc := 8) C d_Md_keep_8 rfl 0 rfl ?_
    refine q_get (pc := 9) (c := 43) (ci := 7) (k := 27) (v := .ref (ya Y 63)) C rfl (by decide) (by decide) wd_760 rfl d_Md_keep_9 ?_
    refine q_iload_n (pc := 12) C d_Md_keep_12 rfl 1 rfl ?_
    refine q_aload_n (pc := 13) C d_Md_keep_13 rfl 0 rfl ?_
    refine q_get (pc := 14) (c := 43) (ci := 7) (k := 8) (v := .ref (ya Y 49)) C rfl (by decide) (by decide) wd_741 rfl d_Md_keep_14 ?_
    refine q_iload_n (pc := 17) C d_Md_keep_17 rfl 1 rfl ?_
    obtain ⟨h6, h⟩ := h
    refine q_iald (pc := 18) (c := 49) C ⟨rfl, rfl⟩ h6 d_Md_keep_18 ?_
    obtain ⟨h7, h⟩ := h
    refine q_iast (pc := 19) (c := 63) C ⟨rfl, rfl⟩ h7 d_Md_keep_19 ?_
    refine q_nms (fun τ19 eτ19 => ?_)
    replace h := h τ19 eτ19
    refine q_iinc (pc := 20) (v1 + (1 : Int32)) [(1, .int (v1 + (1 : Int32))), (0, .ref (ya Y 43))] C d_Md_keep_20 1 rfl rfl (by decide) rfl ?_
    refine q_goto (pc := 23) 2 C d_Md_keep_23 (by decide) ?_
    refine q_sub [(0, .ref (ya Y 43)), (1, .int (v1 + (1 : Int32)))] [1, 0] rfl ?_
    exact ih (v1 + (1 : Int32)) τ19 h
def w_Md_keep  (σ : Sg) (K : Sg → Prop) : Prop :=
  (∃ n10 : Nat, L_Md_keep_2 K n10 (0 : Int32) σ)
set_option maxHeartbeats 4000000 in
theorem m_Md_keep {Y : Yx}  {σ : Sg} {K : Sg → Prop} (hY : YD Y)  (h : w_Md_keep σ K) : MetV Y y_Md_keep prog_9_method_42_code 2 0 0 [.ref (ya Y 43)] σ K := by
  refine met_V [(0, .ref (ya Y 43))] hY (by decide) (Nat.le_of_ble_eq_true rfl) rfl (fun X C hr => ?_)
  unfold w_Md_keep at h
  refine q_iconst (pc := 0) (v := 0) C d_Md_keep_0 (by decide) ?_
  refine q_istore_n (pc := 1) [(1, .int (0 : Int32)), (0, .ref (ya Y 43))] C d_Md_keep_1 rfl (by decide) rfl ?_
  obtain ⟨n10, h⟩ := h
  refine q_sub [(0, .ref (ya Y 43)), (1, .int (0 : Int32))] [1, 0] rfl ?_
  exact t_Md_keep_2 hY C hr n10 (0 : Int32) σ h
theorem d_Md_canAct_0 : decode prog_9_method_45_code 0 = .ok (.iload_n 2, 1) := by decide +kernel
theorem d_Md_canAct_1 : decode prog_9_method_45_code 1 = .ok (.bipush 12, 2) := by decide +kernel
theorem d_Md_canAct_3 : decode prog_9_method_45_code 3 = .ok (.if_icmp .ge 33, 3) := by decide +kernel
theorem d_Md_canAct_6 : decode prog_9_method_45_code 6 = .ok (.iload_n 2, 1) := by decide +kernel
theorem d_Md_canAct_7 : decode prog_9_method_45_code 7 = .ok (.iconst 3, 1) := by decide +kernel
theorem d_Md_canAct_8 : decode prog_9_method_45_code 8 = .ok (.idiv, 1) := by decide +kernel
theorem d_Md_canAct_9 : decode prog_9_method_45_code 9 = .ok (.aload_n 0, 1) := by decide +kernel
theorem d_Md_canAct_10 : decode prog_9_method_45_code 10 = .ok (.getfield 93, 3) := by decide +kernel
theorem d_Md_canAct_13 : decode prog_9_method_45_code 13 = .ok (.if_icmp .ge 21, 3) := by decide +kernel
theorem d_Md_canAct_16 : decode prog_9_method_45_code 16 = .ok (.iload_n 2, 1) := by decide +kernel
theorem d_Md_canAct_17 : decode prog_9_method_45_code 17 = .ok (.iconst 3, 1) := by decide +kernel
theorem d_Md_canAct_18 : decode prog_9_method_45_code 18 = .ok (.irem, 1) := by decide +kernel
theorem d_Md_canAct_19 : decode prog_9_method_45_code 19 = .ok (.aload_n 0, 1) := by decide +kernel
theorem d_Md_canAct_20 : decode prog_9_method_45_code 20 = .ok (.getfield 22, 3) := by decide +kernel
theorem d_Md_canAct_23 : decode prog_9_method_45_code 23 = .ok (.iload_n 2, 1) := by decide +kernel
theorem d_Md_canAct_24 : decode prog_9_method_45_code 24 = .ok (.iconst 3, 1) := by decide +kernel
theorem d_Md_canAct_25 : decode prog_9_method_45_code 25 = .ok (.idiv, 1) := by decide +kernel
theorem d_Md_canAct_26 : decode prog_9_method_45_code 26 = .ok (.iaload, 1) := by decide +kernel
theorem d_Md_canAct_27 : decode prog_9_method_45_code 27 = .ok (.if_icmp .ge 7, 3) := by decide +kernel
theorem d_Md_canAct_30 : decode prog_9_method_45_code 30 = .ok (.iconst 1, 1) := by decide +kernel
theorem d_Md_canAct_31 : decode prog_9_method_45_code 31 = .ok (.goto 4, 3) := by decide +kernel
theorem d_Md_canAct_34 : decode prog_9_method_45_code 34 = .ok (.iconst 0, 1) := by decide +kernel
theorem d_Md_canAct_35 : decode prog_9_method_45_code 35 = .ok (.ireturn, 1) := by decide +kernel
theorem d_Md_canAct_36 : decode prog_9_method_45_code 36 = .ok (.iload_n 2, 1) := by decide +kernel
theorem d_Md_canAct_37 : decode prog_9_method_45_code 37 = .ok (.bipush 20, 2) := by decide +kernel
theorem d_Md_canAct_39 : decode prog_9_method_45_code 39 = .ok (.if_icmp .ne 11, 3) := by decide +kernel
theorem d_Md_canAct_42 : decode prog_9_method_45_code 42 = .ok (.aload_n 0, 1) := by decide +kernel
theorem d_Md_canAct_43 : decode prog_9_method_45_code 43 = .ok (.iload_n 1, 1) := by decide +kernel
theorem d_Md_canAct_44 : decode prog_9_method_45_code 44 = .ok (.invokevirtual 169, 3) := by decide +kernel
theorem d_Md_canAct_47 : decode prog_9_method_45_code 47 = .ok (.goto 27, 3) := by decide +kernel
theorem d_Md_canAct_50 : decode prog_9_method_45_code 50 = .ok (.iload_n 2, 1) := by decide +kernel
theorem d_Md_canAct_51 : decode prog_9_method_45_code 51 = .ok (.bipush 30, 2) := by decide +kernel
theorem d_Md_canAct_53 : decode prog_9_method_45_code 53 = .ok (.isub, 1) := by decide +kernel
theorem d_Md_canAct_54 : decode prog_9_method_45_code 54 = .ok (.aload_n 0, 1) := by decide +kernel
theorem d_Md_canAct_55 : decode prog_9_method_45_code 55 = .ok (.getfield 96, 3) := by decide +kernel
theorem d_Md_canAct_58 : decode prog_9_method_45_code 58 = .ok (.if_icmp .ge 15, 3) := by decide +kernel
theorem d_Md_canAct_61 : decode prog_9_method_45_code 61 = .ok (.iload_n 1, 1) := by decide +kernel
theorem d_Md_canAct_62 : decode prog_9_method_45_code 62 = .ok (.aload_n 0, 1) := by decide +kernel
theorem d_Md_canAct_63 : decode prog_9_method_45_code 63 = .ok (.getfield 137, 3) := by decide +kernel
theorem d_Md_canAct_66 : decode prog_9_method_45_code 66 = .ok (.if_icmp .lt 7, 3) := by decide +kernel
theorem d_Md_canAct_69 : decode prog_9_method_45_code 69 = .ok (.iconst 1, 1) := by decide +kernel
theorem d_Md_canAct_70 : decode prog_9_method_45_code 70 = .ok (.goto 4, 3) := by decide +kernel
theorem d_Md_canAct_73 : decode prog_9_method_45_code 73 = .ok (.iconst 0, 1) := by decide +kernel
theorem d_Md_canAct_74 : decode prog_9_method_45_code 74 = .ok (.ireturn, 1) := by decide +kernel
abbrev y_Md_canAct : MethodName := ⟨"LoadCyclesModel", "canAct", "(II)Z"⟩
theorem mi_Md_canAct : miV y_Md_canAct prog_9_method_45_code 3 (some .boolean) 2 := ⟨wd_1014, wd_55, wd_72, wd_1015, by decide, by decide, by decide +kernel⟩
def w_Md_canAct (x1 : Int32) (x2 : Int32) (σ : Sg) (K : Int32 → Prop) : Prop :=
  (((12 : Int32) ≤ x2 → ((¬ x2 = (20 : Int32) → (((σ 43 9) ≤ (x2 - (30 : Int32)) → K (0 : Int32)) ∧ (¬ (σ 43 9) ≤ (x2 - (30 : Int32)) → ((x1 < (σ 43 11) → K (0 : Int32)) ∧ (¬ x1 < (σ 43 11) → K (1 : Int32)))))) ∧ (x2 = (20 : Int32) → w_Md_canBase x1 σ (fun u44 => (bz u44 ∧ K u44))))) ∧ (¬ (12 : Int32) ≤ x2 → (¬ (3 : Int32) = 0 ∧ (((σ 43 5) ≤ (x2 / (3 : Int32)) → K (0 : Int32)) ∧ (¬ (σ 43 5) ≤ (x2 / (3 : Int32)) → (¬ (3 : Int32) = 0 ∧ (¬ (3 : Int32) = 0 ∧ (vp_in (x2 / (3 : Int32)) 4 ∧ (((σ 48 (x2 / (3 : Int32)).toNatClampNeg) ≤ (x2 - x2 / (3 : Int32) * (3 : Int32)) → K (0 : Int32)) ∧ (¬ (σ 48 (x2 / (3 : Int32)).toNatClampNeg) ≤ (x2 - x2 / (3 : Int32) * (3 : Int32)) → K (1 : Int32)))))))))))
set_option maxHeartbeats 4000000 in
theorem m_Md_canAct {Y : Yx} {x1 : Int32} {x2 : Int32} {σ : Sg} {K : Int32 → Prop} (hY : YD Y)  (h : w_Md_canAct x1 x2 σ K) : MetI Y y_Md_canAct prog_9_method_45_code 3 (.boolean) 1 22 [.ref (ya Y 43), .int x1, .int x2] σ (fun r τ => τ = σ ∧ K r) := by
  refine met_I [(0, .ref (ya Y 43)), (1, .int x1), (2, .int x2)] hY (by decide) (Nat.le_of_ble_eq_true rfl) rfl (fun X C hr => ?_)
  unfold w_Md_canAct at h
  refine q_iload_n (pc := 0) C d_Md_canAct_0 rfl 2 rfl ?_
  refine q_bipush (pc := 1) (v := 12) C d_Md_canAct_1 (by decide) ?_
  obtain ⟨h16, h17⟩ := h
  refine q_icmp_ge (pc := 3) 36 C d_Md_canAct_3 (by decide) (fun hc => ?_) (fun hc => ?_)
  · have h := h16 hc
    refine q_iload_n (pc := 36) C d_Md_canAct_36 rfl 2 rfl ?_
    refine q_bipush (pc := 37) (v := 20) C d_Md_canAct_37 (by decide) ?_
    obtain ⟨h6, h7⟩ := h
    refine q_icmp_ne (pc := 39) 50 C d_Md_canAct_39 (by decide) (fun hc => ?_) (fun hc => ?_)
    · have h := h6 hc
      refine q_iload_n (pc := 50) C d_Md_canAct_50 rfl 2 rfl ?_
      refine q_bipush (pc := 51) (v := 30) C d_Md_canAct_51 (by decide) ?_
      refine q_isub (pc := 53) C d_Md_canAct_53 ?_
      refine q_aload_n (pc := 54) C d_Md_canAct_54 rfl 0 rfl ?_
      refine q_get (pc := 55) (c := 43) (ci := 7) (k := 9) (v := .int (σ 43 9)) C rfl (by decide) (by decide) wd_742 rfl d_Md_canAct_55 ?_
      obtain ⟨h3, h4⟩ := h
      refine q_icmp_ge (pc := 58) 73 C d_Md_canAct_58 (by decide) (fun hc => ?_) (fun hc => ?_)
      · have h := h3 hc
        refine q_iconst (pc := 73) (v := 0) C d_Md_canAct_73 (by decide) ?_
        exact q_zret (pc := 74) C hr d_Md_canAct_74 bz0 ⟨rfl, h⟩
      have h := h4 hc
      refine q_iload_n (pc := 61) C d_Md_canAct_61 rfl 1 rfl ?_
      refine q_aload_n (pc := 62) C d_Md_canAct_62 rfl 0 rfl ?_
      refine q_get (pc := 63) (c := 43) (ci := 7) (k := 11) (v := .int (σ 43 11)) C rfl (by decide) (by decide) wd_744 rfl d_Md_canAct_63 ?_
      obtain ⟨h1, h2⟩ := h
      refine q_icmp_lt (pc := 66) 73 C d_Md_canAct_66 (by decide) (fun hc => ?_) (fun hc => ?_)
      · have h := h1 hc
        refine q_iconst (pc := 73) (v := 0) C d_Md_canAct_73 (by decide) ?_
        exact q_zret (pc := 74) C hr d_Md_canAct_74 bz0 ⟨rfl, h⟩
      have h := h2 hc
      refine q_iconst (pc := 69) (v := 1) C d_Md_canAct_69 (by decide) ?_
      refine q_goto (pc := 70) 74 C d_Md_canAct_70 (by decide) ?_
      exact q_zret (pc := 74) C hr d_Md_canAct_74 bz1 ⟨rfl, h⟩
    have h := h7 hc
    refine q_aload_n (pc := 42) C d_Md_canAct_42 rfl 0 rfl ?_
    refine q_iload_n (pc := 43) C d_Md_canAct_43 rfl 1 rfl ?_
    refine q_callVIr (pc := 44) (st := []) (d := 43) C (m_Md_canBase hY h) mi_Md_canBase rfl (by decide) rfl wd_911 rfl rfl (Nat.le_of_ble_eq_true rfl) (by decide) (by decide) d_Md_canAct_44 (fun u44 h => ?_)
    refine q_goto (pc := 47) 74 C d_Md_canAct_47 (by decide) ?_
    obtain ⟨h5, h⟩ := h
    exact q_zret (pc := 74) C hr d_Md_canAct_74 h5 ⟨rfl, h⟩
  have h := h17 hc
  refine q_iload_n (pc := 6) C d_Md_canAct_6 rfl 2 rfl ?_
  refine q_iconst (pc := 7) (v := 3) C d_Md_canAct_7 (by decide) ?_
  obtain ⟨h8, h⟩ := h
  refine q_idiv (pc := 8) C d_Md_canAct_8 h8 ?_
  refine q_aload_n (pc := 9) C d_Md_canAct_9 rfl 0 rfl ?_
  refine q_get (pc := 10) (c := 43) (ci := 7) (k := 5) (v := .int (σ 43 5)) C rfl (by decide) (by decide) wd_738 rfl d_Md_canAct_10 ?_
  obtain ⟨h14, h15⟩ := h
  refine q_icmp_ge (pc := 13) 34 C d_Md_canAct_13 (by decide) (fun hc => ?_) (fun hc => ?_)
  · have h := h14 hc
    refine q_iconst (pc := 34) (v := 0) C d_Md_canAct_34 (by decide) ?_
    exact q_zret (pc := 35) C hr d_Md_canAct_35 bz0 ⟨rfl, h⟩
  have h := h15 hc
  refine q_iload_n (pc := 16) C d_Md_canAct_16 rfl 2 rfl ?_
  refine q_iconst (pc := 17) (v := 3) C d_Md_canAct_17 (by decide) ?_
  obtain ⟨h9, h⟩ := h
  refine q_irem (pc := 18) C d_Md_canAct_18 h9 ?_
  refine q_aload_n (pc := 19) C d_Md_canAct_19 rfl 0 rfl ?_
  refine q_get (pc := 20) (c := 43) (ci := 7) (k := 7) (v := .ref (ya Y 48)) C rfl (by decide) (by decide) wd_740 rfl d_Md_canAct_20 ?_
  refine q_iload_n (pc := 23) C d_Md_canAct_23 rfl 2 rfl ?_
  refine q_iconst (pc := 24) (v := 3) C d_Md_canAct_24 (by decide) ?_
  obtain ⟨h10, h⟩ := h
  refine q_idiv (pc := 25) C d_Md_canAct_25 h10 ?_
  obtain ⟨h11, h⟩ := h
  refine q_iald (pc := 26) (c := 48) C ⟨rfl, rfl⟩ h11 d_Md_canAct_26 ?_
  obtain ⟨h12, h13⟩ := h
  refine q_icmp_ge (pc := 27) 34 C d_Md_canAct_27 (by decide) (fun hc => ?_) (fun hc => ?_)
  · have h := h12 hc
    refine q_iconst (pc := 34) (v := 0) C d_Md_canAct_34 (by decide) ?_
    exact q_zret (pc := 35) C hr d_Md_canAct_35 bz0 ⟨rfl, h⟩
  have h := h13 hc
  refine q_iconst (pc := 30) (v := 1) C d_Md_canAct_30 (by decide) ?_
  refine q_goto (pc := 31) 35 C d_Md_canAct_31 (by decide) ?_
  exact q_zret (pc := 35) C hr d_Md_canAct_35 bz1 ⟨rfl, h⟩
theorem d_Md_goDay_0 : decode prog_9_method_46_code 0 = .ok (.iconst 0, 1) := by decide +kernel
theorem d_Md_goDay_1 : decode prog_9_method_46_code 1 = .ok (.istore_n 3, 1) := by decide +kernel
theorem d_Md_goDay_2 : decode prog_9_method_46_code 2 = .ok (.iload_n 3, 1) := by decide +kernel
theorem d_Md_goDay_3 : decode prog_9_method_46_code 3 = .ok (.iload_n 2, 1) := by decide +kernel
theorem d_Md_goDay_4 : decode prog_9_method_46_code 4 = .ok (.if_icmp .ge 95, 3) := by decide +kernel
theorem d_Md_goDay_7 : decode prog_9_method_46_code 7 = .ok (.aload_n 0, 1) := by decide +kernel
theorem d_Md_goDay_8 : decode prog_9_method_46_code 8 = .ok (.getfield 16, 3) := by decide +kernel
theorem d_Md_goDay_11 : decode prog_9_method_46_code 11 = .ok (.iload_n 1, 1) := by decide +kernel
theorem d_Md_goDay_12 : decode prog_9_method_46_code 12 = .ok (.iconst 2, 1) := by decide +kernel
theorem d_Md_goDay_13 : decode prog_9_method_46_code 13 = .ok (.iload_n 3, 1) := by decide +kernel
theorem d_Md_goDay_14 : decode prog_9_method_46_code 14 = .ok (.imul, 1) := by decide +kernel
theorem d_Md_goDay_15 : decode prog_9_method_46_code 15 = .ok (.iadd, 1) := by decide +kernel
theorem d_Md_goDay_16 : decode prog_9_method_46_code 16 = .ok (.iaload, 1) := by decide +kernel
theorem d_Md_goDay_17 : decode prog_9_method_46_code 17 = .ok (.istore 4, 2) := by decide +kernel
theorem d_Md_goDay_19 : decode prog_9_method_46_code 19 = .ok (.aload_n 0, 1) := by decide +kernel
theorem d_Md_goDay_20 : decode prog_9_method_46_code 20 = .ok (.getfield 16, 3) := by decide +kernel
theorem d_Md_goDay_23 : decode prog_9_method_46_code 23 = .ok (.iload_n 1, 1) := by decide +kernel
theorem d_Md_goDay_24 : decode prog_9_method_46_code 24 = .ok (.iconst 2, 1) := by decide +kernel
theorem d_Md_goDay_25 : decode prog_9_method_46_code 25 = .ok (.iload_n 3, 1) := by decide +kernel
theorem d_Md_goDay_26 : decode prog_9_method_46_code 26 = .ok (.imul, 1) := by decide +kernel
theorem d_Md_goDay_27 : decode prog_9_method_46_code 27 = .ok (.iadd, 1) := by decide +kernel
theorem d_Md_goDay_28 : decode prog_9_method_46_code 28 = .ok (.iconst 1, 1) := by decide +kernel
theorem d_Md_goDay_29 : decode prog_9_method_46_code 29 = .ok (.iadd, 1) := by decide +kernel
theorem d_Md_goDay_30 : decode prog_9_method_46_code 30 = .ok (.iaload, 1) := by decide +kernel
theorem d_Md_goDay_31 : decode prog_9_method_46_code 31 = .ok (.istore 5, 2) := by decide +kernel
theorem d_Md_goDay_33 : decode prog_9_method_46_code 33 = .ok (.aload_n 0, 1) := by decide +kernel
theorem d_Md_goDay_34 : decode prog_9_method_46_code 34 = .ok (.iload 4, 2) := by decide +kernel
theorem d_Md_goDay_36 : decode prog_9_method_46_code 36 = .ok (.iload 5, 2) := by decide +kernel
theorem d_Md_goDay_38 : decode prog_9_method_46_code 38 = .ok (.invokevirtual 232, 3) := by decide +kernel
theorem d_Md_goDay_41 : decode prog_9_method_46_code 41 = .ok (.ifCond .ne 5, 3) := by decide +kernel
theorem d_Md_goDay_44 : decode prog_9_method_46_code 44 = .ok (.iload_n 3, 1) := by decide +kernel
theorem d_Md_goDay_45 : decode prog_9_method_46_code 45 = .ok (.ireturn, 1) := by decide +kernel
theorem d_Md_goDay_46 : decode prog_9_method_46_code 46 = .ok (.iload 5, 2) := by decide +kernel
theorem d_Md_goDay_48 : decode prog_9_method_46_code 48 = .ok (.bipush 12, 2) := by decide +kernel
theorem d_Md_goDay_50 : decode prog_9_method_46_code 50 = .ok (.if_icmp .ge 15, 3) := by decide +kernel
theorem d_Md_goDay_53 : decode prog_9_method_46_code 53 = .ok (.aload_n 0, 1) := by decide +kernel
theorem d_Md_goDay_54 : decode prog_9_method_46_code 54 = .ok (.getfield 25, 3) := by decide +kernel
theorem d_Md_goDay_57 : decode prog_9_method_46_code 57 = .ok (.iload 5, 2) := by decide +kernel
theorem d_Md_goDay_59 : decode prog_9_method_46_code 59 = .ok (.iload 4, 2) := by decide +kernel
theorem d_Md_goDay_61 : decode prog_9_method_46_code 61 = .ok (.iastore, 1) := by decide +kernel
theorem d_Md_goDay_62 : decode prog_9_method_46_code 62 = .ok (.goto 31, 3) := by decide +kernel
theorem d_Md_goDay_65 : decode prog_9_method_46_code 65 = .ok (.iload 5, 2) := by decide +kernel
theorem d_Md_goDay_67 : decode prog_9_method_46_code 67 = .ok (.bipush 20, 2) := by decide +kernel
theorem d_Md_goDay_69 : decode prog_9_method_46_code 69 = .ok (.if_icmp .ne 12, 3) := by decide +kernel
theorem d_Md_goDay_72 : decode prog_9_method_46_code 72 = .ok (.aload_n 0, 1) := by decide +kernel
theorem d_Md_goDay_73 : decode prog_9_method_46_code 73 = .ok (.iload 4, 2) := by decide +kernel
theorem d_Md_goDay_75 : decode prog_9_method_46_code 75 = .ok (.putfield 137, 3) := by decide +kernel
theorem d_Md_goDay_78 : decode prog_9_method_46_code 78 = .ok (.goto 15, 3) := by decide +kernel
theorem d_Md_goDay_81 : decode prog_9_method_46_code 81 = .ok (.aload_n 0, 1) := by decide +kernel
theorem d_Md_goDay_82 : decode prog_9_method_46_code 82 = .ok (.getfield 28, 3) := by decide +kernel
theorem d_Md_goDay_85 : decode prog_9_method_46_code 85 = .ok (.iload 5, 2) := by decide +kernel
theorem d_Md_goDay_87 : decode prog_9_method_46_code 87 = .ok (.bipush 30, 2) := by decide +kernel
theorem d_Md_goDay_89 : decode prog_9_method_46_code 89 = .ok (.isub, 1) := by decide +kernel
theorem d_Md_goDay_90 : decode prog_9_method_46_code 90 = .ok (.iload 4, 2) := by decide +kernel
theorem d_Md_goDay_92 : decode prog_9_method_46_code 92 = .ok (.iastore, 1) := by decide +kernel
theorem d_Md_goDay_93 : decode prog_9_method_46_code 93 = .ok (.iinc 3 1, 3) := by decide +kernel
theorem d_Md_goDay_96 : decode prog_9_method_46_code 96 = .ok (.goto (-94), 3) := by decide +kernel
theorem d_Md_goDay_99 : decode prog_9_method_46_code 99 = .ok (.bipush (-9), 2) := by decide +kernel
theorem d_Md_goDay_101 : decode prog_9_method_46_code 101 = .ok (.ireturn, 1) := by decide +kernel
abbrev y_Md_goDay : MethodName := ⟨"LoadCyclesModel", "goDay", "(II)I"⟩
theorem mi_Md_goDay : miV y_Md_goDay prog_9_method_46_code 6 (some .int) 2 := ⟨wd_1010, wd_54, wd_72, wd_1011, by decide, by decide, by decide +kernel⟩
def L_Md_goDay_2 (x1 : Int32) (x2 : Int32) (K : Int32 → Sg → Prop) : Nat → Int32 → Sg → Prop
  | 0, _, _ => False
  | n + 1, v3, σ =>
    ((x2 ≤ v3 → K (-9 : Int32) σ) ∧ (¬ x2 ≤ v3 → (vp_in (x1 + ((2 : Int32) * v3)) 240 ∧ (∀ y4_17 : Int32, y4_17 = (σ 46 (x1 + ((2 : Int32) * v3)).toNatClampNeg) → (vp_in ((x1 + ((2 : Int32) * v3)) + (1 : Int32)) 240 ∧ (∀ y5_31 : Int32, y5_31 = (σ 46 ((x1 + ((2 : Int32) * v3)) + (1 : Int32)).toNatClampNeg) → w_Md_canAct y4_17 y5_31 σ (fun u38 => ((¬ u38 = 0 → (((12 : Int32) ≤ y5_31 → ((¬ y5_31 = (20 : Int32) → (vp_in (y5_31 - (30 : Int32)) 20 ∧ (∀ τ92 : Sg, τ92 = s2 σ 50 (y5_31 - (30 : Int32)).toNatClampNeg y4_17 → L_Md_goDay_2 x1 x2 K n (v3 + (1 : Int32)) τ92))) ∧ (y5_31 = (20 : Int32) → (∀ τ75 : Sg, τ75 = s2 σ 43 11 y4_17 → L_Md_goDay_2 x1 x2 K n (v3 + (1 : Int32)) τ75)))) ∧ (¬ (12 : Int32) ≤ y5_31 → (vp_in y5_31 12 ∧ (∀ τ61 : Sg, τ61 = s2 σ 49 y5_31.toNatClampNeg y4_17 → L_Md_goDay_2 x1 x2 K n (v3 + (1 : Int32)) τ61))))) ∧ (u38 = 0 → K v3 σ)))))))))
theorem t_Md_goDay_2 {X : Bx} {Y : Yx} {x1 : Int32} {x2 : Int32} {K : Int32 → Sg → Prop}  (hY : YD Y) (C : Cx X Y prog_9_method_46_code 6 "LoadCyclesModel" 2 44) (hr : (xh X).sig.returnType = some .int)  : ∀ (n : Nat) (v3 : Int32) (σ : Sg), L_Md_goDay_2 x1 x2 K n v3 σ → St X Y 6 (QI X Y K) 2 [(0, .ref (ya Y 43)), (1, .int x1), (2, .int x2), (3, .int v3)] [] σ := by
  intro n
  induction n with
  | zero => intro v3 σ h; exact h.elim
  | succ n ih =>
    intro v3 σ h
    unfold L_Md_goDay_2 at h
    refine q_iload_n (pc := 2) C d_Md_goDay_2 rfl 3 rfl ?_
    refine q_iload_n (pc := 3) C d_Md_goDay_3 rfl 2 rfl ?_
    obtain ⟨h11, h12⟩ := h
    refine q_icmp_ge (pc := 4) 99 C d_Md_goDay_4 (by decide) (fun hc => ?_) (fun hc => ?_)
    · have h := h11 hc
      refine q_bipush (pc := 99) (v := -9) C d_Md_goDay_99 (by decide) ?_
      exact q_iret (pc := 101) C hr d_Md_goDay_101 h
    have h := h12 hc
    refine q_aload_n (pc := 7) C d_Md_goDay_7 rfl 0 rfl ?_
    refine q_get (pc := 8) (c := 43) (ci := 7) (k := 4) (v := .ref (ya Y 46)) C rfl (by decide) (by decide) wd_737 rfl d_Md_goDay_8 ?_
    refine q_iload_n (pc := 11) C d_Md_goDay_11 rfl 1 rfl ?_
    refine q_iconst (pc := 12) (v := 2) C d_Md_goDay_12 (by decide) ?_
    refine q_iload_n (pc := 13) C d_Md_goDay_13 rfl 3 rfl ?_
    refine q_imul (pc := 14) C d_Md_goDay_14 ?_
    refine q_iadd (pc := 15) C d_Md_goDay_15 ?_
    obtain ⟨h1, h⟩ := h
    refine q_iald (pc := 16) (c := 46) C ⟨rfl, rfl⟩ h1 d_Md_goDay_16 ?_
    refine q_nmi (fun y4_17 ey4_17 => ?_)
    replace h := h y4_17 ey4_17
    refine q_istore (pc := 17) [(4, .int y4_17), (0, .ref (ya Y 43)), (1, .int x1), (2, .int x2), (3, .int v3)] C d_Md_goDay_17 (by decide) rfl ?_
    refine q_aload_n (pc := 19) C d_Md_goDay_19 rfl 1 rfl ?_
    refine q_get (pc := 20) (c := 43) (ci := 7) (k := 4) (v := .ref (ya Y 46)) C rfl (by decide) (by decide) wd_737 rfl d_Md_goDay_20 ?_
    refine q_iload_n (pc := 23) C d_Md_goDay_23 rfl 2 rfl ?_
    refine q_iconst (pc := 24) (v := 2) C d_Md_goDay_24 (by decide) ?_
    refine q_iload_n (pc := 25) C d_Md_goDay_25 rfl 4 rfl ?_
    refine q_imul (pc := 26) C d_Md_goDay_26 ?_
    refine q_iadd (pc := 27) C d_Md_goDay_27 ?_
    refine q_iconst (pc := 28) (v := 1) C d_Md_goDay_28 (by decide) ?_
    refine q_iadd (pc := 29) C d_Md_goDay_29 ?_
    obtain ⟨h2, h⟩ := h
    refine q_iald (pc := 30) (c := 46) C ⟨rfl, rfl⟩ h2 d_Md_goDay_30 ?_
    refine q_nmi (fun y5_31 ey5_31 => ?_)
    replace h := h y5_31 ey5_31
    refine q_istore (pc := 31) [(5, .int y5_31), (4, .int y4_17), (0, .ref (ya Y 43)), (1, .int x1), (2, .int x2), (3, .int v3)] C d_Md_goDay_31 (by decide) rfl ?_
    refine q_aload_n (pc := 33) C d_Md_goDay_33 rfl 2 rfl ?_
    refine q_iload (pc := 34) C d_Md_goDay_34 1 rfl ?_
    refine q_iload (pc := 36) C d_Md_goDay_36 0 rfl ?_
    refine q_callVIr (pc := 38) (st := []) (d := 43) C (m_Md_canAct hY h) mi_Md_canAct rfl (by decide) rfl wd_1012 rfl rfl (Nat.le_of_ble_eq_true rfl) (by decide) (by decide) d_Md_goDay_38 (fun u38 h => ?_)
    obtain ⟨h9, h10⟩ := h
    refine q_if_ne (pc := 41) 46 C d_Md_goDay_41 (by decide) (fun hc => ?_) (fun hc => ?_)
    · have h := h9 hc
      refine q_iload (pc := 46) C d_Md_goDay_46 0 rfl ?_
      refine q_bipush (pc := 48) (v := 12) C d_Md_goDay_48 (by decide) ?_
      obtain ⟨h7, h8⟩ := h
      refine q_icmp_ge (pc := 50) 65 C d_Md_goDay_50 (by decide) (fun hc => ?_) (fun hc => ?_)
      · have h := h7 hc
        refine q_iload (pc := 65) C d_Md_goDay_65 0 rfl ?_
        refine q_bipush (pc := 67) (v := 20) C d_Md_goDay_67 (by decide) ?_
        obtain ⟨h4, h5⟩ := h
        refine q_icmp_ne (pc := 69) 81 C d_Md_goDay_69 (by decide) (fun hc => ?_) (fun hc => ?_)
        · have h := h4 hc
          refine q_aload_n (pc := 81) C d_Md_goDay_81 rfl 2 rfl ?_
          refine q_get (pc := 82) (c := 43) (ci := 7) (k := 10) (v := .ref (ya Y 50)) C rfl (by decide) (by decide) wd_743 rfl d_Md_goDay_82 ?_
          refine q_iload (pc := 85) C d_Md_goDay_85 0 rfl ?_
          refine q_bipush (pc := 87) (v := 30) C d_Md_goDay_87 (by decide) ?_
          refine q_isub (pc := 89) C d_Md_goDay_89 ?_
          refine q_iload (pc := 90) C d_Md_goDay_90 1 rfl ?_
          obtain ⟨h3, h⟩ := h
          refine q_iast (pc := 92) (c := 50) C ⟨rfl, rfl⟩ h3 d_Md_goDay_92 ?_
          refine q_nms (fun τ92 eτ92 => ?_)
          replace h := h τ92 eτ92
          refine q_iinc (pc := 93) (v3 + (1 : Int32)) [(3, .int (v3 + (1 : Int32))), (5, .int y5_31), (4, .int y4_17), (0, .ref (ya Y 43)), (1, .int x1), (2, .int x2)] C d_Md_goDay_93 5 rfl rfl (by decide) rfl ?_
          refine q_goto (pc := 96) 2 C d_Md_goDay_96 (by decide) ?_
          refine q_sub [(0, .ref (ya Y 43)), (1, .int x1), (2, .int x2), (3, .int (v3 + (1 : Int32)))] [3, 4, 5, 0] rfl ?_
          exact ih (v3 + (1 : Int32)) τ92 h
        have h := h5 hc
        refine q_aload_n (pc := 72) C d_Md_goDay_72 rfl 2 rfl ?_
        refine q_iload (pc := 73) C d_Md_goDay_73 1 rfl ?_
        refine q_put (pc := 75) (c := 43) (ci := 7) (k := 11) C rfl (by decide) (by decide) wd_744 rfl rfl rfl fs_7_11 d_Md_goDay_75 ?_
        refine q_nms (fun τ75 eτ75 => ?_)
        replace h := h τ75 eτ75
        refine q_goto (pc := 78) 93 C d_Md_goDay_78 (by decide) ?_
        refine q_iinc (pc := 93) (v3 + (1 : Int32)) [(3, .int (v3 + (1 : Int32))), (5, .int y5_31), (4, .int y4_17), (0, .ref (ya Y 43)), (1, .int x1), (2, .int x2)] C d_Md_goDay_93 5 rfl rfl (by decide) rfl ?_
        refine q_goto (pc := 96) 2 C d_Md_goDay_96 (by decide) ?_
        refine q_sub [(0, .ref (ya Y 43)), (1, .int x1), (2, .int x2), (3, .int (v3 + (1 : Int32)))] [3, 4, 5, 0] rfl ?_
        exact ih (v3 + (1 : Int32)) τ75 h
      have h := h8 hc
      refine q_aload_n (pc := 53) C d_Md_goDay_53 rfl 2 rfl ?_
      refine q_get (pc := 54) (c := 43) (ci := 7) (k := 8) (v := .ref (ya Y 49)) C rfl (by decide) (by decide) wd_741 rfl d_Md_goDay_54 ?_
      refine q_iload (pc := 57) C d_Md_goDay_57 0 rfl ?_
      refine q_iload (pc := 59) C d_Md_goDay_59 1 rfl ?_
      obtain ⟨h6, h⟩ := h
      refine q_iast (pc := 61) (c := 49) C ⟨rfl, rfl⟩ h6 d_Md_goDay_61 ?_
      refine q_nms (fun τ61 eτ61 => ?_)
      replace h := h τ61 eτ61
      refine q_goto (pc := 62) 93 C d_Md_goDay_62 (by decide) ?_
      refine q_iinc (pc := 93) (v3 + (1 : Int32)) [(3, .int (v3 + (1 : Int32))), (5, .int y5_31), (4, .int y4_17), (0, .ref (ya Y 43)), (1, .int x1), (2, .int x2)] C d_Md_goDay_93 5 rfl rfl (by decide) rfl ?_
      refine q_goto (pc := 96) 2 C d_Md_goDay_96 (by decide) ?_
      refine q_sub [(0, .ref (ya Y 43)), (1, .int x1), (2, .int x2), (3, .int (v3 + (1 : Int32)))] [3, 4, 5, 0] rfl ?_
      exact ih (v3 + (1 : Int32)) τ61 h
    have h := h10 hc
    refine q_iload_n (pc := 44) C d_Md_goDay_44 rfl 5 rfl ?_
    exact q_iret (pc := 45) C hr d_Md_goDay_45 h
def w_Md_goDay (x1 : Int32) (x2 : Int32) (σ : Sg) (K : Int32 → Sg → Prop) : Prop :=
  (∃ n13 : Nat, L_Md_goDay_2 x1 x2 K n13 (0 : Int32) σ)
set_option maxHeartbeats 4000000 in
theorem m_Md_goDay {Y : Yx} {x1 : Int32} {x2 : Int32} {σ : Sg} {K : Int32 → Sg → Prop} (hY : YD Y)  (h : w_Md_goDay x1 x2 σ K) : MetI Y y_Md_goDay prog_9_method_46_code 6 (.int) 2 44 [.ref (ya Y 43), .int x1, .int x2] σ K := by
  refine met_I [(0, .ref (ya Y 43)), (1, .int x1), (2, .int x2)] hY (by decide) (Nat.le_of_ble_eq_true rfl) rfl (fun X C hr => ?_)
  unfold w_Md_goDay at h
  refine q_iconst (pc := 0) (v := 0) C d_Md_goDay_0 (by decide) ?_
  refine q_istore_n (pc := 1) [(3, .int (0 : Int32)), (0, .ref (ya Y 43)), (1, .int x1), (2, .int x2)] C d_Md_goDay_1 rfl (by decide) rfl ?_
  obtain ⟨n13, h⟩ := h
  refine q_sub [(0, .ref (ya Y 43)), (1, .int x1), (2, .int x2), (3, .int (0 : Int32))] [1, 2, 3, 0] rfl ?_
  exact t_Md_goDay_2 hY C hr n13 (0 : Int32) σ h
theorem d_Md_tellDay_0 : decode prog_9_method_48_code 0 = .ok (.iload_n 1, 1) := by decide +kernel
theorem d_Md_tellDay_1 : decode prog_9_method_48_code 1 = .ok (.tableswitch 59 0 4 #[35, 40, 42, 48, 54], 35) := by decide +kernel
theorem d_Md_tellDay_36 : decode prog_9_method_48_code 36 = .ok (.aload_n 0, 1) := by decide +kernel
theorem d_Md_tellDay_37 : decode prog_9_method_48_code 37 = .ok (.invokevirtual 214, 3) := by decide +kernel
theorem d_Md_tellDay_40 : decode prog_9_method_48_code 40 = .ok (.ireturn, 1) := by decide +kernel
theorem d_Md_tellDay_41 : decode prog_9_method_48_code 41 = .ok (.iconst 0, 1) := by decide +kernel
theorem d_Md_tellDay_42 : decode prog_9_method_48_code 42 = .ok (.ireturn, 1) := by decide +kernel
theorem d_Md_tellDay_43 : decode prog_9_method_48_code 43 = .ok (.aload_n 0, 1) := by decide +kernel
theorem d_Md_tellDay_44 : decode prog_9_method_48_code 44 = .ok (.iconst 0, 1) := by decide +kernel
theorem d_Md_tellDay_45 : decode prog_9_method_48_code 45 = .ok (.invokevirtual 218, 3) := by decide +kernel
theorem d_Md_tellDay_48 : decode prog_9_method_48_code 48 = .ok (.ireturn, 1) := by decide +kernel
theorem d_Md_tellDay_49 : decode prog_9_method_48_code 49 = .ok (.aload_n 0, 1) := by decide +kernel
theorem d_Md_tellDay_50 : decode prog_9_method_48_code 50 = .ok (.iconst 1, 1) := by decide +kernel
theorem d_Md_tellDay_51 : decode prog_9_method_48_code 51 = .ok (.invokevirtual 218, 3) := by decide +kernel
theorem d_Md_tellDay_54 : decode prog_9_method_48_code 54 = .ok (.ireturn, 1) := by decide +kernel
theorem d_Md_tellDay_55 : decode prog_9_method_48_code 55 = .ok (.aload_n 0, 1) := by decide +kernel
theorem d_Md_tellDay_56 : decode prog_9_method_48_code 56 = .ok (.invokevirtual 222, 3) := by decide +kernel
theorem d_Md_tellDay_59 : decode prog_9_method_48_code 59 = .ok (.ireturn, 1) := by decide +kernel
theorem d_Md_tellDay_60 : decode prog_9_method_48_code 60 = .ok (.aload_n 0, 1) := by decide +kernel
theorem d_Md_tellDay_61 : decode prog_9_method_48_code 61 = .ok (.iload_n 1, 1) := by decide +kernel
theorem d_Md_tellDay_62 : decode prog_9_method_48_code 62 = .ok (.bipush 10, 2) := by decide +kernel
theorem d_Md_tellDay_64 : decode prog_9_method_48_code 64 = .ok (.isub, 1) := by decide +kernel
theorem d_Md_tellDay_65 : decode prog_9_method_48_code 65 = .ok (.invokevirtual 147, 3) := by decide +kernel
theorem d_Md_tellDay_68 : decode prog_9_method_48_code 68 = .ok (.ifCond .eq 14, 3) := by decide +kernel
theorem d_Md_tellDay_71 : decode prog_9_method_48_code 71 = .ok (.aload_n 0, 1) := by decide +kernel
theorem d_Md_tellDay_72 : decode prog_9_method_48_code 72 = .ok (.iload_n 1, 1) := by decide +kernel
theorem d_Md_tellDay_73 : decode prog_9_method_48_code 73 = .ok (.bipush 10, 2) := by decide +kernel
theorem d_Md_tellDay_75 : decode prog_9_method_48_code 75 = .ok (.isub, 1) := by decide +kernel
theorem d_Md_tellDay_76 : decode prog_9_method_48_code 76 = .ok (.invokevirtual 211, 3) := by decide +kernel
theorem d_Md_tellDay_79 : decode prog_9_method_48_code 79 = .ok (.goto 5, 3) := by decide +kernel
theorem d_Md_tellDay_82 : decode prog_9_method_48_code 82 = .ok (.bipush (-9), 2) := by decide +kernel
theorem d_Md_tellDay_84 : decode prog_9_method_48_code 84 = .ok (.ireturn, 1) := by decide +kernel
abbrev y_Md_tellDay : MethodName := ⟨"LoadCyclesModel", "tellDay", "(I)I"⟩
theorem mi_Md_tellDay : miV y_Md_tellDay prog_9_method_48_code 2 (some .int) 1 := ⟨wd_1018, wd_56, wd_72, wd_1019, by decide, by decide, by decide +kernel⟩
def w_Md_tellDay (x1 : Int32) (σ : Sg) (K : Int32 → Sg → Prop) : Prop :=
  ((x1 = (0 : Int32) → w_Md_rests σ (fun u37 τ37 => K u37 τ37)) ∧ (x1 = (1 : Int32) → K (0 : Int32) σ) ∧ (x1 = (2 : Int32) → w_Md_changes (0 : Int32) σ (fun u45 τ45 => K u45 τ45)) ∧ (x1 = (3 : Int32) → w_Md_changes (1 : Int32) σ (fun u51 τ51 => K u51 τ51)) ∧ (x1 = (4 : Int32) → w_Md_energies σ (fun u56 τ56 => K u56 τ56)) ∧ (¬ x1 = (0 : Int32) → ¬ x1 = (1 : Int32) → ¬ x1 = (2 : Int32) → ¬ x1 = (3 : Int32) → ¬ x1 = (4 : Int32) → w_Md_isAppliance (x1 - (10 : Int32)) σ (fun u65 => ((u65 = 0 → K (-9 : Int32) σ) ∧ (¬ u65 = 0 → w_Md_energyOf (x1 - (10 : Int32)) σ (fun u76 τ76 => K u76 τ76))))))
set_option maxHeartbeats 4000000 in
theorem m_Md_tellDay {Y : Yx} {x1 : Int32} {σ : Sg} {K : Int32 → Sg → Prop} (hY : YD Y)  (h : w_Md_tellDay x1 σ K) : MetI Y y_Md_tellDay prog_9_method_48_code 2 (.int) 6 137 [.ref (ya Y 43), .int x1] σ K := by
  refine met_I [(0, .ref (ya Y 43)), (1, .int x1)] hY (by decide) (Nat.le_of_ble_eq_true rfl) rfl (fun X C hr => ?_)
  unfold w_Md_tellDay at h
  refine q_iload_n (pc := 0) C d_Md_tellDay_0 rfl 1 rfl ?_
  obtain ⟨h2, h4, h6, h8, h10, h13⟩ := h
  by_cases h1 : x1 = (0 : Int32)
  · refine q_tableK (pc := 1) 36 (k := 0) (off := 35) C h1 (by decide) d_Md_tellDay_1 (by decide) (by decide) (by decide) (by decide) ?_
    have h := h2 h1
    refine q_aload_n (pc := 36) C d_Md_tellDay_36 rfl 0 rfl ?_
    refine q_callVI (pc := 37) (st := []) (d := 43) C (m_Md_rests hY h) mi_Md_rests rfl (by decide) rfl wd_969 rfl rfl (Nat.le_of_ble_eq_true rfl) (by decide) (by decide) d_Md_tellDay_37 (fun u37 τ37 h => ?_)
    exact q_iret (pc := 40) C hr d_Md_tellDay_40 h
  by_cases h3 : x1 = (1 : Int32)
  · refine q_tableK (pc := 1) 41 (k := 1) (off := 40) C h3 (by decide) d_Md_tellDay_1 (by decide) (by decide) (by decide) (by decide) ?_
    have h := h4 h3
    refine q_iconst (pc := 41) (v := 0) C d_Md_tellDay_41 (by decide) ?_
    exact q_iret (pc := 42) C hr d_Md_tellDay_42 h
  by_cases h5 : x1 = (2 : Int32)
  · refine q_tableK (pc := 1) 43 (k := 2) (off := 42) C h5 (by decide) d_Md_tellDay_1 (by decide) (by decide) (by decide) (by decide) ?_
    have h := h6 h5
    refine q_aload_n (pc := 43) C d_Md_tellDay_43 rfl 0 rfl ?_
    refine q_iconst (pc := 44) (v := 0) C d_Md_tellDay_44 (by decide) ?_
    refine q_callVI (pc := 45) (st := []) (d := 43) C (m_Md_changes hY h) mi_Md_changes rfl (by decide) rfl wd_973 rfl rfl (Nat.le_of_ble_eq_true rfl) (by decide) (by decide) d_Md_tellDay_45 (fun u45 τ45 h => ?_)
    exact q_iret (pc := 48) C hr d_Md_tellDay_48 h
  by_cases h7 : x1 = (3 : Int32)
  · refine q_tableK (pc := 1) 49 (k := 3) (off := 48) C h7 (by decide) d_Md_tellDay_1 (by decide) (by decide) (by decide) (by decide) ?_
    have h := h8 h7
    refine q_aload_n (pc := 49) C d_Md_tellDay_49 rfl 0 rfl ?_
    refine q_iconst (pc := 50) (v := 1) C d_Md_tellDay_50 (by decide) ?_
    refine q_callVI (pc := 51) (st := []) (d := 43) C (m_Md_changes hY h) mi_Md_changes rfl (by decide) rfl wd_973 rfl rfl (Nat.le_of_ble_eq_true rfl) (by decide) (by decide) d_Md_tellDay_51 (fun u51 τ51 h => ?_)
    exact q_iret (pc := 54) C hr d_Md_tellDay_54 h
  by_cases h9 : x1 = (4 : Int32)
  · refine q_tableK (pc := 1) 55 (k := 4) (off := 54) C h9 (by decide) d_Md_tellDay_1 (by decide) (by decide) (by decide) (by decide) ?_
    have h := h10 h9
    refine q_aload_n (pc := 55) C d_Md_tellDay_55 rfl 0 rfl ?_
    refine q_callVI (pc := 56) (st := []) (d := 43) C (m_Md_energies hY h) mi_Md_energies rfl (by decide) rfl wd_981 rfl rfl (Nat.le_of_ble_eq_true rfl) (by decide) (by decide) d_Md_tellDay_56 (fun u56 τ56 h => ?_)
    exact q_iret (pc := 59) C hr d_Md_tellDay_59 h
  refine q_tableOut (pc := 1) 60 C d_Md_tellDay_1 (by have g0 := sw_ne (k := 0) rfl h1; have g1 := sw_ne (k := 1) rfl h3; have g2 := sw_ne (k := 2) rfl h5; have g3 := sw_ne (k := 3) rfl h7; have g4 := sw_ne (k := 4) rfl h9; omega) (by decide) ?_
  have h := h13 h1 h3 h5 h7 h9
  refine q_aload_n (pc := 60) C d_Md_tellDay_60 rfl 0 rfl ?_
  refine q_iload_n (pc := 61) C d_Md_tellDay_61 rfl 1 rfl ?_
  refine q_bipush (pc := 62) (v := 10) C d_Md_tellDay_62 (by decide) ?_
  refine q_isub (pc := 64) C d_Md_tellDay_64 ?_
  refine q_callVIr (pc := 65) (st := []) (d := 43) C (m_Md_isAppliance hY h) mi_Md_isAppliance rfl (by decide) rfl wd_877 rfl rfl (Nat.le_of_ble_eq_true rfl) (by decide) (by decide) d_Md_tellDay_65 (fun u65 h => ?_)
  obtain ⟨h11, h12⟩ := h
  refine q_if_eq (pc := 68) 82 C d_Md_tellDay_68 (by decide) (fun hc => ?_) (fun hc => ?_)
  · have h := h11 hc
    refine q_bipush (pc := 82) (v := -9) C d_Md_tellDay_82 (by decide) ?_
    exact q_iret (pc := 84) C hr d_Md_tellDay_84 h
  have h := h12 hc
  refine q_aload_n (pc := 71) C d_Md_tellDay_71 rfl 0 rfl ?_
  refine q_iload_n (pc := 72) C d_Md_tellDay_72 rfl 1 rfl ?_
  refine q_bipush (pc := 73) (v := 10) C d_Md_tellDay_73 (by decide) ?_
  refine q_isub (pc := 75) C d_Md_tellDay_75 ?_
  refine q_callVI (pc := 76) (st := []) (d := 43) C (m_Md_energyOf hY h) mi_Md_energyOf rfl (by decide) rfl wd_985 rfl rfl (Nat.le_of_ble_eq_true rfl) (by decide) (by decide) d_Md_tellDay_76 (fun u76 τ76 h => ?_)
  refine q_goto (pc := 79) 84 C d_Md_tellDay_79 (by decide) ?_
  exact q_iret (pc := 84) C hr d_Md_tellDay_84 h
theorem d_Md_putBack_0 : decode prog_9_method_43_code 0 = .ok (.iconst 0, 1) := by decide +kernel
theorem d_Md_putBack_1 : decode prog_9_method_43_code 1 = .ok (.istore_n 1, 1) := by decide +kernel
theorem d_Md_putBack_2 : decode prog_9_method_43_code 2 = .ok (.iload_n 1, 1) := by decide +kernel
theorem d_Md_putBack_3 : decode prog_9_method_43_code 3 = .ok (.bipush 12, 2) := by decide +kernel
theorem d_Md_putBack_5 : decode prog_9_method_43_code 5 = .ok (.if_icmp .ge 21, 3) := by decide +kernel
theorem d_Md_putBack_8 : decode prog_9_method_43_code 8 = .ok (.aload_n 0, 1) := by decide +kernel
theorem d_Md_putBack_9 : decode prog_9_method_43_code 9 = .ok (.getfield 25, 3) := by decide +kernel
theorem d_Md_putBack_12 : decode prog_9_method_43_code 12 = .ok (.iload_n 1, 1) := by decide +kernel
theorem d_Md_putBack_13 : decode prog_9_method_43_code 13 = .ok (.aload_n 0, 1) := by decide +kernel
theorem d_Md_putBack_14 : decode prog_9_method_43_code 14 = .ok (.getfield 67, 3) := by decide +kernel
theorem d_Md_putBack_17 : decode prog_9_method_43_code 17 = .ok (.iload_n 1, 1) := by decide +kernel
theorem d_Md_putBack_18 : decode prog_9_method_43_code 18 = .ok (.iaload, 1) := by decide +kernel
theorem d_Md_putBack_19 : decode prog_9_method_43_code 19 = .ok (.iastore, 1) := by decide +kernel
theorem d_Md_putBack_20 : decode prog_9_method_43_code 20 = .ok (.iinc 1 1, 3) := by decide +kernel
theorem d_Md_putBack_23 : decode prog_9_method_43_code 23 = .ok (.goto (-21), 3) := by decide +kernel
theorem d_Md_putBack_26 : decode prog_9_method_43_code 26 = .ok (.iconst 0, 1) := by decide +kernel
theorem d_Md_putBack_27 : decode prog_9_method_43_code 27 = .ok (.istore_n 1, 1) := by decide +kernel
theorem d_Md_putBack_28 : decode prog_9_method_43_code 28 = .ok (.iload_n 1, 1) := by decide +kernel
theorem d_Md_putBack_29 : decode prog_9_method_43_code 29 = .ok (.bipush 20, 2) := by decide +kernel
theorem d_Md_putBack_31 : decode prog_9_method_43_code 31 = .ok (.if_icmp .ge 21, 3) := by decide +kernel
theorem d_Md_putBack_34 : decode prog_9_method_43_code 34 = .ok (.aload_n 0, 1) := by decide +kernel
theorem d_Md_putBack_35 : decode prog_9_method_43_code 35 = .ok (.getfield 28, 3) := by decide +kernel
theorem d_Md_putBack_38 : decode prog_9_method_43_code 38 = .ok (.iload_n 1, 1) := by decide +kernel
theorem d_Md_putBack_39 : decode prog_9_method_43_code 39 = .ok (.aload_n 0, 1) := by decide +kernel
theorem d_Md_putBack_40 : decode prog_9_method_43_code 40 = .ok (.getfield 70, 3) := by decide +kernel
theorem d_Md_putBack_43 : decode prog_9_method_43_code 43 = .ok (.iload_n 1, 1) := by decide +kernel
theorem d_Md_putBack_44 : decode prog_9_method_43_code 44 = .ok (.iaload, 1) := by decide +kernel
theorem d_Md_putBack_45 : decode prog_9_method_43_code 45 = .ok (.iastore, 1) := by decide +kernel
theorem d_Md_putBack_46 : decode prog_9_method_43_code 46 = .ok (.iinc 1 1, 3) := by decide +kernel
theorem d_Md_putBack_49 : decode prog_9_method_43_code 49 = .ok (.goto (-21), 3) := by decide +kernel
theorem d_Md_putBack_52 : decode prog_9_method_43_code 52 = .ok (.aload_n 0, 1) := by decide +kernel
theorem d_Md_putBack_53 : decode prog_9_method_43_code 53 = .ok (.aload_n 0, 1) := by decide +kernel
theorem d_Md_putBack_54 : decode prog_9_method_43_code 54 = .ok (.getfield 225, 3) := by decide +kernel
theorem d_Md_putBack_57 : decode prog_9_method_43_code 57 = .ok (.putfield 137, 3) := by decide +kernel
theorem d_Md_putBack_60 : decode prog_9_method_43_code 60 = .ok (.aload_n 0, 1) := by decide +kernel
theorem d_Md_putBack_61 : decode prog_9_method_43_code 61 = .ok (.iconst 0, 1) := by decide +kernel
theorem d_Md_putBack_62 : decode prog_9_method_43_code 62 = .ok (.putfield 143, 3) := by decide +kernel
theorem d_Md_putBack_65 : decode prog_9_method_43_code 65 = .ok (.return_, 1) := by decide +kernel
abbrev y_Md_putBack : MethodName := ⟨"LoadCyclesModel", "putBack", "()V"⟩
theorem mi_Md_putBack : miV y_Md_putBack prog_9_method_43_code 2 none 0 := ⟨wd_1022, wd_57, wd_72, wd_1023, by decide, by decide, by decide +kernel⟩
def L_Md_putBack_28 (K : Sg → Prop) : Nat → Int32 → Sg → Prop
  | 0, _, _ => False
  | n + 1, v1, σ =>
    (((20 : Int32) ≤ v1 → (∀ τ57 : Sg, τ57 = s2 σ 43 11 (σ 43 29) → (∀ τ62 : Sg, τ62 = s2 τ57 43 17 (0 : Int32) → K τ62))) ∧ (¬ (20 : Int32) ≤ v1 → (vp_in v1 20 ∧ (vp_in v1 20 ∧ (∀ τ45 : Sg, τ45 = s2 σ 50 v1.toNatClampNeg (σ 64 v1.toNatClampNeg) → L_Md_putBack_28 K n (v1 + (1 : Int32)) τ45)))))
theorem t_Md_putBack_28 {X : Bx} {Y : Yx}  {K : Sg → Prop}  (hY : YD Y) (C : Cx X Y prog_9_method_43_code 2 "LoadCyclesModel" 0 0) (hr : (xh X).sig.returnType = none)  : ∀ (n : Nat) (v1 : Int32) (σ : Sg), L_Md_putBack_28 K n v1 σ → St X Y 2 (QV X Y K) 28 [(0, .ref (ya Y 43)), (1, .int v1)] [] σ := by
  intro n
  induction n with
  | zero => intro v1 σ h; exact h.elim
  | succ n ih =>
    intro v1 σ h
    unfold L_Md_putBack_28 at h
    refine q_iload_n (pc := 28) C d_Md_putBack_28 rfl 1 rfl ?_
    refine q_bipush (pc := 29) (v := 20) C d_Md_putBack_29 (by decide) ?_
    obtain ⟨h3, h4⟩ := h
    refine q_icmp_ge (pc := 31) 52 C d_Md_putBack_31 (by decide) (fun hc => ?_) (fun hc => ?_)
    · have h := h3 hc
      refine q_aload_n (pc := 52) C d_Md_putBack_52 rfl 0 rfl ?_
      refine q_aload_n (pc := 53) C d_Md_putBack_53 rfl 0 rfl ?_
      refine q_get (pc := 54) (c := 43) (ci := 7) (k := 29) (v := .int (σ 43 29)) C rfl (by decide) (by decide) wd_762 rfl d_Md_putBack_54 ?_
      refine q_put (pc := 57) (c := 43) (ci := 7) (k := 11) C rfl (by decide) (by decide) wd_744 rfl rfl rfl fs_7_11 d_Md_putBack_57 ?_
      refine q_nms (fun τ57 eτ57 => ?_)
      replace h := h τ57 eτ57
      refine q_aload_n (pc := 60) C d_Md_putBack_60 rfl 0 rfl ?_
      refine q_iconst (pc := 61) (v := 0) C d_Md_putBack_61 (by decide) ?_
      refine q_put (pc := 62) (c := 43) (ci := 7) (k := 17) C rfl (by decide) (by decide) wd_750 rfl rfl rfl fs_7_17 d_Md_putBack_62 ?_
      refine q_nms (fun τ62 eτ62 => ?_)
      replace h := h τ62 eτ62
      exact q_vret (pc := 65) C hr d_Md_putBack_65 h
    have h := h4 hc
    refine q_aload_n (pc := 34) C d_Md_putBack_34 rfl 0 rfl ?_
    refine q_get (pc := 35) (c := 43) (ci := 7) (k := 10) (v := .ref (ya Y 50)) C rfl (by decide) (by decide) wd_743 rfl d_Md_putBack_35 ?_
    refine q_iload_n (pc := 38) C d_Md_putBack_38 rfl 1 rfl ?_
    refine q_aload_n (pc := 39) C d_Md_putBack_39 rfl 0 rfl ?_
    refine q_get (pc := 40) (c := 43) (ci := 7) (k := 28) (v := .ref (ya Y 64)) C rfl (by decide) (by decide) wd_761 rfl d_Md_putBack_40 ?_
    refine q_iload_n (pc := 43) C d_Md_putBack_43 rfl 1 rfl ?_
    obtain ⟨h1, h⟩ := h
    refine q_iald (pc := 44) (c := 64) C ⟨rfl, rfl⟩ h1 d_Md_putBack_44 ?_
    obtain ⟨h2, h⟩ := h
    refine q_iast (pc := 45) (c := 50) C ⟨rfl, rfl⟩ h2 d_Md_putBack_45 ?_
    refine q_nms (fun τ45 eτ45 => ?_)
    replace h := h τ45 eτ45
    refine q_iinc (pc := 46) (v1 + (1 : Int32)) [(1, .int (v1 + (1 : Int32))), (0, .ref (ya Y 43))] C d_Md_putBack_46 1 rfl rfl (by decide) rfl ?_
    refine q_goto (pc := 49) 28 C d_Md_putBack_49 (by decide) ?_
    refine q_sub [(0, .ref (ya Y 43)), (1, .int (v1 + (1 : Int32)))] [1, 0] rfl ?_
    exact ih (v1 + (1 : Int32)) τ45 h
def L_Md_putBack_2 (K : Sg → Prop) : Nat → Int32 → Sg → Prop
  | 0, _, _ => False
  | n + 1, v1, σ =>
    (((12 : Int32) ≤ v1 → (∃ n5 : Nat, L_Md_putBack_28 K n5 (0 : Int32) σ)) ∧ (¬ (12 : Int32) ≤ v1 → (vp_in v1 12 ∧ (vp_in v1 12 ∧ (∀ τ19 : Sg, τ19 = s2 σ 49 v1.toNatClampNeg (σ 63 v1.toNatClampNeg) → L_Md_putBack_2 K n (v1 + (1 : Int32)) τ19)))))
theorem t_Md_putBack_2 {X : Bx} {Y : Yx}  {K : Sg → Prop}  (hY : YD Y) (C : Cx X Y prog_9_method_43_code 2 "LoadCyclesModel" 0 0) (hr : (xh X).sig.returnType = none)  : ∀ (n : Nat) (v1 : Int32) (σ : Sg), L_Md_putBack_2 K n v1 σ → St X Y 2 (QV X Y K) 2 [(0, .ref (ya Y 43)), (1, .int v1)] [] σ := by
  intro n
  induction n with
  | zero => intro v1 σ h; exact h.elim
  | succ n ih =>
    intro v1 σ h
    unfold L_Md_putBack_2 at h
    refine q_iload_n (pc := 2) C d_Md_putBack_2 rfl 1 rfl ?_
    refine q_bipush (pc := 3) (v := 12) C d_Md_putBack_3 (by decide) ?_
    obtain ⟨h8, h9⟩ := h
    refine q_icmp_ge (pc := 5) 26 C d_Md_putBack_5 (by decide) (fun hc => ?_) (fun hc => ?_)
    · have h := h8 hc
      refine q_iconst (pc := 26) (v := 0) C d_Md_putBack_26 (by decide) ?_
      refine q_istore_n (pc := 27) [(1, .int (0 : Int32)), (0, .ref (ya Y 43))] C d_Md_putBack_27 rfl (by decide) rfl ?_
      obtain ⟨n5, h⟩ := h
      refine q_sub [(0, .ref (ya Y 43)), (1, .int (0 : Int32))] [1, 0] rfl ?_
      exact t_Md_putBack_28 hY C hr n5 (0 : Int32) σ h
    have h := h9 hc
    refine q_aload_n (pc := 8) C d_Md_putBack_8 rfl 0 rfl ?_
    refine q_get (pc := 9) (c := 43) (ci := 7) (k := 8) (v := .ref (ya Y 49)) C rfl (by decide) (by decide) wd_741 rfl d_Md_putBack_9 ?_
    refine q_iload_n (pc := 12) C d_Md_putBack_12 rfl 1 rfl ?_
    refine q_aload_n (pc := 13) C d_Md_putBack_13 rfl 0 rfl ?_
    refine q_get (pc := 14) (c := 43) (ci := 7) (k := 27) (v := .ref (ya Y 63)) C rfl (by decide) (by decide) wd_760 rfl d_Md_putBack_14 ?_
    refine q_iload_n (pc := 17) C d_Md_putBack_17 rfl 1 rfl ?_
    obtain ⟨h6, h⟩ := h
    refine q_iald (pc := 18) (c := 63) C ⟨rfl, rfl⟩ h6 d_Md_putBack_18 ?_
    obtain ⟨h7, h⟩ := h
    refine q_iast (pc := 19) (c := 49) C ⟨rfl, rfl⟩ h7 d_Md_putBack_19 ?_
    refine q_nms (fun τ19 eτ19 => ?_)
    replace h := h τ19 eτ19
    refine q_iinc (pc := 20) (v1 + (1 : Int32)) [(1, .int (v1 + (1 : Int32))), (0, .ref (ya Y 43))] C d_Md_putBack_20 1 rfl rfl (by decide) rfl ?_
    refine q_goto (pc := 23) 2 C d_Md_putBack_23 (by decide) ?_
    refine q_sub [(0, .ref (ya Y 43)), (1, .int (v1 + (1 : Int32)))] [1, 0] rfl ?_
    exact ih (v1 + (1 : Int32)) τ19 h
def w_Md_putBack  (σ : Sg) (K : Sg → Prop) : Prop :=
  (∃ n10 : Nat, L_Md_putBack_2 K n10 (0 : Int32) σ)
set_option maxHeartbeats 4000000 in
theorem m_Md_putBack {Y : Yx}  {σ : Sg} {K : Sg → Prop} (hY : YD Y)  (h : w_Md_putBack σ K) : MetV Y y_Md_putBack prog_9_method_43_code 2 0 0 [.ref (ya Y 43)] σ K := by
  refine met_V [(0, .ref (ya Y 43))] hY (by decide) (Nat.le_of_ble_eq_true rfl) rfl (fun X C hr => ?_)
  unfold w_Md_putBack at h
  refine q_iconst (pc := 0) (v := 0) C d_Md_putBack_0 (by decide) ?_
  refine q_istore_n (pc := 1) [(1, .int (0 : Int32)), (0, .ref (ya Y 43))] C d_Md_putBack_1 rfl (by decide) rfl ?_
  obtain ⟨n10, h⟩ := h
  refine q_sub [(0, .ref (ya Y 43)), (1, .int (0 : Int32))] [1, 0] rfl ?_
  exact t_Md_putBack_2 hY C hr n10 (0 : Int32) σ h
