theorem d_Md_kinds_0 : decode prog_9_method_61_code 0 = .ok (.aload_n 0, 1) := by decide +kernel
theorem d_Md_kinds_1 : decode prog_9_method_61_code 1 = .ok (.iload_n 1, 1) := by decide +kernel
theorem d_Md_kinds_2 : decode prog_9_method_61_code 2 = .ok (.invokevirtual 147, 3) := by decide +kernel
theorem d_Md_kinds_5 : decode prog_9_method_61_code 5 = .ok (.ifCond .ne 5, 3) := by decide +kernel
theorem d_Md_kinds_8 : decode prog_9_method_61_code 8 = .ok (.iconst (-1), 1) := by decide +kernel
theorem d_Md_kinds_9 : decode prog_9_method_61_code 9 = .ok (.ireturn, 1) := by decide +kernel
theorem d_Md_kinds_10 : decode prog_9_method_61_code 10 = .ok (.aload_n 0, 1) := by decide +kernel
theorem d_Md_kinds_11 : decode prog_9_method_61_code 11 = .ok (.getfield 19, 3) := by decide +kernel
theorem d_Md_kinds_14 : decode prog_9_method_61_code 14 = .ok (.iload_n 1, 1) := by decide +kernel
theorem d_Md_kinds_15 : decode prog_9_method_61_code 15 = .ok (.iaload, 1) := by decide +kernel
theorem d_Md_kinds_16 : decode prog_9_method_61_code 16 = .ok (.istore_n 2, 1) := by decide +kernel
theorem d_Md_kinds_17 : decode prog_9_method_61_code 17 = .ok (.iconst 0, 1) := by decide +kernel
theorem d_Md_kinds_18 : decode prog_9_method_61_code 18 = .ok (.istore_n 3, 1) := by decide +kernel
theorem d_Md_kinds_19 : decode prog_9_method_61_code 19 = .ok (.iconst 0, 1) := by decide +kernel
theorem d_Md_kinds_20 : decode prog_9_method_61_code 20 = .ok (.istore 4, 2) := by decide +kernel
theorem d_Md_kinds_22 : decode prog_9_method_61_code 22 = .ok (.iload 4, 2) := by decide +kernel
theorem d_Md_kinds_24 : decode prog_9_method_61_code 24 = .ok (.iconst 3, 1) := by decide +kernel
theorem d_Md_kinds_25 : decode prog_9_method_61_code 25 = .ok (.if_icmp .ge 35, 3) := by decide +kernel
theorem d_Md_kinds_28 : decode prog_9_method_61_code 28 = .ok (.aload_n 0, 1) := by decide +kernel
theorem d_Md_kinds_29 : decode prog_9_method_61_code 29 = .ok (.getfield 19, 3) := by decide +kernel
theorem d_Md_kinds_32 : decode prog_9_method_61_code 32 = .ok (.iload_n 1, 1) := by decide +kernel
theorem d_Md_kinds_33 : decode prog_9_method_61_code 33 = .ok (.iload 4, 2) := by decide +kernel
theorem d_Md_kinds_35 : decode prog_9_method_61_code 35 = .ok (.iastore, 1) := by decide +kernel
theorem d_Md_kinds_36 : decode prog_9_method_61_code 36 = .ok (.iload_n 3, 1) := by decide +kernel
theorem d_Md_kinds_37 : decode prog_9_method_61_code 37 = .ok (.aload_n 0, 1) := by decide +kernel
theorem d_Md_kinds_38 : decode prog_9_method_61_code 38 = .ok (.invokevirtual 269, 3) := by decide +kernel
theorem d_Md_kinds_41 : decode prog_9_method_61_code 41 = .ok (.ifCond .eq 10, 3) := by decide +kernel
theorem d_Md_kinds_44 : decode prog_9_method_61_code 44 = .ok (.iconst 1, 1) := by decide +kernel
theorem d_Md_kinds_45 : decode prog_9_method_61_code 45 = .ok (.iload 4, 2) := by decide +kernel
theorem d_Md_kinds_47 : decode prog_9_method_61_code 47 = .ok (.ishl, 1) := by decide +kernel
theorem d_Md_kinds_48 : decode prog_9_method_61_code 48 = .ok (.goto 4, 3) := by decide +kernel
theorem d_Md_kinds_51 : decode prog_9_method_61_code 51 = .ok (.iconst 0, 1) := by decide +kernel
theorem d_Md_kinds_52 : decode prog_9_method_61_code 52 = .ok (.ior, 1) := by decide +kernel
theorem d_Md_kinds_53 : decode prog_9_method_61_code 53 = .ok (.istore_n 3, 1) := by decide +kernel
theorem d_Md_kinds_54 : decode prog_9_method_61_code 54 = .ok (.iinc 4 1, 3) := by decide +kernel
theorem d_Md_kinds_57 : decode prog_9_method_61_code 57 = .ok (.goto (-35), 3) := by decide +kernel
theorem d_Md_kinds_60 : decode prog_9_method_61_code 60 = .ok (.aload_n 0, 1) := by decide +kernel
theorem d_Md_kinds_61 : decode prog_9_method_61_code 61 = .ok (.getfield 19, 3) := by decide +kernel
theorem d_Md_kinds_64 : decode prog_9_method_61_code 64 = .ok (.iload_n 1, 1) := by decide +kernel
theorem d_Md_kinds_65 : decode prog_9_method_61_code 65 = .ok (.iload_n 2, 1) := by decide +kernel
theorem d_Md_kinds_66 : decode prog_9_method_61_code 66 = .ok (.iastore, 1) := by decide +kernel
theorem d_Md_kinds_67 : decode prog_9_method_61_code 67 = .ok (.aload_n 0, 1) := by decide +kernel
theorem d_Md_kinds_68 : decode prog_9_method_61_code 68 = .ok (.iconst 0, 1) := by decide +kernel
theorem d_Md_kinds_69 : decode prog_9_method_61_code 69 = .ok (.putfield 143, 3) := by decide +kernel
theorem d_Md_kinds_72 : decode prog_9_method_61_code 72 = .ok (.iload_n 3, 1) := by decide +kernel
theorem d_Md_kinds_73 : decode prog_9_method_61_code 73 = .ok (.ireturn, 1) := by decide +kernel
abbrev y_Md_kinds : MethodName := ⟨"LoadCyclesModel", "kinds", "(I)I"⟩
theorem mi_Md_kinds : miV y_Md_kinds prog_9_method_61_code 5 (some .int) 1 := ⟨wd_1070, wd_1071, wd_72, wd_1072, by decide, by decide, by decide +kernel⟩
def B_Md_kinds_52 (x1 : Int32) (K : Int32 → Sg → Prop) (r22 : Int32 → Int32 → Sg → Prop) (v2 : Int32) (v4 : Int32) (vs0 : Int32) (vs1 : Int32) (σ : Sg) : Prop :=
  (∀ y3_53 : Int32, y3_53 = (vs1 ||| vs0) → r22 y3_53 (v4 + (1 : Int32)) σ)
theorem t_Md_kinds_52 {X : Bx} {Y : Yx} {x1 : Int32} {v2 : Int32} {v4 : Int32} {vs0 : Int32} {vs1 : Int32} {K : Int32 → Sg → Prop} {r22 : Int32 → Int32 → Sg → Prop} (hY : YD Y) (C : Cx X Y prog_9_method_61_code 5 "LoadCyclesModel" 6 136) (hr : (xh X).sig.returnType = some .int)  (H22 : ∀ (v3 : Int32) (v4 : Int32) (σ : Sg), r22 v3 v4 σ → St X Y 5 (QI X Y K) 22 [(0, .ref (ya Y 43)), (1, .int x1), (2, .int v2), (3, .int v3), (4, .int v4)] [] σ)  {σ : Sg} (h : B_Md_kinds_52 x1 K r22 v2 v4 vs0 vs1 σ) : St X Y 5 (QI X Y K) 52 [(0, .ref (ya Y 43)), (1, .int x1), (2, .int v2), (4, .int v4)] [.int vs0, .int vs1] σ := by
  unfold B_Md_kinds_52 at h
  refine q_ior (pc := 52) C d_Md_kinds_52 ?_
  refine q_nmi (fun y3_53 ey3_53 => ?_)
  replace h := h y3_53 ey3_53
  refine q_istore_n (pc := 53) [(3, .int y3_53), (0, .ref (ya Y 43)), (1, .int x1), (2, .int v2), (4, .int v4)] C d_Md_kinds_53 rfl (by decide) rfl ?_
  refine q_iinc (pc := 54) (v4 + (1 : Int32)) [(4, .int (v4 + (1 : Int32))), (3, .int y3_53), (0, .ref (ya Y 43)), (1, .int x1), (2, .int v2)] C d_Md_kinds_54 4 rfl rfl (by decide) rfl ?_
  refine q_goto (pc := 57) 22 C d_Md_kinds_57 (by decide) ?_
  refine q_sub [(0, .ref (ya Y 43)), (1, .int x1), (2, .int v2), (3, .int y3_53), (4, .int (v4 + (1 : Int32)))] [2, 3, 4, 1, 0] rfl ?_
  exact H22 y3_53 (v4 + (1 : Int32)) σ h
def L_Md_kinds_22 (x1 : Int32) (v2 : Int32) (K : Int32 → Sg → Prop) : Nat → Int32 → Int32 → Sg → Prop
  | 0, _, _, _ => False
  | n + 1, v3, v4, σ =>
    (((3 : Int32) ≤ v4 → (vp_in x1 4 ∧ (∀ τ66 : Sg, τ66 = s2 σ 47 x1.toNatClampNeg v2 → (∀ τ69 : Sg, τ69 = s2 τ66 43 17 (0 : Int32) → K v3 τ69)))) ∧ (¬ (3 : Int32) ≤ v4 → (vp_in x1 4 ∧ (∀ τ35 : Sg, τ35 = s2 σ 47 x1.toNatClampNeg v4 → w_Md_areSo τ35 (fun u38 τ38 => ((u38 = 0 → B_Md_kinds_52 x1 K (fun a0 a1 a2 => L_Md_kinds_22 x1 v2 K n a0 a1 a2) v2 v4 (0 : Int32) v3 τ38) ∧ (¬ u38 = 0 → B_Md_kinds_52 x1 K (fun a0 a1 a2 => L_Md_kinds_22 x1 v2 K n a0 a1 a2) v2 v4 ((1 : Int32) <<< (v4 &&& 31)) v3 τ38)))))))
theorem t_Md_kinds_22 {X : Bx} {Y : Yx} {x1 : Int32} {v2 : Int32} {K : Int32 → Sg → Prop}  (hY : YD Y) (C : Cx X Y prog_9_method_61_code 5 "LoadCyclesModel" 6 136) (hr : (xh X).sig.returnType = some .int)  : ∀ (n : Nat) (v3 : Int32) (v4 : Int32) (σ : Sg), L_Md_kinds_22 x1 v2 K n v3 v4 σ → St X Y 5 (QI X Y K) 22 [(0, .ref (ya Y 43)), (1, .int x1), (2, .int v2), (3, .int v3), (4, .int v4)] [] σ := by
  intro n
  induction n with
  | zero => intro v3 v4 σ h; exact h.elim
  | succ n ih =>
    intro v3 v4 σ h
    unfold L_Md_kinds_22 at h
    refine q_iload (pc := 22) C d_Md_kinds_22 4 rfl ?_
    refine q_iconst (pc := 24) (v := 3) C d_Md_kinds_24 (by decide) ?_
    obtain ⟨h6, h7⟩ := h
    refine q_icmp_ge (pc := 25) 60 C d_Md_kinds_25 (by decide) (fun hc => ?_) (fun hc => ?_)
    · have h := h6 hc
      refine q_aload_n (pc := 60) C d_Md_kinds_60 rfl 0 rfl ?_
      refine q_get (pc := 61) (c := 43) (ci := 7) (k := 6) (v := .ref (ya Y 47)) C rfl (by decide) (by decide) wd_739 rfl d_Md_kinds_61 ?_
      refine q_iload_n (pc := 64) C d_Md_kinds_64 rfl 1 rfl ?_
      refine q_iload_n (pc := 65) C d_Md_kinds_65 rfl 2 rfl ?_
      obtain ⟨h2, h⟩ := h
      refine q_iast (pc := 66) (c := 47) C ⟨rfl, rfl⟩ h2 d_Md_kinds_66 ?_
      refine q_nms (fun τ66 eτ66 => ?_)
      replace h := h τ66 eτ66
      refine q_aload_n (pc := 67) C d_Md_kinds_67 rfl 0 rfl ?_
      refine q_iconst (pc := 68) (v := 0) C d_Md_kinds_68 (by decide) ?_
      refine q_put (pc := 69) (c := 43) (ci := 7) (k := 17) C rfl (by decide) (by decide) wd_750 rfl rfl rfl fs_7_17 d_Md_kinds_69 ?_
      refine q_nms (fun τ69 eτ69 => ?_)
      replace h := h τ69 eτ69
      refine q_iload_n (pc := 72) C d_Md_kinds_72 rfl 3 rfl ?_
      exact q_iret (pc := 73) C hr d_Md_kinds_73 h
    have h := h7 hc
    refine q_aload_n (pc := 28) C d_Md_kinds_28 rfl 0 rfl ?_
    refine q_get (pc := 29) (c := 43) (ci := 7) (k := 6) (v := .ref (ya Y 47)) C rfl (by decide) (by decide) wd_739 rfl d_Md_kinds_29 ?_
    refine q_iload_n (pc := 32) C d_Md_kinds_32 rfl 1 rfl ?_
    refine q_iload (pc := 33) C d_Md_kinds_33 4 rfl ?_
    obtain ⟨h3, h⟩ := h
    refine q_iast (pc := 35) (c := 47) C ⟨rfl, rfl⟩ h3 d_Md_kinds_35 ?_
    refine q_nms (fun τ35 eτ35 => ?_)
    replace h := h τ35 eτ35
    refine q_iload_n (pc := 36) C d_Md_kinds_36 rfl 3 rfl ?_
    refine q_aload_n (pc := 37) C d_Md_kinds_37 rfl 0 rfl ?_
    refine q_callVI (pc := 38) (st := [.int v3]) (d := 43) C (m_Md_areSo hY h) mi_Md_areSo rfl (by decide) rfl wd_1073 rfl rfl (Nat.le_of_ble_eq_true rfl) (by decide) (by decide) d_Md_kinds_38 (fun u38 τ38 h => ?_)
    obtain ⟨h4, h5⟩ := h
    refine q_if_eq (pc := 41) 51 C d_Md_kinds_41 (by decide) (fun hc => ?_) (fun hc => ?_)
    · have h := h4 hc
      refine q_iconst (pc := 51) (v := 0) C d_Md_kinds_51 (by decide) ?_
      refine q_sub [(0, .ref (ya Y 43)), (1, .int x1), (2, .int v2), (4, .int v4)] [0, 1, 2, 4] rfl ?_
      exact t_Md_kinds_52 hY C hr ih h
    have h := h5 hc
    refine q_iconst (pc := 44) (v := 1) C d_Md_kinds_44 (by decide) ?_
    refine q_iload (pc := 45) C d_Md_kinds_45 4 rfl ?_
    refine q_ishl (pc := 47) C d_Md_kinds_47 ?_
    refine q_goto (pc := 48) 52 C d_Md_kinds_48 (by decide) ?_
    refine q_sub [(0, .ref (ya Y 43)), (1, .int x1), (2, .int v2), (4, .int v4)] [0, 1, 2, 4] rfl ?_
    exact t_Md_kinds_52 hY C hr ih h
def w_Md_kinds (x1 : Int32) (σ : Sg) (K : Int32 → Sg → Prop) : Prop :=
  w_Md_isAppliance x1 σ (fun u2 => ((¬ u2 = 0 → (vp_in x1 4 ∧ (∀ y2_16 : Int32, y2_16 = (σ 47 x1.toNatClampNeg) → (∃ n8 : Nat, L_Md_kinds_22 x1 y2_16 K n8 (0 : Int32) (0 : Int32) σ)))) ∧ (u2 = 0 → K (-1 : Int32) σ)))
set_option maxHeartbeats 4000000 in
theorem m_Md_kinds {Y : Yx} {x1 : Int32} {σ : Sg} {K : Int32 → Sg → Prop} (hY : YD Y)  (h : w_Md_kinds x1 σ K) : MetI Y y_Md_kinds prog_9_method_61_code 5 (.int) 6 136 [.ref (ya Y 43), .int x1] σ K := by
  refine met_I [(0, .ref (ya Y 43)), (1, .int x1)] hY (by decide) (Nat.le_of_ble_eq_true rfl) rfl (fun X C hr => ?_)
  unfold w_Md_kinds at h
  refine q_aload_n (pc := 0) C d_Md_kinds_0 rfl 0 rfl ?_
  refine q_iload_n (pc := 1) C d_Md_kinds_1 rfl 1 rfl ?_
  refine q_callVIr (pc := 2) (st := []) (d := 43) C (m_Md_isAppliance hY h) mi_Md_isAppliance rfl (by decide) rfl wd_877 rfl rfl (Nat.le_of_ble_eq_true rfl) (by decide) (by decide) d_Md_kinds_2 (fun u2 h => ?_)
  obtain ⟨h9, h10⟩ := h
  refine q_if_ne (pc := 5) 10 C d_Md_kinds_5 (by decide) (fun hc => ?_) (fun hc => ?_)
  · have h := h9 hc
    refine q_aload_n (pc := 10) C d_Md_kinds_10 rfl 0 rfl ?_
    refine q_get (pc := 11) (c := 43) (ci := 7) (k := 6) (v := .ref (ya Y 47)) C rfl (by decide) (by decide) wd_739 rfl d_Md_kinds_11 ?_
    refine q_iload_n (pc := 14) C d_Md_kinds_14 rfl 1 rfl ?_
    obtain ⟨h1, h⟩ := h
    refine q_iald (pc := 15) (c := 47) C ⟨rfl, rfl⟩ h1 d_Md_kinds_15 ?_
    refine q_nmi (fun y2_16 ey2_16 => ?_)
    replace h := h y2_16 ey2_16
    refine q_istore_n (pc := 16) [(2, .int y2_16), (0, .ref (ya Y 43)), (1, .int x1)] C d_Md_kinds_16 rfl (by decide) rfl ?_
    refine q_iconst (pc := 17) (v := 0) C d_Md_kinds_17 (by decide) ?_
    refine q_istore_n (pc := 18) [(3, .int (0 : Int32)), (2, .int y2_16), (0, .ref (ya Y 43)), (1, .int x1)] C d_Md_kinds_18 rfl (by decide) rfl ?_
    refine q_iconst (pc := 19) (v := 0) C d_Md_kinds_19 (by decide) ?_
    refine q_istore (pc := 20) [(4, .int (0 : Int32)), (3, .int (0 : Int32)), (2, .int y2_16), (0, .ref (ya Y 43)), (1, .int x1)] C d_Md_kinds_20 (by decide) rfl ?_
    obtain ⟨n8, h⟩ := h
    refine q_sub [(0, .ref (ya Y 43)), (1, .int x1), (2, .int y2_16), (3, .int (0 : Int32)), (4, .int (0 : Int32))] [3, 4, 2, 1, 0] rfl ?_
    exact t_Md_kinds_22 hY C hr n8 (0 : Int32) (0 : Int32) σ h
  have h := h10 hc
  refine q_iconst (pc := 8) (v := -1) C d_Md_kinds_8 (by decide) ?_
  exact q_iret (pc := 9) C hr d_Md_kinds_9 h
theorem d_Md_firsts_0 : decode prog_9_method_62_code 0 = .ok (.aload_n 0, 1) := by decide +kernel
theorem d_Md_firsts_1 : decode prog_9_method_62_code 1 = .ok (.iload_n 1, 1) := by decide +kernel
theorem d_Md_firsts_2 : decode prog_9_method_62_code 2 = .ok (.invokevirtual 147, 3) := by decide +kernel
theorem d_Md_firsts_5 : decode prog_9_method_62_code 5 = .ok (.ifCond .ne 5, 3) := by decide +kernel
theorem d_Md_firsts_8 : decode prog_9_method_62_code 8 = .ok (.iconst (-1), 1) := by decide +kernel
theorem d_Md_firsts_9 : decode prog_9_method_62_code 9 = .ok (.ireturn, 1) := by decide +kernel
theorem d_Md_firsts_10 : decode prog_9_method_62_code 10 = .ok (.aload_n 0, 1) := by decide +kernel
theorem d_Md_firsts_11 : decode prog_9_method_62_code 11 = .ok (.getfield 25, 3) := by decide +kernel
theorem d_Md_firsts_14 : decode prog_9_method_62_code 14 = .ok (.iconst 3, 1) := by decide +kernel
theorem d_Md_firsts_15 : decode prog_9_method_62_code 15 = .ok (.iload_n 1, 1) := by decide +kernel
theorem d_Md_firsts_16 : decode prog_9_method_62_code 16 = .ok (.imul, 1) := by decide +kernel
theorem d_Md_firsts_17 : decode prog_9_method_62_code 17 = .ok (.iaload, 1) := by decide +kernel
theorem d_Md_firsts_18 : decode prog_9_method_62_code 18 = .ok (.istore_n 2, 1) := by decide +kernel
theorem d_Md_firsts_19 : decode prog_9_method_62_code 19 = .ok (.iconst 0, 1) := by decide +kernel
theorem d_Md_firsts_20 : decode prog_9_method_62_code 20 = .ok (.istore_n 3, 1) := by decide +kernel
theorem d_Md_firsts_21 : decode prog_9_method_62_code 21 = .ok (.iconst 1, 1) := by decide +kernel
theorem d_Md_firsts_22 : decode prog_9_method_62_code 22 = .ok (.istore 4, 2) := by decide +kernel
theorem d_Md_firsts_24 : decode prog_9_method_62_code 24 = .ok (.iload 4, 2) := by decide +kernel
theorem d_Md_firsts_26 : decode prog_9_method_62_code 26 = .ok (.bipush 9, 2) := by decide +kernel
theorem d_Md_firsts_28 : decode prog_9_method_62_code 28 = .ok (.if_icmp .gt 37, 3) := by decide +kernel
theorem d_Md_firsts_31 : decode prog_9_method_62_code 31 = .ok (.aload_n 0, 1) := by decide +kernel
theorem d_Md_firsts_32 : decode prog_9_method_62_code 32 = .ok (.getfield 25, 3) := by decide +kernel
theorem d_Md_firsts_35 : decode prog_9_method_62_code 35 = .ok (.iconst 3, 1) := by decide +kernel
theorem d_Md_firsts_36 : decode prog_9_method_62_code 36 = .ok (.iload_n 1, 1) := by decide +kernel
theorem d_Md_firsts_37 : decode prog_9_method_62_code 37 = .ok (.imul, 1) := by decide +kernel
theorem d_Md_firsts_38 : decode prog_9_method_62_code 38 = .ok (.iload 4, 2) := by decide +kernel
theorem d_Md_firsts_40 : decode prog_9_method_62_code 40 = .ok (.iastore, 1) := by decide +kernel
theorem d_Md_firsts_41 : decode prog_9_method_62_code 41 = .ok (.iload_n 3, 1) := by decide +kernel
theorem d_Md_firsts_42 : decode prog_9_method_62_code 42 = .ok (.aload_n 0, 1) := by decide +kernel
theorem d_Md_firsts_43 : decode prog_9_method_62_code 43 = .ok (.invokevirtual 269, 3) := by decide +kernel
theorem d_Md_firsts_46 : decode prog_9_method_62_code 46 = .ok (.ifCond .eq 10, 3) := by decide +kernel
theorem d_Md_firsts_49 : decode prog_9_method_62_code 49 = .ok (.iconst 1, 1) := by decide +kernel
theorem d_Md_firsts_50 : decode prog_9_method_62_code 50 = .ok (.iload 4, 2) := by decide +kernel
theorem d_Md_firsts_52 : decode prog_9_method_62_code 52 = .ok (.ishl, 1) := by decide +kernel
theorem d_Md_firsts_53 : decode prog_9_method_62_code 53 = .ok (.goto 4, 3) := by decide +kernel
theorem d_Md_firsts_56 : decode prog_9_method_62_code 56 = .ok (.iconst 0, 1) := by decide +kernel
theorem d_Md_firsts_57 : decode prog_9_method_62_code 57 = .ok (.ior, 1) := by decide +kernel
theorem d_Md_firsts_58 : decode prog_9_method_62_code 58 = .ok (.istore_n 3, 1) := by decide +kernel
theorem d_Md_firsts_59 : decode prog_9_method_62_code 59 = .ok (.iinc 4 1, 3) := by decide +kernel
theorem d_Md_firsts_62 : decode prog_9_method_62_code 62 = .ok (.goto (-38), 3) := by decide +kernel
theorem d_Md_firsts_65 : decode prog_9_method_62_code 65 = .ok (.aload_n 0, 1) := by decide +kernel
theorem d_Md_firsts_66 : decode prog_9_method_62_code 66 = .ok (.getfield 25, 3) := by decide +kernel
theorem d_Md_firsts_69 : decode prog_9_method_62_code 69 = .ok (.iconst 3, 1) := by decide +kernel
theorem d_Md_firsts_70 : decode prog_9_method_62_code 70 = .ok (.iload_n 1, 1) := by decide +kernel
theorem d_Md_firsts_71 : decode prog_9_method_62_code 71 = .ok (.imul, 1) := by decide +kernel
theorem d_Md_firsts_72 : decode prog_9_method_62_code 72 = .ok (.iload_n 2, 1) := by decide +kernel
theorem d_Md_firsts_73 : decode prog_9_method_62_code 73 = .ok (.iastore, 1) := by decide +kernel
theorem d_Md_firsts_74 : decode prog_9_method_62_code 74 = .ok (.aload_n 0, 1) := by decide +kernel
theorem d_Md_firsts_75 : decode prog_9_method_62_code 75 = .ok (.iconst 0, 1) := by decide +kernel
theorem d_Md_firsts_76 : decode prog_9_method_62_code 76 = .ok (.putfield 143, 3) := by decide +kernel
theorem d_Md_firsts_79 : decode prog_9_method_62_code 79 = .ok (.iload_n 3, 1) := by decide +kernel
theorem d_Md_firsts_80 : decode prog_9_method_62_code 80 = .ok (.ireturn, 1) := by decide +kernel
abbrev y_Md_firsts : MethodName := ⟨"LoadCyclesModel", "firsts", "(I)I"⟩
theorem mi_Md_firsts : miV y_Md_firsts prog_9_method_62_code 5 (some .int) 1 := ⟨wd_1078, wd_1079, wd_72, wd_1080, by decide, by decide, by decide +kernel⟩
def B_Md_firsts_57 (x1 : Int32) (K : Int32 → Sg → Prop) (r24 : Int32 → Int32 → Sg → Prop) (v2 : Int32) (v4 : Int32) (vs0 : Int32) (vs1 : Int32) (σ : Sg) : Prop :=
  (∀ y3_58 : Int32, y3_58 = (vs1 ||| vs0) → r24 y3_58 (v4 + (1 : Int32)) σ)
theorem t_Md_firsts_57 {X : Bx} {Y : Yx} {x1 : Int32} {v2 : Int32} {v4 : Int32} {vs0 : Int32} {vs1 : Int32} {K : Int32 → Sg → Prop} {r24 : Int32 → Int32 → Sg → Prop} (hY : YD Y) (C : Cx X Y prog_9_method_62_code 5 "LoadCyclesModel" 6 136) (hr : (xh X).sig.returnType = some .int)  (H24 : ∀ (v3 : Int32) (v4 : Int32) (σ : Sg), r24 v3 v4 σ → St X Y 5 (QI X Y K) 24 [(0, .ref (ya Y 43)), (1, .int x1), (2, .int v2), (3, .int v3), (4, .int v4)] [] σ)  {σ : Sg} (h : B_Md_firsts_57 x1 K r24 v2 v4 vs0 vs1 σ) : St X Y 5 (QI X Y K) 57 [(0, .ref (ya Y 43)), (1, .int x1), (2, .int v2), (4, .int v4)] [.int vs0, .int vs1] σ := by
  unfold B_Md_firsts_57 at h
  refine q_ior (pc := 57) C d_Md_firsts_57 ?_
  refine q_nmi (fun y3_58 ey3_58 => ?_)
  replace h := h y3_58 ey3_58
  refine q_istore_n (pc := 58) [(3, .int y3_58), (0, .ref (ya Y 43)), (1, .int x1), (2, .int v2), (4, .int v4)] C d_Md_firsts_58 rfl (by decide) rfl ?_
  refine q_iinc (pc := 59) (v4 + (1 : Int32)) [(4, .int (v4 + (1 : Int32))), (3, .int y3_58), (0, .ref (ya Y 43)), (1, .int x1), (2, .int v2)] C d_Md_firsts_59 4 rfl rfl (by decide) rfl ?_
  refine q_goto (pc := 62) 24 C d_Md_firsts_62 (by decide) ?_
  refine q_sub [(0, .ref (ya Y 43)), (1, .int x1), (2, .int v2), (3, .int y3_58), (4, .int (v4 + (1 : Int32)))] [2, 3, 4, 1, 0] rfl ?_
  exact H24 y3_58 (v4 + (1 : Int32)) σ h
def L_Md_firsts_24 (x1 : Int32) (v2 : Int32) (K : Int32 → Sg → Prop) : Nat → Int32 → Int32 → Sg → Prop
  | 0, _, _, _ => False
  | n + 1, v3, v4, σ =>
    (((9 : Int32) < v4 → (vp_in ((3 : Int32) * x1) 12 ∧ (∀ τ73 : Sg, τ73 = s2 σ 49 ((3 : Int32) * x1).toNatClampNeg v2 → (∀ τ76 : Sg, τ76 = s2 τ73 43 17 (0 : Int32) → K v3 τ76)))) ∧ (¬ (9 : Int32) < v4 → (vp_in ((3 : Int32) * x1) 12 ∧ (∀ τ40 : Sg, τ40 = s2 σ 49 ((3 : Int32) * x1).toNatClampNeg v4 → w_Md_areSo τ40 (fun u43 τ43 => ((u43 = 0 → B_Md_firsts_57 x1 K (fun a0 a1 a2 => L_Md_firsts_24 x1 v2 K n a0 a1 a2) v2 v4 (0 : Int32) v3 τ43) ∧ (¬ u43 = 0 → B_Md_firsts_57 x1 K (fun a0 a1 a2 => L_Md_firsts_24 x1 v2 K n a0 a1 a2) v2 v4 ((1 : Int32) <<< (v4 &&& 31)) v3 τ43)))))))
theorem t_Md_firsts_24 {X : Bx} {Y : Yx} {x1 : Int32} {v2 : Int32} {K : Int32 → Sg → Prop}  (hY : YD Y) (C : Cx X Y prog_9_method_62_code 5 "LoadCyclesModel" 6 136) (hr : (xh X).sig.returnType = some .int)  : ∀ (n : Nat) (v3 : Int32) (v4 : Int32) (σ : Sg), L_Md_firsts_24 x1 v2 K n v3 v4 σ → St X Y 5 (QI X Y K) 24 [(0, .ref (ya Y 43)), (1, .int x1), (2, .int v2), (3, .int v3), (4, .int v4)] [] σ := by
  intro n
  induction n with
  | zero => intro v3 v4 σ h; exact h.elim
  | succ n ih =>
    intro v3 v4 σ h
    unfold L_Md_firsts_24 at h
    refine q_iload (pc := 24) C d_Md_firsts_24 4 rfl ?_
    refine q_bipush (pc := 26) (v := 9) C d_Md_firsts_26 (by decide) ?_
    obtain ⟨h6, h7⟩ := h
    refine q_icmp_gt (pc := 28) 65 C d_Md_firsts_28 (by decide) (fun hc => ?_) (fun hc => ?_)
    · have h := h6 hc
      refine q_aload_n (pc := 65) C d_Md_firsts_65 rfl 0 rfl ?_
      refine q_get (pc := 66) (c := 43) (ci := 7) (k := 8) (v := .ref (ya Y 49)) C rfl (by decide) (by decide) wd_741 rfl d_Md_firsts_66 ?_
      refine q_iconst (pc := 69) (v := 3) C d_Md_firsts_69 (by decide) ?_
      refine q_iload_n (pc := 70) C d_Md_firsts_70 rfl 1 rfl ?_
      refine q_imul (pc := 71) C d_Md_firsts_71 ?_
      refine q_iload_n (pc := 72) C d_Md_firsts_72 rfl 2 rfl ?_
      obtain ⟨h2, h⟩ := h
      refine q_iast (pc := 73) (c := 49) C ⟨rfl, rfl⟩ h2 d_Md_firsts_73 ?_
      refine q_nms (fun τ73 eτ73 => ?_)
      replace h := h τ73 eτ73
      refine q_aload_n (pc := 74) C d_Md_firsts_74 rfl 0 rfl ?_
      refine q_iconst (pc := 75) (v := 0) C d_Md_firsts_75 (by decide) ?_
      refine q_put (pc := 76) (c := 43) (ci := 7) (k := 17) C rfl (by decide) (by decide) wd_750 rfl rfl rfl fs_7_17 d_Md_firsts_76 ?_
      refine q_nms (fun τ76 eτ76 => ?_)
      replace h := h τ76 eτ76
      refine q_iload_n (pc := 79) C d_Md_firsts_79 rfl 3 rfl ?_
      exact q_iret (pc := 80) C hr d_Md_firsts_80 h
    have h := h7 hc
    refine q_aload_n (pc := 31) C d_Md_firsts_31 rfl 0 rfl ?_
    refine q_get (pc := 32) (c := 43) (ci := 7) (k := 8) (v := .ref (ya Y 49)) C rfl (by decide) (by decide) wd_741 rfl d_Md_firsts_32 ?_
    refine q_iconst (pc := 35) (v := 3) C d_Md_firsts_35 (by decide) ?_
    refine q_iload_n (pc := 36) C d_Md_firsts_36 rfl 1 rfl ?_
    refine q_imul (pc := 37) C d_Md_firsts_37 ?_
    refine q_iload (pc := 38) C d_Md_firsts_38 4 rfl ?_
    obtain ⟨h3, h⟩ := h
    refine q_iast (pc := 40) (c := 49) C ⟨rfl, rfl⟩ h3 d_Md_firsts_40 ?_
    refine q_nms (fun τ40 eτ40 => ?_)
    replace h := h τ40 eτ40
    refine q_iload_n (pc := 41) C d_Md_firsts_41 rfl 3 rfl ?_
    refine q_aload_n (pc := 42) C d_Md_firsts_42 rfl 0 rfl ?_
    refine q_callVI (pc := 43) (st := [.int v3]) (d := 43) C (m_Md_areSo hY h) mi_Md_areSo rfl (by decide) rfl wd_1073 rfl rfl (Nat.le_of_ble_eq_true rfl) (by decide) (by decide) d_Md_firsts_43 (fun u43 τ43 h => ?_)
    obtain ⟨h4, h5⟩ := h
    refine q_if_eq (pc := 46) 56 C d_Md_firsts_46 (by decide) (fun hc => ?_) (fun hc => ?_)
    · have h := h4 hc
      refine q_iconst (pc := 56) (v := 0) C d_Md_firsts_56 (by decide) ?_
      refine q_sub [(0, .ref (ya Y 43)), (1, .int x1), (2, .int v2), (4, .int v4)] [0, 1, 2, 4] rfl ?_
      exact t_Md_firsts_57 hY C hr ih h
    have h := h5 hc
    refine q_iconst (pc := 49) (v := 1) C d_Md_firsts_49 (by decide) ?_
    refine q_iload (pc := 50) C d_Md_firsts_50 4 rfl ?_
    refine q_ishl (pc := 52) C d_Md_firsts_52 ?_
    refine q_goto (pc := 53) 57 C d_Md_firsts_53 (by decide) ?_
    refine q_sub [(0, .ref (ya Y 43)), (1, .int x1), (2, .int v2), (4, .int v4)] [0, 1, 2, 4] rfl ?_
    exact t_Md_firsts_57 hY C hr ih h
def w_Md_firsts (x1 : Int32) (σ : Sg) (K : Int32 → Sg → Prop) : Prop :=
  w_Md_isAppliance x1 σ (fun u2 => ((¬ u2 = 0 → (vp_in ((3 : Int32) * x1) 12 ∧ (∀ y2_18 : Int32, y2_18 = (σ 49 ((3 : Int32) * x1).toNatClampNeg) → (∃ n8 : Nat, L_Md_firsts_24 x1 y2_18 K n8 (0 : Int32) (1 : Int32) σ)))) ∧ (u2 = 0 → K (-1 : Int32) σ)))
set_option maxHeartbeats 4000000 in
theorem m_Md_firsts {Y : Yx} {x1 : Int32} {σ : Sg} {K : Int32 → Sg → Prop} (hY : YD Y)  (h : w_Md_firsts x1 σ K) : MetI Y y_Md_firsts prog_9_method_62_code 5 (.int) 6 136 [.ref (ya Y 43), .int x1] σ K := by
  refine met_I [(0, .ref (ya Y 43)), (1, .int x1)] hY (by decide) (Nat.le_of_ble_eq_true rfl) rfl (fun X C hr => ?_)
  unfold w_Md_firsts at h
  refine q_aload_n (pc := 0) C d_Md_firsts_0 rfl 0 rfl ?_
  refine q_iload_n (pc := 1) C d_Md_firsts_1 rfl 1 rfl ?_
  refine q_callVIr (pc := 2) (st := []) (d := 43) C (m_Md_isAppliance hY h) mi_Md_isAppliance rfl (by decide) rfl wd_877 rfl rfl (Nat.le_of_ble_eq_true rfl) (by decide) (by decide) d_Md_firsts_2 (fun u2 h => ?_)
  obtain ⟨h9, h10⟩ := h
  refine q_if_ne (pc := 5) 10 C d_Md_firsts_5 (by decide) (fun hc => ?_) (fun hc => ?_)
  · have h := h9 hc
    refine q_aload_n (pc := 10) C d_Md_firsts_10 rfl 0 rfl ?_
    refine q_get (pc := 11) (c := 43) (ci := 7) (k := 8) (v := .ref (ya Y 49)) C rfl (by decide) (by decide) wd_741 rfl d_Md_firsts_11 ?_
    refine q_iconst (pc := 14) (v := 3) C d_Md_firsts_14 (by decide) ?_
    refine q_iload_n (pc := 15) C d_Md_firsts_15 rfl 1 rfl ?_
    refine q_imul (pc := 16) C d_Md_firsts_16 ?_
    obtain ⟨h1, h⟩ := h
    refine q_iald (pc := 17) (c := 49) C ⟨rfl, rfl⟩ h1 d_Md_firsts_17 ?_
    refine q_nmi (fun y2_18 ey2_18 => ?_)
    replace h := h y2_18 ey2_18
    refine q_istore_n (pc := 18) [(2, .int y2_18), (0, .ref (ya Y 43)), (1, .int x1)] C d_Md_firsts_18 rfl (by decide) rfl ?_
    refine q_iconst (pc := 19) (v := 0) C d_Md_firsts_19 (by decide) ?_
    refine q_istore_n (pc := 20) [(3, .int (0 : Int32)), (2, .int y2_18), (0, .ref (ya Y 43)), (1, .int x1)] C d_Md_firsts_20 rfl (by decide) rfl ?_
    refine q_iconst (pc := 21) (v := 1) C d_Md_firsts_21 (by decide) ?_
    refine q_istore (pc := 22) [(4, .int (1 : Int32)), (3, .int (0 : Int32)), (2, .int y2_18), (0, .ref (ya Y 43)), (1, .int x1)] C d_Md_firsts_22 (by decide) rfl ?_
    obtain ⟨n8, h⟩ := h
    refine q_sub [(0, .ref (ya Y 43)), (1, .int x1), (2, .int y2_18), (3, .int (0 : Int32)), (4, .int (1 : Int32))] [3, 4, 2, 1, 0] rfl ?_
    exact t_Md_firsts_24 hY C hr n8 (0 : Int32) (1 : Int32) σ h
  have h := h10 hc
  refine q_iconst (pc := 8) (v := -1) C d_Md_firsts_8 (by decide) ?_
  exact q_iret (pc := 9) C hr d_Md_firsts_9 h
theorem d_Md_inLeastTerms_0 : decode prog_9_method_63_code 0 = .ok (.iload_n 0, 1) := by decide +kernel
theorem d_Md_inLeastTerms_1 : decode prog_9_method_63_code 1 = .ok (.istore_n 3, 1) := by decide +kernel
theorem d_Md_inLeastTerms_2 : decode prog_9_method_63_code 2 = .ok (.iload_n 1, 1) := by decide +kernel
theorem d_Md_inLeastTerms_3 : decode prog_9_method_63_code 3 = .ok (.istore 4, 2) := by decide +kernel
theorem d_Md_inLeastTerms_5 : decode prog_9_method_63_code 5 = .ok (.iload 4, 2) := by decide +kernel
theorem d_Md_inLeastTerms_7 : decode prog_9_method_63_code 7 = .ok (.ifCond .eq 19, 3) := by decide +kernel
theorem d_Md_inLeastTerms_10 : decode prog_9_method_63_code 10 = .ok (.iload_n 3, 1) := by decide +kernel
theorem d_Md_inLeastTerms_11 : decode prog_9_method_63_code 11 = .ok (.iload 4, 2) := by decide +kernel
theorem d_Md_inLeastTerms_13 : decode prog_9_method_63_code 13 = .ok (.irem, 1) := by decide +kernel
theorem d_Md_inLeastTerms_14 : decode prog_9_method_63_code 14 = .ok (.istore 5, 2) := by decide +kernel
theorem d_Md_inLeastTerms_16 : decode prog_9_method_63_code 16 = .ok (.iload 4, 2) := by decide +kernel
theorem d_Md_inLeastTerms_18 : decode prog_9_method_63_code 18 = .ok (.istore_n 3, 1) := by decide +kernel
theorem d_Md_inLeastTerms_19 : decode prog_9_method_63_code 19 = .ok (.iload 5, 2) := by decide +kernel
theorem d_Md_inLeastTerms_21 : decode prog_9_method_63_code 21 = .ok (.istore 4, 2) := by decide +kernel
theorem d_Md_inLeastTerms_23 : decode prog_9_method_63_code 23 = .ok (.goto (-18), 3) := by decide +kernel
theorem d_Md_inLeastTerms_26 : decode prog_9_method_63_code 26 = .ok (.iload_n 2, 1) := by decide +kernel
theorem d_Md_inLeastTerms_27 : decode prog_9_method_63_code 27 = .ok (.ifCond .ne 10, 3) := by decide +kernel
theorem d_Md_inLeastTerms_30 : decode prog_9_method_63_code 30 = .ok (.iload_n 0, 1) := by decide +kernel
theorem d_Md_inLeastTerms_31 : decode prog_9_method_63_code 31 = .ok (.iload_n 3, 1) := by decide +kernel
theorem d_Md_inLeastTerms_32 : decode prog_9_method_63_code 32 = .ok (.idiv, 1) := by decide +kernel
theorem d_Md_inLeastTerms_33 : decode prog_9_method_63_code 33 = .ok (.i2l, 1) := by decide +kernel
theorem d_Md_inLeastTerms_34 : decode prog_9_method_63_code 34 = .ok (.goto 7, 3) := by decide +kernel
theorem d_Md_inLeastTerms_37 : decode prog_9_method_63_code 37 = .ok (.iload_n 1, 1) := by decide +kernel
theorem d_Md_inLeastTerms_38 : decode prog_9_method_63_code 38 = .ok (.iload_n 3, 1) := by decide +kernel
theorem d_Md_inLeastTerms_39 : decode prog_9_method_63_code 39 = .ok (.idiv, 1) := by decide +kernel
theorem d_Md_inLeastTerms_40 : decode prog_9_method_63_code 40 = .ok (.i2l, 1) := by decide +kernel
theorem d_Md_inLeastTerms_41 : decode prog_9_method_63_code 41 = .ok (.lreturn, 1) := by decide +kernel
abbrev y_Md_inLeastTerms : MethodName := ⟨"LoadCyclesModel", "inLeastTerms", "(III)J"⟩
theorem mi_Md_inLeastTerms : miS y_Md_inLeastTerms prog_9_method_63_code 6 (some .long) 3 := ⟨wd_1086, wd_72, wd_1087, by decide, by decide, by decide +kernel⟩
def L_Md_inLeastTerms_5 (x0 : Int32) (x1 : Int32) (x2 : Int32) (σ : Sg) (K : Int64 → Prop) : Nat → Int32 → Int32 → Prop
  | 0, _, _ => False
  | n + 1, v3, v4 =>
    ((v4 = 0 → ((¬ x2 = 0 → (¬ v3 = 0 ∧ K ((x1 / v3).toInt64))) ∧ (x2 = 0 → (¬ v3 = 0 ∧ K ((x0 / v3).toInt64))))) ∧ (¬ v4 = 0 → (¬ v4 = 0 ∧ (∀ y5_14 : Int32, y5_14 = (v3 - v3 / v4 * v4) → L_Md_inLeastTerms_5 x0 x1 x2 σ K n v4 y5_14))))
theorem t_Md_inLeastTerms_5 {X : Bx} {Y : Yx} {x0 : Int32} {x1 : Int32} {x2 : Int32} {σ : Sg} {K : Int64 → Prop}  (hY : YD Y) (C : Cx X Y prog_9_method_63_code 6 "LoadCyclesModel" 0 0) (hr : (xh X).sig.returnType = some .long)  : ∀ (n : Nat) (v3 : Int32) (v4 : Int32), L_Md_inLeastTerms_5 x0 x1 x2 σ K n v3 v4 → St X Y 6 (QL X Y (fun r τ => τ = σ ∧ K r)) 5 [(0, .int x0), (1, .int x1), (2, .int x2), (3, .int v3), (4, .int v4)] [] σ := by
  intro n
  induction n with
  | zero => intro v3 v4 h; exact h.elim
  | succ n ih =>
    intro v3 v4 h
    unfold L_Md_inLeastTerms_5 at h
    refine q_iload (pc := 5) C d_Md_inLeastTerms_5 4 rfl ?_
    obtain ⟨h6, h7⟩ := h
    refine q_if_eq (pc := 7) 26 C d_Md_inLeastTerms_7 (by decide) (fun hc => ?_) (fun hc => ?_)
    · have h := h6 hc
      refine q_iload_n (pc := 26) C d_Md_inLeastTerms_26 rfl 2 rfl ?_
      obtain ⟨h3, h4⟩ := h
      refine q_if_ne (pc := 27) 37 C d_Md_inLeastTerms_27 (by decide) (fun hc => ?_) (fun hc => ?_)
      · have h := h3 hc
        refine q_iload_n (pc := 37) C d_Md_inLeastTerms_37 rfl 1 rfl ?_
        refine q_iload_n (pc := 38) C d_Md_inLeastTerms_38 rfl 3 rfl ?_
        obtain ⟨h1, h⟩ := h
        refine q_idiv (pc := 39) C d_Md_inLeastTerms_39 h1 ?_
        refine q_i2l (pc := 40) C d_Md_inLeastTerms_40 ?_
        exact q_lret (pc := 41) C hr d_Md_inLeastTerms_41 ⟨rfl, h⟩
      have h := h4 hc
      refine q_iload_n (pc := 30) C d_Md_inLeastTerms_30 rfl 0 rfl ?_
      refine q_iload_n (pc := 31) C d_Md_inLeastTerms_31 rfl 3 rfl ?_
      obtain ⟨h2, h⟩ := h
      refine q_idiv (pc := 32) C d_Md_inLeastTerms_32 h2 ?_
      refine q_i2l (pc := 33) C d_Md_inLeastTerms_33 ?_
      refine q_goto (pc := 34) 41 C d_Md_inLeastTerms_34 (by decide) ?_
      exact q_lret (pc := 41) C hr d_Md_inLeastTerms_41 ⟨rfl, h⟩
    have h := h7 hc
    refine q_iload_n (pc := 10) C d_Md_inLeastTerms_10 rfl 3 rfl ?_
    refine q_iload (pc := 11) C d_Md_inLeastTerms_11 4 rfl ?_
    obtain ⟨h5, h⟩ := h
    refine q_irem (pc := 13) C d_Md_inLeastTerms_13 h5 ?_
    refine q_nmi (fun y5_14 ey5_14 => ?_)
    replace h := h y5_14 ey5_14
    refine q_istore (pc := 14) [(5, .int y5_14), (0, .int x0), (1, .int x1), (2, .int x2), (3, .int v3), (4, .int v4)] C d_Md_inLeastTerms_14 (by decide) rfl ?_
    refine q_iload (pc := 16) C d_Md_inLeastTerms_16 5 rfl ?_
    refine q_istore_n (pc := 18) [(3, .int v4), (5, .int y5_14), (0, .int x0), (1, .int x1), (2, .int x2), (4, .int v4)] C d_Md_inLeastTerms_18 rfl (by decide) rfl ?_
    refine q_iload (pc := 19) C d_Md_inLeastTerms_19 1 rfl ?_
    refine q_istore (pc := 21) [(4, .int y5_14), (3, .int v4), (5, .int y5_14), (0, .int x0), (1, .int x1), (2, .int x2)] C d_Md_inLeastTerms_21 (by decide) rfl ?_
    refine q_goto (pc := 23) 5 C d_Md_inLeastTerms_23 (by decide) ?_
    refine q_sub [(0, .int x0), (1, .int x1), (2, .int x2), (3, .int v4), (4, .int y5_14)] [3, 4, 5, 1, 0] rfl ?_
    exact ih v4 y5_14 h
def w_Md_inLeastTerms (x0 : Int32) (x1 : Int32) (x2 : Int32) (σ : Sg) (K : Int64 → Prop) : Prop :=
  (∃ n8 : Nat, L_Md_inLeastTerms_5 x0 x1 x2 σ K n8 x0 x1)
set_option maxHeartbeats 4000000 in
theorem m_Md_inLeastTerms {Y : Yx} {x0 : Int32} {x1 : Int32} {x2 : Int32} {σ : Sg} {K : Int64 → Prop} (hY : YD Y)  (h : w_Md_inLeastTerms x0 x1 x2 σ K) : MetL Y y_Md_inLeastTerms prog_9_method_63_code 6 0 0 [.int x0, .int x1, .int x2] σ (fun r τ => τ = σ ∧ K r) := by
  refine met_L [(0, .int x0), (1, .int x1), (2, .int x2)] hY (by decide) (Nat.le_of_ble_eq_true rfl) rfl (fun X C hr => ?_)
  unfold w_Md_inLeastTerms at h
  refine q_iload_n (pc := 0) C d_Md_inLeastTerms_0 rfl 0 rfl ?_
  refine q_istore_n (pc := 1) [(3, .int x0), (0, .int x0), (1, .int x1), (2, .int x2)] C d_Md_inLeastTerms_1 rfl (by decide) rfl ?_
  refine q_iload_n (pc := 2) C d_Md_inLeastTerms_2 rfl 2 rfl ?_
  refine q_istore (pc := 3) [(4, .int x1), (3, .int x0), (0, .int x0), (1, .int x1), (2, .int x2)] C d_Md_inLeastTerms_3 (by decide) rfl ?_
  obtain ⟨n8, h⟩ := h
  refine q_sub [(0, .int x0), (1, .int x1), (2, .int x2), (3, .int x0), (4, .int x1)] [2, 3, 4, 1, 0] rfl ?_
  exact t_Md_inLeastTerms_5 hY C hr n8 x0 x1 h
theorem d_Md_odds_0 : decode prog_9_method_64_code 0 = .ok (.aload_n 0, 1) := by decide +kernel
theorem d_Md_odds_1 : decode prog_9_method_64_code 1 = .ok (.iload_n 1, 1) := by decide +kernel
theorem d_Md_odds_2 : decode prog_9_method_64_code 2 = .ok (.invokevirtual 147, 3) := by decide +kernel
theorem d_Md_odds_5 : decode prog_9_method_64_code 5 = .ok (.ifCond .eq 20, 3) := by decide +kernel
theorem d_Md_odds_8 : decode prog_9_method_64_code 8 = .ok (.iload_n 2, 1) := by decide +kernel
theorem d_Md_odds_9 : decode prog_9_method_64_code 9 = .ok (.i2l, 1) := by decide +kernel
theorem d_Md_odds_10 : decode prog_9_method_64_code 10 = .ok (.lconst 0, 1) := by decide +kernel
theorem d_Md_odds_11 : decode prog_9_method_64_code 11 = .ok (.lconst 1, 1) := by decide +kernel
theorem d_Md_odds_12 : decode prog_9_method_64_code 12 = .ok (.invokestatic 87, 3) := by decide +kernel
theorem d_Md_odds_15 : decode prog_9_method_64_code 15 = .ok (.ifCond .eq 10, 3) := by decide +kernel
theorem d_Md_odds_18 : decode prog_9_method_64_code 18 = .ok (.aload_n 0, 1) := by decide +kernel
theorem d_Md_odds_19 : decode prog_9_method_64_code 19 = .ok (.getfield 96, 3) := by decide +kernel
theorem d_Md_odds_22 : decode prog_9_method_64_code 22 = .ok (.ifCond .ne 7, 3) := by decide +kernel
theorem d_Md_odds_25 : decode prog_9_method_64_code 25 = .ok (.ldc2_w 83, 3) := by decide +kernel
theorem d_Md_odds_28 : decode prog_9_method_64_code 28 = .ok (.lreturn, 1) := by decide +kernel
theorem d_Md_odds_29 : decode prog_9_method_64_code 29 = .ok (.aload_n 0, 1) := by decide +kernel
theorem d_Md_odds_30 : decode prog_9_method_64_code 30 = .ok (.invokevirtual 202, 3) := by decide +kernel
theorem d_Md_odds_33 : decode prog_9_method_64_code 33 = .ok (.iconst 0, 1) := by decide +kernel
theorem d_Md_odds_34 : decode prog_9_method_64_code 34 = .ok (.istore_n 3, 1) := by decide +kernel
theorem d_Md_odds_35 : decode prog_9_method_64_code 35 = .ok (.iconst 0, 1) := by decide +kernel
theorem d_Md_odds_36 : decode prog_9_method_64_code 36 = .ok (.istore 4, 2) := by decide +kernel
theorem d_Md_odds_38 : decode prog_9_method_64_code 38 = .ok (.iload 4, 2) := by decide +kernel
theorem d_Md_odds_40 : decode prog_9_method_64_code 40 = .ok (.aload_n 0, 1) := by decide +kernel
theorem d_Md_odds_41 : decode prog_9_method_64_code 41 = .ok (.getfield 96, 3) := by decide +kernel
theorem d_Md_odds_44 : decode prog_9_method_64_code 44 = .ok (.if_icmp .ge 31, 3) := by decide +kernel
theorem d_Md_odds_47 : decode prog_9_method_64_code 47 = .ok (.iload_n 3, 1) := by decide +kernel
theorem d_Md_odds_48 : decode prog_9_method_64_code 48 = .ok (.aload_n 0, 1) := by decide +kernel
theorem d_Md_odds_49 : decode prog_9_method_64_code 49 = .ok (.getfield 64, 3) := by decide +kernel
theorem d_Md_odds_52 : decode prog_9_method_64_code 52 = .ok (.iload 4, 2) := by decide +kernel
theorem d_Md_odds_54 : decode prog_9_method_64_code 54 = .ok (.iaload, 1) := by decide +kernel
theorem d_Md_odds_55 : decode prog_9_method_64_code 55 = .ok (.iload_n 1, 1) := by decide +kernel
theorem d_Md_odds_56 : decode prog_9_method_64_code 56 = .ok (.invokestatic 172, 3) := by decide +kernel
theorem d_Md_odds_59 : decode prog_9_method_64_code 59 = .ok (.ifCond .ne 7, 3) := by decide +kernel
theorem d_Md_odds_62 : decode prog_9_method_64_code 62 = .ok (.iconst 0, 1) := by decide +kernel
theorem d_Md_odds_63 : decode prog_9_method_64_code 63 = .ok (.goto 4, 3) := by decide +kernel
theorem d_Md_odds_66 : decode prog_9_method_64_code 66 = .ok (.iconst 1, 1) := by decide +kernel
theorem d_Md_odds_67 : decode prog_9_method_64_code 67 = .ok (.iadd, 1) := by decide +kernel
theorem d_Md_odds_68 : decode prog_9_method_64_code 68 = .ok (.istore_n 3, 1) := by decide +kernel
theorem d_Md_odds_69 : decode prog_9_method_64_code 69 = .ok (.iinc 4 1, 3) := by decide +kernel
theorem d_Md_odds_72 : decode prog_9_method_64_code 72 = .ok (.goto (-34), 3) := by decide +kernel
theorem d_Md_odds_75 : decode prog_9_method_64_code 75 = .ok (.iload_n 3, 1) := by decide +kernel
theorem d_Md_odds_76 : decode prog_9_method_64_code 76 = .ok (.aload_n 0, 1) := by decide +kernel
theorem d_Md_odds_77 : decode prog_9_method_64_code 77 = .ok (.getfield 96, 3) := by decide +kernel
theorem d_Md_odds_80 : decode prog_9_method_64_code 80 = .ok (.iload_n 2, 1) := by decide +kernel
theorem d_Md_odds_81 : decode prog_9_method_64_code 81 = .ok (.invokestatic 273, 3) := by decide +kernel
theorem d_Md_odds_84 : decode prog_9_method_64_code 84 = .ok (.lreturn, 1) := by decide +kernel
abbrev y_Md_odds : MethodName := ⟨"LoadCyclesModel", "odds", "(II)J"⟩
theorem mi_Md_odds : miV y_Md_odds prog_9_method_64_code 5 (some .long) 2 := ⟨wd_1082, wd_1083, wd_72, wd_1084, by decide, by decide, by decide +kernel⟩
def B_Md_odds_67 (x1 : Int32) (x2 : Int32) (K : Int64 → Sg → Prop) (r38 : Int32 → Int32 → Sg → Prop) (v4 : Int32) (vs0 : Int32) (vs1 : Int32) (σ : Sg) : Prop :=
  (∀ y3_68 : Int32, y3_68 = (vs1 + vs0) → r38 y3_68 (v4 + (1 : Int32)) σ)
theorem t_Md_odds_67 {X : Bx} {Y : Yx} {x1 : Int32} {x2 : Int32} {v4 : Int32} {vs0 : Int32} {vs1 : Int32} {K : Int64 → Sg → Prop} {r38 : Int32 → Int32 → Sg → Prop} (hY : YD Y) (C : Cx X Y prog_9_method_64_code 5 "LoadCyclesModel" 4 91) (hr : (xh X).sig.returnType = some .long)  (H38 : ∀ (v3 : Int32) (v4 : Int32) (σ : Sg), r38 v3 v4 σ → St X Y 5 (QL X Y K) 38 [(0, .ref (ya Y 43)), (1, .int x1), (2, .int x2), (3, .int v3), (4, .int v4)] [] σ)  {σ : Sg} (h : B_Md_odds_67 x1 x2 K r38 v4 vs0 vs1 σ) : St X Y 5 (QL X Y K) 67 [(0, .ref (ya Y 43)), (1, .int x1), (2, .int x2), (4, .int v4)] [.int vs0, .int vs1] σ := by
  unfold B_Md_odds_67 at h
  refine q_iadd (pc := 67) C d_Md_odds_67 ?_
  refine q_nmi (fun y3_68 ey3_68 => ?_)
  replace h := h y3_68 ey3_68
  refine q_istore_n (pc := 68) [(3, .int y3_68), (0, .ref (ya Y 43)), (1, .int x1), (2, .int x2), (4, .int v4)] C d_Md_odds_68 rfl (by decide) rfl ?_
  refine q_iinc (pc := 69) (v4 + (1 : Int32)) [(4, .int (v4 + (1 : Int32))), (3, .int y3_68), (0, .ref (ya Y 43)), (1, .int x1), (2, .int x2)] C d_Md_odds_69 4 rfl rfl (by decide) rfl ?_
  refine q_goto (pc := 72) 38 C d_Md_odds_72 (by decide) ?_
  refine q_sub [(0, .ref (ya Y 43)), (1, .int x1), (2, .int x2), (3, .int y3_68), (4, .int (v4 + (1 : Int32)))] [2, 3, 4, 1, 0] rfl ?_
  exact H38 y3_68 (v4 + (1 : Int32)) σ h
def L_Md_odds_38 (x1 : Int32) (x2 : Int32) (K : Int64 → Sg → Prop) : Nat → Int32 → Int32 → Sg → Prop
  | 0, _, _, _ => False
  | n + 1, v3, v4, σ =>
    (((σ 43 9) ≤ v4 → w_Md_inLeastTerms v3 (σ 43 9) x2 σ (fun u81 => K u81 σ)) ∧ (¬ (σ 43 9) ≤ v4 → (vp_in v4 20 ∧ w_Md_digit (σ 62 v4.toNatClampNeg) x1 σ (fun u56 => ((¬ u56 = 0 → B_Md_odds_67 x1 x2 K (fun a0 a1 a2 => L_Md_odds_38 x1 x2 K n a0 a1 a2) v4 (1 : Int32) v3 σ) ∧ (u56 = 0 → B_Md_odds_67 x1 x2 K (fun a0 a1 a2 => L_Md_odds_38 x1 x2 K n a0 a1 a2) v4 (0 : Int32) v3 σ))))))
theorem t_Md_odds_38 {X : Bx} {Y : Yx} {x1 : Int32} {x2 : Int32} {K : Int64 → Sg → Prop}  (hY : YD Y) (C : Cx X Y prog_9_method_64_code 5 "LoadCyclesModel" 4 91) (hr : (xh X).sig.returnType = some .long)  : ∀ (n : Nat) (v3 : Int32) (v4 : Int32) (σ : Sg), L_Md_odds_38 x1 x2 K n v3 v4 σ → St X Y 5 (QL X Y K) 38 [(0, .ref (ya Y 43)), (1, .int x1), (2, .int x2), (3, .int v3), (4, .int v4)] [] σ := by
  intro n
  induction n with
  | zero => intro v3 v4 σ h; exact h.elim
  | succ n ih =>
    intro v3 v4 σ h
    unfold L_Md_odds_38 at h
    refine q_iload (pc := 38) C d_Md_odds_38 4 rfl ?_
    refine q_aload_n (pc := 40) C d_Md_odds_40 rfl 0 rfl ?_
    refine q_get (pc := 41) (c := 43) (ci := 7) (k := 9) (v := .int (σ 43 9)) C rfl (by decide) (by decide) wd_742 rfl d_Md_odds_41 ?_
    obtain ⟨h4, h5⟩ := h
    refine q_icmp_ge (pc := 44) 75 C d_Md_odds_44 (by decide) (fun hc => ?_) (fun hc => ?_)
    · have h := h4 hc
      refine q_iload_n (pc := 75) C d_Md_odds_75 rfl 3 rfl ?_
      refine q_aload_n (pc := 76) C d_Md_odds_76 rfl 0 rfl ?_
      refine q_get (pc := 77) (c := 43) (ci := 7) (k := 9) (v := .int (σ 43 9)) C rfl (by decide) (by decide) wd_742 rfl d_Md_odds_77 ?_
      refine q_iload_n (pc := 80) C d_Md_odds_80 rfl 2 rfl ?_
      refine q_callSLr (pc := 81) (st := []) C (m_Md_inLeastTerms hY h) mi_Md_inLeastTerms wd_1085 rfl rfl (Nat.le_of_ble_eq_true rfl) (by decide) (by decide) d_Md_odds_81 (fun u81 h => ?_)
      exact q_lret (pc := 84) C hr d_Md_odds_84 h
    have h := h5 hc
    refine q_iload_n (pc := 47) C d_Md_odds_47 rfl 3 rfl ?_
    refine q_aload_n (pc := 48) C d_Md_odds_48 rfl 0 rfl ?_
    refine q_get (pc := 49) (c := 43) (ci := 7) (k := 26) (v := .ref (ya Y 62)) C rfl (by decide) (by decide) wd_759 rfl d_Md_odds_49 ?_
    refine q_iload (pc := 52) C d_Md_odds_52 4 rfl ?_
    obtain ⟨h1, h⟩ := h
    refine q_iald (pc := 54) (c := 62) C ⟨rfl, rfl⟩ h1 d_Md_odds_54 ?_
    refine q_iload_n (pc := 55) C d_Md_odds_55 rfl 1 rfl ?_
    refine q_callSIr (pc := 56) (st := [.int v3]) C (m_Md_digit hY h) mi_Md_digit wd_931 rfl rfl (Nat.le_of_ble_eq_true rfl) (by decide) (by decide) d_Md_odds_56 (fun u56 h => ?_)
    obtain ⟨h2, h3⟩ := h
    refine q_if_ne (pc := 59) 66 C d_Md_odds_59 (by decide) (fun hc => ?_) (fun hc => ?_)
    · have h := h2 hc
      refine q_iconst (pc := 66) (v := 1) C d_Md_odds_66 (by decide) ?_
      refine q_sub [(0, .ref (ya Y 43)), (1, .int x1), (2, .int x2), (4, .int v4)] [0, 1, 2, 4] rfl ?_
      exact t_Md_odds_67 hY C hr ih h
    have h := h3 hc
    refine q_iconst (pc := 62) (v := 0) C d_Md_odds_62 (by decide) ?_
    refine q_goto (pc := 63) 67 C d_Md_odds_63 (by decide) ?_
    refine q_sub [(0, .ref (ya Y 43)), (1, .int x1), (2, .int x2), (4, .int v4)] [0, 1, 2, 4] rfl ?_
    exact t_Md_odds_67 hY C hr ih h
def w_Md_odds (x1 : Int32) (x2 : Int32) (σ : Sg) (K : Int64 → Sg → Prop) : Prop :=
  w_Md_isAppliance x1 σ (fun u2 => ((u2 = 0 → K (-9223372036854775808 : Int64) σ) ∧ (¬ u2 = 0 → w_Md_within (x2.toInt64) (0 : Int64) (1 : Int64) σ (fun u12 => ((u12 = 0 → K (-9223372036854775808 : Int64) σ) ∧ (¬ u12 = 0 → ((¬ (σ 43 9) = 0 → w_Md_findBest σ (fun τ30 => (∃ n6 : Nat, L_Md_odds_38 x1 x2 K n6 (0 : Int32) (0 : Int32) τ30))) ∧ ((σ 43 9) = 0 → K (-9223372036854775808 : Int64) σ))))))))
set_option maxHeartbeats 4000000 in
theorem m_Md_odds {Y : Yx} {x1 : Int32} {x2 : Int32} {σ : Sg} {K : Int64 → Sg → Prop} (hY : YD Y)  (h : w_Md_odds x1 x2 σ K) : MetL Y y_Md_odds prog_9_method_64_code 5 4 91 [.ref (ya Y 43), .int x1, .int x2] σ K := by
  refine met_L [(0, .ref (ya Y 43)), (1, .int x1), (2, .int x2)] hY (by decide) (Nat.le_of_ble_eq_true rfl) rfl (fun X C hr => ?_)
  unfold w_Md_odds at h
  refine q_aload_n (pc := 0) C d_Md_odds_0 rfl 0 rfl ?_
  refine q_iload_n (pc := 1) C d_Md_odds_1 rfl 1 rfl ?_
  refine q_callVIr (pc := 2) (st := []) (d := 43) C (m_Md_isAppliance hY h) mi_Md_isAppliance rfl (by decide) rfl wd_877 rfl rfl (Nat.le_of_ble_eq_true rfl) (by decide) (by decide) d_Md_odds_2 (fun u2 h => ?_)
  obtain ⟨h11, h12⟩ := h
  refine q_if_eq (pc := 5) 25 C d_Md_odds_5 (by decide) (fun hc => ?_) (fun hc => ?_)
  · have h := h11 hc
    refine q_ldc2 (pc := 25) C wd_1059 d_Md_odds_25 ?_
    exact q_lret (pc := 28) C hr d_Md_odds_28 h
  have h := h12 hc
  refine q_iload_n (pc := 8) C d_Md_odds_8 rfl 2 rfl ?_
  refine q_i2l (pc := 9) C d_Md_odds_9 ?_
  refine q_lconst (pc := 10) (v := 0) C d_Md_odds_10 (by decide) ?_
  refine q_lconst (pc := 11) (v := 1) C d_Md_odds_11 (by decide) ?_
  refine q_callSIr (pc := 12) (st := []) C (m_Md_within hY h) mi_Md_within wd_841 rfl rfl (Nat.le_of_ble_eq_true rfl) (by decide) (by decide) d_Md_odds_12 (fun u12 h => ?_)
  obtain ⟨h9, h10⟩ := h
  refine q_if_eq (pc := 15) 25 C d_Md_odds_15 (by decide) (fun hc => ?_) (fun hc => ?_)
  · have h := h9 hc
    refine q_ldc2 (pc := 25) C wd_1059 d_Md_odds_25 ?_
    exact q_lret (pc := 28) C hr d_Md_odds_28 h
  have h := h10 hc
  refine q_aload_n (pc := 18) C d_Md_odds_18 rfl 0 rfl ?_
  refine q_get (pc := 19) (c := 43) (ci := 7) (k := 9) (v := .int (σ 43 9)) C rfl (by decide) (by decide) wd_742 rfl d_Md_odds_19 ?_
  obtain ⟨h7, h8⟩ := h
  refine q_if_ne (pc := 22) 29 C d_Md_odds_22 (by decide) (fun hc => ?_) (fun hc => ?_)
  · have h := h7 hc
    refine q_aload_n (pc := 29) C d_Md_odds_29 rfl 0 rfl ?_
    refine q_callVV (pc := 30) (st := []) (d := 43) C (m_Md_findBest hY h) mi_Md_findBest rfl (by decide) rfl wd_919 rfl rfl (Nat.le_of_ble_eq_true rfl) (by decide) (by decide) d_Md_odds_30 (fun τ30 h => ?_)
    refine q_iconst (pc := 33) (v := 0) C d_Md_odds_33 (by decide) ?_
    refine q_istore_n (pc := 34) [(3, .int (0 : Int32)), (0, .ref (ya Y 43)), (1, .int x1), (2, .int x2)] C d_Md_odds_34 rfl (by decide) rfl ?_
    refine q_iconst (pc := 35) (v := 0) C d_Md_odds_35 (by decide) ?_
    refine q_istore (pc := 36) [(4, .int (0 : Int32)), (3, .int (0 : Int32)), (0, .ref (ya Y 43)), (1, .int x1), (2, .int x2)] C d_Md_odds_36 (by decide) rfl ?_
    obtain ⟨n6, h⟩ := h
    refine q_sub [(0, .ref (ya Y 43)), (1, .int x1), (2, .int x2), (3, .int (0 : Int32)), (4, .int (0 : Int32))] [2, 3, 4, 1, 0] rfl ?_
    exact t_Md_odds_38 hY C hr n6 (0 : Int32) (0 : Int32) τ30 h
  have h := h8 hc
  refine q_ldc2 (pc := 25) C wd_1059 d_Md_odds_25 ?_
  exact q_lret (pc := 28) C hr d_Md_odds_28 h
theorem d_Md_sheet_0 : decode prog_9_method_65_code 0 = .ok (.aload_n 0, 1) := by decide +kernel
theorem d_Md_sheet_1 : decode prog_9_method_65_code 1 = .ok (.iconst 0, 1) := by decide +kernel
theorem d_Md_sheet_2 : decode prog_9_method_65_code 2 = .ok (.putfield 79, 3) := by decide +kernel
theorem d_Md_sheet_5 : decode prog_9_method_65_code 5 = .ok (.iload_n 1, 1) := by decide +kernel
theorem d_Md_sheet_6 : decode prog_9_method_65_code 6 = .ok (.invokestatic 121, 3) := by decide +kernel
theorem d_Md_sheet_9 : decode prog_9_method_65_code 9 = .ok (.ifCond .ne 5, 3) := by decide +kernel
theorem d_Md_sheet_12 : decode prog_9_method_65_code 12 = .ok (.iconst (-1), 1) := by decide +kernel
theorem d_Md_sheet_13 : decode prog_9_method_65_code 13 = .ok (.ireturn, 1) := by decide +kernel
theorem d_Md_sheet_14 : decode prog_9_method_65_code 14 = .ok (.iload_n 2, 1) := by decide +kernel
theorem d_Md_sheet_15 : decode prog_9_method_65_code 15 = .ok (.invokestatic 124, 3) := by decide +kernel
theorem d_Md_sheet_18 : decode prog_9_method_65_code 18 = .ok (.ifCond .eq 9, 3) := by decide +kernel
theorem d_Md_sheet_21 : decode prog_9_method_65_code 21 = .ok (.iload_n 3, 1) := by decide +kernel
theorem d_Md_sheet_22 : decode prog_9_method_65_code 22 = .ok (.bipush 60, 2) := by decide +kernel
theorem d_Md_sheet_24 : decode prog_9_method_65_code 24 = .ok (.if_icmp .le 6, 3) := by decide +kernel
theorem d_Md_sheet_27 : decode prog_9_method_65_code 27 = .ok (.bipush (-2), 2) := by decide +kernel
theorem d_Md_sheet_29 : decode prog_9_method_65_code 29 = .ok (.ireturn, 1) := by decide +kernel
theorem d_Md_sheet_30 : decode prog_9_method_65_code 30 = .ok (.iload_n 3, 1) := by decide +kernel
theorem d_Md_sheet_31 : decode prog_9_method_65_code 31 = .ok (.ifCond .ge 9, 3) := by decide +kernel
theorem d_Md_sheet_34 : decode prog_9_method_65_code 34 = .ok (.aload_n 0, 1) := by decide +kernel
theorem d_Md_sheet_35 : decode prog_9_method_65_code 35 = .ok (.iconst 4, 1) := by decide +kernel
theorem d_Md_sheet_36 : decode prog_9_method_65_code 36 = .ok (.invokevirtual 131, 3) := by decide +kernel
theorem d_Md_sheet_39 : decode prog_9_method_65_code 39 = .ok (.ireturn, 1) := by decide +kernel
theorem d_Md_sheet_40 : decode prog_9_method_65_code 40 = .ok (.aload_n 0, 1) := by decide +kernel
theorem d_Md_sheet_41 : decode prog_9_method_65_code 41 = .ok (.getfield 9, 3) := by decide +kernel
theorem d_Md_sheet_44 : decode prog_9_method_65_code 44 = .ok (.iload_n 1, 1) := by decide +kernel
theorem d_Md_sheet_45 : decode prog_9_method_65_code 45 = .ok (.iload_n 2, 1) := by decide +kernel
theorem d_Md_sheet_46 : decode prog_9_method_65_code 46 = .ok (.iastore, 1) := by decide +kernel
theorem d_Md_sheet_47 : decode prog_9_method_65_code 47 = .ok (.aload_n 0, 1) := by decide +kernel
theorem d_Md_sheet_48 : decode prog_9_method_65_code 48 = .ok (.getfield 13, 3) := by decide +kernel
theorem d_Md_sheet_51 : decode prog_9_method_65_code 51 = .ok (.iload_n 1, 1) := by decide +kernel
theorem d_Md_sheet_52 : decode prog_9_method_65_code 52 = .ok (.iload_n 3, 1) := by decide +kernel
theorem d_Md_sheet_53 : decode prog_9_method_65_code 53 = .ok (.iastore, 1) := by decide +kernel
theorem d_Md_sheet_54 : decode prog_9_method_65_code 54 = .ok (.iconst 0, 1) := by decide +kernel
theorem d_Md_sheet_55 : decode prog_9_method_65_code 55 = .ok (.istore 4, 2) := by decide +kernel
theorem d_Md_sheet_57 : decode prog_9_method_65_code 57 = .ok (.iload 4, 2) := by decide +kernel
theorem d_Md_sheet_59 : decode prog_9_method_65_code 59 = .ok (.bipush 60, 2) := by decide +kernel
theorem d_Md_sheet_61 : decode prog_9_method_65_code 61 = .ok (.if_icmp .ge 22, 3) := by decide +kernel
theorem d_Md_sheet_64 : decode prog_9_method_65_code 64 = .ok (.aload_n 0, 1) := by decide +kernel
theorem d_Md_sheet_65 : decode prog_9_method_65_code 65 = .ok (.getfield 16, 3) := by decide +kernel
theorem d_Md_sheet_68 : decode prog_9_method_65_code 68 = .ok (.bipush 60, 2) := by decide +kernel
theorem d_Md_sheet_70 : decode prog_9_method_65_code 70 = .ok (.iload_n 1, 1) := by decide +kernel
theorem d_Md_sheet_71 : decode prog_9_method_65_code 71 = .ok (.imul, 1) := by decide +kernel
theorem d_Md_sheet_72 : decode prog_9_method_65_code 72 = .ok (.iload 4, 2) := by decide +kernel
theorem d_Md_sheet_74 : decode prog_9_method_65_code 74 = .ok (.iadd, 1) := by decide +kernel
theorem d_Md_sheet_75 : decode prog_9_method_65_code 75 = .ok (.iconst 0, 1) := by decide +kernel
theorem d_Md_sheet_76 : decode prog_9_method_65_code 76 = .ok (.iastore, 1) := by decide +kernel
theorem d_Md_sheet_77 : decode prog_9_method_65_code 77 = .ok (.iinc 4 1, 3) := by decide +kernel
theorem d_Md_sheet_80 : decode prog_9_method_65_code 80 = .ok (.goto (-23), 3) := by decide +kernel
theorem d_Md_sheet_83 : decode prog_9_method_65_code 83 = .ok (.iconst 1, 1) := by decide +kernel
theorem d_Md_sheet_84 : decode prog_9_method_65_code 84 = .ok (.ireturn, 1) := by decide +kernel
abbrev y_Md_sheet : MethodName := ⟨"LoadCyclesModel", "sheet", "(III)I"⟩
theorem mi_Md_sheet : miV y_Md_sheet prog_9_method_65_code 5 (some .int) 3 := ⟨wd_1089, wd_1090, wd_72, wd_1091, by decide, by decide, by decide +kernel⟩
def L_Md_sheet_57 (x1 : Int32) (x2 : Int32) (x3 : Int32) (K : Int32 → Sg → Prop) : Nat → Int32 → Sg → Prop
  | 0, _, _ => False
  | n + 1, v4, σ =>
    (((60 : Int32) ≤ v4 → K (1 : Int32) σ) ∧ (¬ (60 : Int32) ≤ v4 → (vp_in (((60 : Int32) * x1) + v4) 240 ∧ (∀ τ76 : Sg, τ76 = s2 σ 46 (((60 : Int32) * x1) + v4).toNatClampNeg (0 : Int32) → L_Md_sheet_57 x1 x2 x3 K n (v4 + (1 : Int32)) τ76))))
theorem t_Md_sheet_57 {X : Bx} {Y : Yx} {x1 : Int32} {x2 : Int32} {x3 : Int32} {K : Int32 → Sg → Prop}  (hY : YD Y) (C : Cx X Y prog_9_method_65_code 5 "LoadCyclesModel" 2 45) (hr : (xh X).sig.returnType = some .int)  : ∀ (n : Nat) (v4 : Int32) (σ : Sg), L_Md_sheet_57 x1 x2 x3 K n v4 σ → St X Y 5 (QI X Y K) 57 [(0, .ref (ya Y 43)), (1, .int x1), (4, .int v4)] [] σ := by
  intro n
  induction n with
  | zero => intro v4 σ h; exact h.elim
  | succ n ih =>
    intro v4 σ h
    unfold L_Md_sheet_57 at h
    refine q_iload (pc := 57) C d_Md_sheet_57 2 rfl ?_
    refine q_bipush (pc := 59) (v := 60) C d_Md_sheet_59 (by decide) ?_
    obtain ⟨h4, h5⟩ := h
    refine q_icmp_ge (pc := 61) 83 C d_Md_sheet_61 (by decide) (fun hc => ?_) (fun hc => ?_)
    · have h := h4 hc
      refine q_iconst (pc := 83) (v := 1) C d_Md_sheet_83 (by decide) ?_
      exact q_iret (pc := 84) C hr d_Md_sheet_84 h
    have h := h5 hc
    refine q_aload_n (pc := 64) C d_Md_sheet_64 rfl 0 rfl ?_
    refine q_get (pc := 65) (c := 43) (ci := 7) (k := 4) (v := .ref (ya Y 46)) C rfl (by decide) (by decide) wd_737 rfl d_Md_sheet_65 ?_
    refine q_bipush (pc := 68) (v := 60) C d_Md_sheet_68 (by decide) ?_
    refine q_iload_n (pc := 70) C d_Md_sheet_70 rfl 1 rfl ?_
    refine q_imul (pc := 71) C d_Md_sheet_71 ?_
    refine q_iload (pc := 72) C d_Md_sheet_72 2 rfl ?_
    refine q_iadd (pc := 74) C d_Md_sheet_74 ?_
    refine q_iconst (pc := 75) (v := 0) C d_Md_sheet_75 (by decide) ?_
    obtain ⟨h3, h⟩ := h
    refine q_iast (pc := 76) (c := 46) C ⟨rfl, rfl⟩ h3 d_Md_sheet_76 ?_
    refine q_nms (fun τ76 eτ76 => ?_)
    replace h := h τ76 eτ76
    refine q_iinc (pc := 77) (v4 + (1 : Int32)) [(4, .int (v4 + (1 : Int32))), (0, .ref (ya Y 43)), (1, .int x1)] C d_Md_sheet_77 2 rfl rfl (by decide) rfl ?_
    refine q_goto (pc := 80) 57 C d_Md_sheet_80 (by decide) ?_
    refine q_sub [(0, .ref (ya Y 43)), (1, .int x1), (4, .int (v4 + (1 : Int32)))] [1, 2, 0] rfl ?_
    exact ih (v4 + (1 : Int32)) τ76 h
def w_Md_sheet (x1 : Int32) (x2 : Int32) (x3 : Int32) (σ : Sg) (K : Int32 → Sg → Prop) : Prop :=
  (∀ τ2 : Sg, τ2 = s2 σ 43 0 (0 : Int32) → w_Md_isSheet x1 τ2 (fun u6 => ((¬ u6 = 0 → w_Md_isSort x2 τ2 (fun u15 => ((u15 = 0 → K (-2 : Int32) τ2) ∧ (¬ u15 = 0 → ((x3 ≤ (60 : Int32) → ((0 ≤ x3 → (vp_in x1 4 ∧ (∀ τ46 : Sg, τ46 = s2 τ2 44 x1.toNatClampNeg x2 → (vp_in x1 4 ∧ (∀ τ53 : Sg, τ53 = s2 τ46 45 x1.toNatClampNeg x3 → (∃ n6 : Nat, L_Md_sheet_57 x1 x2 x3 K n6 (0 : Int32) τ53)))))) ∧ (¬ 0 ≤ x3 → w_Md_fails (4 : Int32) τ2 (fun u36 τ36 => K u36 τ36)))) ∧ (¬ x3 ≤ (60 : Int32) → K (-2 : Int32) τ2)))))) ∧ (u6 = 0 → K (-1 : Int32) τ2))))
set_option maxHeartbeats 4000000 in
theorem m_Md_sheet {Y : Yx} {x1 : Int32} {x2 : Int32} {x3 : Int32} {σ : Sg} {K : Int32 → Sg → Prop} (hY : YD Y)  (h : w_Md_sheet x1 x2 x3 σ K) : MetI Y y_Md_sheet prog_9_method_65_code 5 (.int) 2 45 [.ref (ya Y 43), .int x1, .int x2, .int x3] σ K := by
  refine met_I [(0, .ref (ya Y 43)), (1, .int x1), (2, .int x2), (3, .int x3)] hY (by decide) (Nat.le_of_ble_eq_true rfl) rfl (fun X C hr => ?_)
  unfold w_Md_sheet at h
  refine q_aload_n (pc := 0) C d_Md_sheet_0 rfl 0 rfl ?_
  refine q_iconst (pc := 1) (v := 0) C d_Md_sheet_1 (by decide) ?_
  refine q_put (pc := 2) (c := 43) (ci := 7) (k := 0) C rfl (by decide) (by decide) wd_733 rfl rfl rfl fs_7_0 d_Md_sheet_2 ?_
  refine q_nms (fun τ2 eτ2 => ?_)
  replace h := h τ2 eτ2
  refine q_iload_n (pc := 5) C d_Md_sheet_5 rfl 1 rfl ?_
  refine q_callSIr (pc := 6) (st := []) C (m_Md_isSheet hY h) mi_Md_isSheet wd_837 rfl rfl (Nat.le_of_ble_eq_true rfl) (by decide) (by decide) d_Md_sheet_6 (fun u6 h => ?_)
  obtain ⟨h13, h14⟩ := h
  refine q_if_ne (pc := 9) 14 C d_Md_sheet_9 (by decide) (fun hc => ?_) (fun hc => ?_)
  · have h := h13 hc
    refine q_iload_n (pc := 14) C d_Md_sheet_14 rfl 2 rfl ?_
    refine q_callSIr (pc := 15) (st := []) C (m_Md_isSort hY h) mi_Md_isSort wd_844 rfl rfl (Nat.le_of_ble_eq_true rfl) (by decide) (by decide) d_Md_sheet_15 (fun u15 h => ?_)
    obtain ⟨h11, h12⟩ := h
    refine q_if_eq (pc := 18) 27 C d_Md_sheet_18 (by decide) (fun hc => ?_) (fun hc => ?_)
    · have h := h11 hc
      refine q_bipush (pc := 27) (v := -2) C d_Md_sheet_27 (by decide) ?_
      exact q_iret (pc := 29) C hr d_Md_sheet_29 h
    have h := h12 hc
    refine q_iload_n (pc := 21) C d_Md_sheet_21 rfl 3 rfl ?_
    refine q_bipush (pc := 22) (v := 60) C d_Md_sheet_22 (by decide) ?_
    obtain ⟨h9, h10⟩ := h
    refine q_icmp_le (pc := 24) 30 C d_Md_sheet_24 (by decide) (fun hc => ?_) (fun hc => ?_)
    · have h := h9 hc
      refine q_iload_n (pc := 30) C d_Md_sheet_30 rfl 3 rfl ?_
      obtain ⟨h7, h8⟩ := h
      refine q_if_ge (pc := 31) 40 C d_Md_sheet_31 (by decide) (fun hc => ?_) (fun hc => ?_)
      · have h := h7 hc
        refine q_aload_n (pc := 40) C d_Md_sheet_40 rfl 0 rfl ?_
        refine q_get (pc := 41) (c := 43) (ci := 7) (k := 2) (v := .ref (ya Y 44)) C rfl (by decide) (by decide) wd_735 rfl d_Md_sheet_41 ?_
        refine q_iload_n (pc := 44) C d_Md_sheet_44 rfl 1 rfl ?_
        refine q_iload_n (pc := 45) C d_Md_sheet_45 rfl 2 rfl ?_
        obtain ⟨h1, h⟩ := h
        refine q_iast (pc := 46) (c := 44) C ⟨rfl, rfl⟩ h1 d_Md_sheet_46 ?_
        refine q_nms (fun τ46 eτ46 => ?_)
        replace h := h τ46 eτ46
        refine q_aload_n (pc := 47) C d_Md_sheet_47 rfl 0 rfl ?_
        refine q_get (pc := 48) (c := 43) (ci := 7) (k := 3) (v := .ref (ya Y 45)) C rfl (by decide) (by decide) wd_736 rfl d_Md_sheet_48 ?_
        refine q_iload_n (pc := 51) C d_Md_sheet_51 rfl 1 rfl ?_
        refine q_iload_n (pc := 52) C d_Md_sheet_52 rfl 3 rfl ?_
        obtain ⟨h2, h⟩ := h
        refine q_iast (pc := 53) (c := 45) C ⟨rfl, rfl⟩ h2 d_Md_sheet_53 ?_
        refine q_nms (fun τ53 eτ53 => ?_)
        replace h := h τ53 eτ53
        refine q_iconst (pc := 54) (v := 0) C d_Md_sheet_54 (by decide) ?_
        refine q_istore (pc := 55) [(4, .int (0 : Int32)), (0, .ref (ya Y 43)), (1, .int x1), (2, .int x2), (3, .int x3)] C d_Md_sheet_55 (by decide) rfl ?_
        obtain ⟨n6, h⟩ := h
        refine q_sub [(0, .ref (ya Y 43)), (1, .int x1), (4, .int (0 : Int32))] [1, 2, 0] rfl ?_
        exact t_Md_sheet_57 hY C hr n6 (0 : Int32) τ53 h
      have h := h8 hc
      refine q_aload_n (pc := 34) C d_Md_sheet_34 rfl 0 rfl ?_
      refine q_iconst (pc := 35) (v := 4) C d_Md_sheet_35 (by decide) ?_
      refine q_callVI (pc := 36) (st := []) (d := 43) C (m_Md_fails hY h) mi_Md_fails rfl (by decide) rfl wd_852 rfl rfl (Nat.le_of_ble_eq_true rfl) (by decide) (by decide) d_Md_sheet_36 (fun u36 τ36 h => ?_)
      exact q_iret (pc := 39) C hr d_Md_sheet_39 h
    have h := h10 hc
    refine q_bipush (pc := 27) (v := -2) C d_Md_sheet_27 (by decide) ?_
    exact q_iret (pc := 29) C hr d_Md_sheet_29 h
  have h := h14 hc
  refine q_iconst (pc := 12) (v := -1) C d_Md_sheet_12 (by decide) ?_
  exact q_iret (pc := 13) C hr d_Md_sheet_13 h
theorem d_Md_lose_0 : decode prog_9_method_66_code 0 = .ok (.iload_n 1, 1) := by decide +kernel
theorem d_Md_lose_1 : decode prog_9_method_66_code 1 = .ok (.invokestatic 121, 3) := by decide +kernel
theorem d_Md_lose_4 : decode prog_9_method_66_code 4 = .ok (.ifCond .ne 5, 3) := by decide +kernel
theorem d_Md_lose_7 : decode prog_9_method_66_code 7 = .ok (.iconst (-1), 1) := by decide +kernel
theorem d_Md_lose_8 : decode prog_9_method_66_code 8 = .ok (.ireturn, 1) := by decide +kernel
theorem d_Md_lose_9 : decode prog_9_method_66_code 9 = .ok (.aload_n 0, 1) := by decide +kernel
theorem d_Md_lose_10 : decode prog_9_method_66_code 10 = .ok (.getfield 9, 3) := by decide +kernel
theorem d_Md_lose_13 : decode prog_9_method_66_code 13 = .ok (.iload_n 1, 1) := by decide +kernel
theorem d_Md_lose_14 : decode prog_9_method_66_code 14 = .ok (.iaload, 1) := by decide +kernel
theorem d_Md_lose_15 : decode prog_9_method_66_code 15 = .ok (.bipush (-9), 2) := by decide +kernel
theorem d_Md_lose_17 : decode prog_9_method_66_code 17 = .ok (.if_icmp .ne 7, 3) := by decide +kernel
theorem d_Md_lose_20 : decode prog_9_method_66_code 20 = .ok (.iconst 0, 1) := by decide +kernel
theorem d_Md_lose_21 : decode prog_9_method_66_code 21 = .ok (.goto 4, 3) := by decide +kernel
theorem d_Md_lose_24 : decode prog_9_method_66_code 24 = .ok (.iconst 1, 1) := by decide +kernel
theorem d_Md_lose_25 : decode prog_9_method_66_code 25 = .ok (.istore_n 2, 1) := by decide +kernel
theorem d_Md_lose_26 : decode prog_9_method_66_code 26 = .ok (.aload_n 0, 1) := by decide +kernel
theorem d_Md_lose_27 : decode prog_9_method_66_code 27 = .ok (.getfield 9, 3) := by decide +kernel
theorem d_Md_lose_30 : decode prog_9_method_66_code 30 = .ok (.iload_n 1, 1) := by decide +kernel
theorem d_Md_lose_31 : decode prog_9_method_66_code 31 = .ok (.bipush (-9), 2) := by decide +kernel
theorem d_Md_lose_33 : decode prog_9_method_66_code 33 = .ok (.iastore, 1) := by decide +kernel
theorem d_Md_lose_34 : decode prog_9_method_66_code 34 = .ok (.iload_n 2, 1) := by decide +kernel
theorem d_Md_lose_35 : decode prog_9_method_66_code 35 = .ok (.ireturn, 1) := by decide +kernel
abbrev y_Md_lose : MethodName := ⟨"LoadCyclesModel", "lose", "(I)I"⟩
theorem mi_Md_lose : miV y_Md_lose prog_9_method_66_code 3 (some .int) 1 := ⟨wd_1093, wd_1094, wd_72, wd_1095, by decide, by decide, by decide +kernel⟩
def B_Md_lose_25 (x1 : Int32) (K : Int32 → Sg → Prop) (vs0 : Int32) (σ : Sg) : Prop :=
  (vp_in x1 4 ∧ (∀ τ33 : Sg, τ33 = s2 σ 44 x1.toNatClampNeg (-9 : Int32) → K vs0 τ33))
theorem t_Md_lose_25 {X : Bx} {Y : Yx} {x1 : Int32} {vs0 : Int32} {K : Int32 → Sg → Prop}  (hY : YD Y) (C : Cx X Y prog_9_method_66_code 3 "LoadCyclesModel" 2 45) (hr : (xh X).sig.returnType = some .int)   {σ : Sg} (h : B_Md_lose_25 x1 K vs0 σ) : St X Y 3 (QI X Y K) 25 [(0, .ref (ya Y 43)), (1, .int x1)] [.int vs0] σ := by
  unfold B_Md_lose_25 at h
  refine q_istore_n (pc := 25) [(2, .int vs0), (0, .ref (ya Y 43)), (1, .int x1)] C d_Md_lose_25 rfl (by decide) rfl ?_
  refine q_aload_n (pc := 26) C d_Md_lose_26 rfl 1 rfl ?_
  refine q_get (pc := 27) (c := 43) (ci := 7) (k := 2) (v := .ref (ya Y 44)) C rfl (by decide) (by decide) wd_735 rfl d_Md_lose_27 ?_
  refine q_iload_n (pc := 30) C d_Md_lose_30 rfl 2 rfl ?_
  refine q_bipush (pc := 31) (v := -9) C d_Md_lose_31 (by decide) ?_
  obtain ⟨h2, h⟩ := h
  refine q_iast (pc := 33) (c := 44) C ⟨rfl, rfl⟩ h2 d_Md_lose_33 ?_
  refine q_nms (fun τ33 eτ33 => ?_)
  replace h := h τ33 eτ33
  refine q_iload_n (pc := 34) C d_Md_lose_34 rfl 0 rfl ?_
  exact q_iret (pc := 35) C hr d_Md_lose_35 h
def w_Md_lose (x1 : Int32) (σ : Sg) (K : Int32 → Sg → Prop) : Prop :=
  w_Md_isSheet x1 σ (fun u1 => ((¬ u1 = 0 → (vp_in x1 4 ∧ ((¬ (σ 44 x1.toNatClampNeg) = (-9 : Int32) → B_Md_lose_25 x1 K (1 : Int32) σ) ∧ ((σ 44 x1.toNatClampNeg) = (-9 : Int32) → B_Md_lose_25 x1 K (0 : Int32) σ)))) ∧ (u1 = 0 → K (-1 : Int32) σ)))
set_option maxHeartbeats 4000000 in
theorem m_Md_lose {Y : Yx} {x1 : Int32} {σ : Sg} {K : Int32 → Sg → Prop} (hY : YD Y)  (h : w_Md_lose x1 σ K) : MetI Y y_Md_lose prog_9_method_66_code 3 (.int) 2 45 [.ref (ya Y 43), .int x1] σ K := by
  refine met_I [(0, .ref (ya Y 43)), (1, .int x1)] hY (by decide) (Nat.le_of_ble_eq_true rfl) rfl (fun X C hr => ?_)
  unfold w_Md_lose at h
  refine q_iload_n (pc := 0) C d_Md_lose_0 rfl 1 rfl ?_
  refine q_callSIr (pc := 1) (st := []) C (m_Md_isSheet hY h) mi_Md_isSheet wd_837 rfl rfl (Nat.le_of_ble_eq_true rfl) (by decide) (by decide) d_Md_lose_1 (fun u1 h => ?_)
  obtain ⟨h5, h6⟩ := h
  refine q_if_ne (pc := 4) 9 C d_Md_lose_4 (by decide) (fun hc => ?_) (fun hc => ?_)
  · have h := h5 hc
    refine q_aload_n (pc := 9) C d_Md_lose_9 rfl 0 rfl ?_
    refine q_get (pc := 10) (c := 43) (ci := 7) (k := 2) (v := .ref (ya Y 44)) C rfl (by decide) (by decide) wd_735 rfl d_Md_lose_10 ?_
    refine q_iload_n (pc := 13) C d_Md_lose_13 rfl 1 rfl ?_
    obtain ⟨h1, h⟩ := h
    refine q_iald (pc := 14) (c := 44) C ⟨rfl, rfl⟩ h1 d_Md_lose_14 ?_
    refine q_bipush (pc := 15) (v := -9) C d_Md_lose_15 (by decide) ?_
    obtain ⟨h3, h4⟩ := h
    refine q_icmp_ne (pc := 17) 24 C d_Md_lose_17 (by decide) (fun hc => ?_) (fun hc => ?_)
    · have h := h3 hc
      refine q_iconst (pc := 24) (v := 1) C d_Md_lose_24 (by decide) ?_
      exact t_Md_lose_25 hY C hr h
    have h := h4 hc
    refine q_iconst (pc := 20) (v := 0) C d_Md_lose_20 (by decide) ?_
    refine q_goto (pc := 21) 25 C d_Md_lose_21 (by decide) ?_
    exact t_Md_lose_25 hY C hr h
  have h := h6 hc
  refine q_iconst (pc := 7) (v := -1) C d_Md_lose_7 (by decide) ?_
  exact q_iret (pc := 8) C hr d_Md_lose_8 h
theorem d_Md_put_0 : decode prog_9_method_67_code 0 = .ok (.aload_n 0, 1) := by decide +kernel
theorem d_Md_put_1 : decode prog_9_method_67_code 1 = .ok (.iconst 0, 1) := by decide +kernel
theorem d_Md_put_2 : decode prog_9_method_67_code 2 = .ok (.putfield 79, 3) := by decide +kernel
theorem d_Md_put_5 : decode prog_9_method_67_code 5 = .ok (.iload_n 1, 1) := by decide +kernel
theorem d_Md_put_6 : decode prog_9_method_67_code 6 = .ok (.invokestatic 121, 3) := by decide +kernel
theorem d_Md_put_9 : decode prog_9_method_67_code 9 = .ok (.ifCond .ne 5, 3) := by decide +kernel
theorem d_Md_put_12 : decode prog_9_method_67_code 12 = .ok (.iconst (-1), 1) := by decide +kernel
theorem d_Md_put_13 : decode prog_9_method_67_code 13 = .ok (.ireturn, 1) := by decide +kernel
theorem d_Md_put_14 : decode prog_9_method_67_code 14 = .ok (.aload_n 0, 1) := by decide +kernel
theorem d_Md_put_15 : decode prog_9_method_67_code 15 = .ok (.getfield 9, 3) := by decide +kernel
theorem d_Md_put_18 : decode prog_9_method_67_code 18 = .ok (.iload_n 1, 1) := by decide +kernel
theorem d_Md_put_19 : decode prog_9_method_67_code 19 = .ok (.iaload, 1) := by decide +kernel
theorem d_Md_put_20 : decode prog_9_method_67_code 20 = .ok (.bipush (-9), 2) := by decide +kernel
theorem d_Md_put_22 : decode prog_9_method_67_code 22 = .ok (.if_icmp .ne 9, 3) := by decide +kernel
theorem d_Md_put_25 : decode prog_9_method_67_code 25 = .ok (.aload_n 0, 1) := by decide +kernel
theorem d_Md_put_26 : decode prog_9_method_67_code 26 = .ok (.iconst 1, 1) := by decide +kernel
theorem d_Md_put_27 : decode prog_9_method_67_code 27 = .ok (.invokevirtual 131, 3) := by decide +kernel
theorem d_Md_put_30 : decode prog_9_method_67_code 30 = .ok (.ireturn, 1) := by decide +kernel
theorem d_Md_put_31 : decode prog_9_method_67_code 31 = .ok (.iload_n 2, 1) := by decide +kernel
theorem d_Md_put_32 : decode prog_9_method_67_code 32 = .ok (.i2l, 1) := by decide +kernel
theorem d_Md_put_33 : decode prog_9_method_67_code 33 = .ok (.lconst 0, 1) := by decide +kernel
theorem d_Md_put_34 : decode prog_9_method_67_code 34 = .ok (.aload_n 0, 1) := by decide +kernel
theorem d_Md_put_35 : decode prog_9_method_67_code 35 = .ok (.getfield 13, 3) := by decide +kernel
theorem d_Md_put_38 : decode prog_9_method_67_code 38 = .ok (.iload_n 1, 1) := by decide +kernel
theorem d_Md_put_39 : decode prog_9_method_67_code 39 = .ok (.iaload, 1) := by decide +kernel
theorem d_Md_put_40 : decode prog_9_method_67_code 40 = .ok (.iconst 1, 1) := by decide +kernel
theorem d_Md_put_41 : decode prog_9_method_67_code 41 = .ok (.isub, 1) := by decide +kernel
theorem d_Md_put_42 : decode prog_9_method_67_code 42 = .ok (.i2l, 1) := by decide +kernel
theorem d_Md_put_43 : decode prog_9_method_67_code 43 = .ok (.invokestatic 87, 3) := by decide +kernel
theorem d_Md_put_46 : decode prog_9_method_67_code 46 = .ok (.ifCond .ne 9, 3) := by decide +kernel
theorem d_Md_put_49 : decode prog_9_method_67_code 49 = .ok (.aload_n 0, 1) := by decide +kernel
theorem d_Md_put_50 : decode prog_9_method_67_code 50 = .ok (.iconst 3, 1) := by decide +kernel
theorem d_Md_put_51 : decode prog_9_method_67_code 51 = .ok (.invokevirtual 131, 3) := by decide +kernel
theorem d_Md_put_54 : decode prog_9_method_67_code 54 = .ok (.ireturn, 1) := by decide +kernel
theorem d_Md_put_55 : decode prog_9_method_67_code 55 = .ok (.aload_n 0, 1) := by decide +kernel
theorem d_Md_put_56 : decode prog_9_method_67_code 56 = .ok (.getfield 16, 3) := by decide +kernel
theorem d_Md_put_59 : decode prog_9_method_67_code 59 = .ok (.bipush 60, 2) := by decide +kernel
theorem d_Md_put_61 : decode prog_9_method_67_code 61 = .ok (.iload_n 1, 1) := by decide +kernel
theorem d_Md_put_62 : decode prog_9_method_67_code 62 = .ok (.imul, 1) := by decide +kernel
theorem d_Md_put_63 : decode prog_9_method_67_code 63 = .ok (.iload_n 2, 1) := by decide +kernel
theorem d_Md_put_64 : decode prog_9_method_67_code 64 = .ok (.iadd, 1) := by decide +kernel
theorem d_Md_put_65 : decode prog_9_method_67_code 65 = .ok (.aload_n 0, 1) := by decide +kernel
theorem d_Md_put_66 : decode prog_9_method_67_code 66 = .ok (.getfield 9, 3) := by decide +kernel
theorem d_Md_put_69 : decode prog_9_method_67_code 69 = .ok (.iload_n 1, 1) := by decide +kernel
theorem d_Md_put_70 : decode prog_9_method_67_code 70 = .ok (.iaload, 1) := by decide +kernel
theorem d_Md_put_71 : decode prog_9_method_67_code 71 = .ok (.ifCond .ne 8, 3) := by decide +kernel
theorem d_Md_put_74 : decode prog_9_method_67_code 74 = .ok (.iload_n 3, 1) := by decide +kernel
theorem d_Md_put_75 : decode prog_9_method_67_code 75 = .ok (.i2b, 1) := by decide +kernel
theorem d_Md_put_76 : decode prog_9_method_67_code 76 = .ok (.goto 19, 3) := by decide +kernel
theorem d_Md_put_79 : decode prog_9_method_67_code 79 = .ok (.aload_n 0, 1) := by decide +kernel
theorem d_Md_put_80 : decode prog_9_method_67_code 80 = .ok (.getfield 9, 3) := by decide +kernel
theorem d_Md_put_83 : decode prog_9_method_67_code 83 = .ok (.iload_n 1, 1) := by decide +kernel
theorem d_Md_put_84 : decode prog_9_method_67_code 84 = .ok (.iaload, 1) := by decide +kernel
theorem d_Md_put_85 : decode prog_9_method_67_code 85 = .ok (.iconst 1, 1) := by decide +kernel
theorem d_Md_put_86 : decode prog_9_method_67_code 86 = .ok (.if_icmp .ne 8, 3) := by decide +kernel
theorem d_Md_put_89 : decode prog_9_method_67_code 89 = .ok (.iload_n 3, 1) := by decide +kernel
theorem d_Md_put_90 : decode prog_9_method_67_code 90 = .ok (.i2s, 1) := by decide +kernel
theorem d_Md_put_91 : decode prog_9_method_67_code 91 = .ok (.goto 4, 3) := by decide +kernel
theorem d_Md_put_94 : decode prog_9_method_67_code 94 = .ok (.iload_n 3, 1) := by decide +kernel
theorem d_Md_put_95 : decode prog_9_method_67_code 95 = .ok (.iastore, 1) := by decide +kernel
theorem d_Md_put_96 : decode prog_9_method_67_code 96 = .ok (.iconst 1, 1) := by decide +kernel
theorem d_Md_put_97 : decode prog_9_method_67_code 97 = .ok (.ireturn, 1) := by decide +kernel
abbrev y_Md_put : MethodName := ⟨"LoadCyclesModel", "put", "(III)I"⟩
theorem mi_Md_put : miV y_Md_put prog_9_method_67_code 4 (some .int) 3 := ⟨wd_1097, wd_1098, wd_72, wd_1099, by decide, by decide, by decide +kernel⟩
def B_Md_put_95 (x1 : Int32) (x2 : Int32) (x3 : Int32) (K : Int32 → Sg → Prop) (vs0 : Int32) (vs1 : Int32) (σ : Sg) : Prop :=
  (vp_in vs1 240 ∧ (∀ τ95 : Sg, τ95 = s2 σ 46 vs1.toNatClampNeg vs0 → K (1 : Int32) τ95))
theorem t_Md_put_95 {X : Bx} {Y : Yx} {x1 : Int32} {x2 : Int32} {x3 : Int32} {vs0 : Int32} {vs1 : Int32} {K : Int32 → Sg → Prop}  (hY : YD Y) (C : Cx X Y prog_9_method_67_code 4 "LoadCyclesModel" 2 45) (hr : (xh X).sig.returnType = some .int)   {σ : Sg} (h : B_Md_put_95 x1 x2 x3 K vs0 vs1 σ) : St X Y 4 (QI X Y K) 95 [] [.int vs0, .int vs1, .ref (ya Y 46)] σ := by
  unfold B_Md_put_95 at h
  obtain ⟨h5, h⟩ := h
  refine q_iast (pc := 95) (c := 46) C ⟨rfl, rfl⟩ h5 d_Md_put_95 ?_
  refine q_nms (fun τ95 eτ95 => ?_)
  replace h := h τ95 eτ95
  refine q_iconst (pc := 96) (v := 1) C d_Md_put_96 (by decide) ?_
  exact q_iret (pc := 97) C hr d_Md_put_97 h
def w_Md_put (x1 : Int32) (x2 : Int32) (x3 : Int32) (σ : Sg) (K : Int32 → Sg → Prop) : Prop :=
  (∀ τ2 : Sg, τ2 = s2 σ 43 0 (0 : Int32) → w_Md_isSheet x1 τ2 (fun u6 => ((¬ u6 = 0 → (vp_in x1 4 ∧ ((¬ (τ2 44 x1.toNatClampNeg) = (-9 : Int32) → (vp_in x1 4 ∧ w_Md_within (x2.toInt64) (0 : Int64) (((τ2 45 x1.toNatClampNeg) - (1 : Int32)).toInt64) τ2 (fun u43 => ((¬ u43 = 0 → (vp_in x1 4 ∧ ((¬ (τ2 44 x1.toNatClampNeg) = 0 → (vp_in x1 4 ∧ ((¬ (τ2 44 x1.toNatClampNeg) = (1 : Int32) → B_Md_put_95 x1 x2 x3 K x3 (((60 : Int32) * x1) + x2) τ2) ∧ ((τ2 44 x1.toNatClampNeg) = (1 : Int32) → B_Md_put_95 x1 x2 x3 K (x3.toInt16.toInt32) (((60 : Int32) * x1) + x2) τ2)))) ∧ ((τ2 44 x1.toNatClampNeg) = 0 → B_Md_put_95 x1 x2 x3 K (x3.toInt8.toInt32) (((60 : Int32) * x1) + x2) τ2)))) ∧ (u43 = 0 → w_Md_fails (3 : Int32) τ2 (fun u51 τ51 => K u51 τ51)))))) ∧ ((τ2 44 x1.toNatClampNeg) = (-9 : Int32) → w_Md_fails (1 : Int32) τ2 (fun u27 τ27 => K u27 τ27))))) ∧ (u6 = 0 → K (-1 : Int32) τ2))))
set_option maxHeartbeats 4000000 in
theorem m_Md_put {Y : Yx} {x1 : Int32} {x2 : Int32} {x3 : Int32} {σ : Sg} {K : Int32 → Sg → Prop} (hY : YD Y)  (h : w_Md_put x1 x2 x3 σ K) : MetI Y y_Md_put prog_9_method_67_code 4 (.int) 2 45 [.ref (ya Y 43), .int x1, .int x2, .int x3] σ K := by
  refine met_I [(0, .ref (ya Y 43)), (1, .int x1), (2, .int x2), (3, .int x3)] hY (by decide) (Nat.le_of_ble_eq_true rfl) rfl (fun X C hr => ?_)
  unfold w_Md_put at h
  refine q_aload_n (pc := 0) C d_Md_put_0 rfl 0 rfl ?_
  refine q_iconst (pc := 1) (v := 0) C d_Md_put_1 (by decide) ?_
  refine q_put (pc := 2) (c := 43) (ci := 7) (k := 0) C rfl (by decide) (by decide) wd_733 rfl rfl rfl fs_7_0 d_Md_put_2 ?_
  refine q_nms (fun τ2 eτ2 => ?_)
  replace h := h τ2 eτ2
  refine q_iload_n (pc := 5) C d_Md_put_5 rfl 1 rfl ?_
  refine q_callSIr (pc := 6) (st := []) C (m_Md_isSheet hY h) mi_Md_isSheet wd_837 rfl rfl (Nat.le_of_ble_eq_true rfl) (by decide) (by decide) d_Md_put_6 (fun u6 h => ?_)
  obtain ⟨h14, h15⟩ := h
  refine q_if_ne (pc := 9) 14 C d_Md_put_9 (by decide) (fun hc => ?_) (fun hc => ?_)
  · have h := h14 hc
    refine q_aload_n (pc := 14) C d_Md_put_14 rfl 0 rfl ?_
    refine q_get (pc := 15) (c := 43) (ci := 7) (k := 2) (v := .ref (ya Y 44)) C rfl (by decide) (by decide) wd_735 rfl d_Md_put_15 ?_
    refine q_iload_n (pc := 18) C d_Md_put_18 rfl 1 rfl ?_
    obtain ⟨h1, h⟩ := h
    refine q_iald (pc := 19) (c := 44) C ⟨rfl, rfl⟩ h1 d_Md_put_19 ?_
    refine q_bipush (pc := 20) (v := -9) C d_Md_put_20 (by decide) ?_
    obtain ⟨h12, h13⟩ := h
    refine q_icmp_ne (pc := 22) 31 C d_Md_put_22 (by decide) (fun hc => ?_) (fun hc => ?_)
    · have h := h12 hc
      refine q_iload_n (pc := 31) C d_Md_put_31 rfl 2 rfl ?_
      refine q_i2l (pc := 32) C d_Md_put_32 ?_
      refine q_lconst (pc := 33) (v := 0) C d_Md_put_33 (by decide) ?_
      refine q_aload_n (pc := 34) C d_Md_put_34 rfl 0 rfl ?_
      refine q_get (pc := 35) (c := 43) (ci := 7) (k := 3) (v := .ref (ya Y 45)) C rfl (by decide) (by decide) wd_736 rfl d_Md_put_35 ?_
      refine q_iload_n (pc := 38) C d_Md_put_38 rfl 1 rfl ?_
      obtain ⟨h2, h⟩ := h
      refine q_iald (pc := 39) (c := 45) C ⟨rfl, rfl⟩ h2 d_Md_put_39 ?_
      refine q_iconst (pc := 40) (v := 1) C d_Md_put_40 (by decide) ?_
      refine q_isub (pc := 41) C d_Md_put_41 ?_
      refine q_i2l (pc := 42) C d_Md_put_42 ?_
      refine q_callSIr (pc := 43) (st := []) C (m_Md_within hY h) mi_Md_within wd_841 rfl rfl (Nat.le_of_ble_eq_true rfl) (by decide) (by decide) d_Md_put_43 (fun u43 h => ?_)
      obtain ⟨h10, h11⟩ := h
      refine q_if_ne (pc := 46) 55 C d_Md_put_46 (by decide) (fun hc => ?_) (fun hc => ?_)
      · have h := h10 hc
        refine q_aload_n (pc := 55) C d_Md_put_55 rfl 0 rfl ?_
        refine q_get (pc := 56) (c := 43) (ci := 7) (k := 4) (v := .ref (ya Y 46)) C rfl (by decide) (by decide) wd_737 rfl d_Md_put_56 ?_
        refine q_bipush (pc := 59) (v := 60) C d_Md_put_59 (by decide) ?_
        refine q_iload_n (pc := 61) C d_Md_put_61 rfl 1 rfl ?_
        refine q_imul (pc := 62) C d_Md_put_62 ?_
        refine q_iload_n (pc := 63) C d_Md_put_63 rfl 2 rfl ?_
        refine q_iadd (pc := 64) C d_Md_put_64 ?_
        refine q_aload_n (pc := 65) C d_Md_put_65 rfl 0 rfl ?_
        refine q_get (pc := 66) (c := 43) (ci := 7) (k := 2) (v := .ref (ya Y 44)) C rfl (by decide) (by decide) wd_735 rfl d_Md_put_66 ?_
        refine q_iload_n (pc := 69) C d_Md_put_69 rfl 1 rfl ?_
        obtain ⟨h3, h⟩ := h
        refine q_iald (pc := 70) (c := 44) C ⟨rfl, rfl⟩ h3 d_Md_put_70 ?_
        obtain ⟨h8, h9⟩ := h
        refine q_if_ne (pc := 71) 79 C d_Md_put_71 (by decide) (fun hc => ?_) (fun hc => ?_)
        · have h := h8 hc
          refine q_aload_n (pc := 79) C d_Md_put_79 rfl 0 rfl ?_
          refine q_get (pc := 80) (c := 43) (ci := 7) (k := 2) (v := .ref (ya Y 44)) C rfl (by decide) (by decide) wd_735 rfl d_Md_put_80 ?_
          refine q_iload_n (pc := 83) C d_Md_put_83 rfl 1 rfl ?_
          obtain ⟨h4, h⟩ := h
          refine q_iald (pc := 84) (c := 44) C ⟨rfl, rfl⟩ h4 d_Md_put_84 ?_
          refine q_iconst (pc := 85) (v := 1) C d_Md_put_85 (by decide) ?_
          obtain ⟨h6, h7⟩ := h
          refine q_icmp_ne (pc := 86) 94 C d_Md_put_86 (by decide) (fun hc => ?_) (fun hc => ?_)
          · have h := h6 hc
            refine q_iload_n (pc := 94) C d_Md_put_94 rfl 3 rfl ?_
            refine q_sub [] [] rfl ?_
            exact t_Md_put_95 hY C hr h
          have h := h7 hc
          refine q_iload_n (pc := 89) C d_Md_put_89 rfl 3 rfl ?_
          refine q_i2s (pc := 90) C d_Md_put_90 ?_
          refine q_goto (pc := 91) 95 C d_Md_put_91 (by decide) ?_
          refine q_sub [] [] rfl ?_
          exact t_Md_put_95 hY C hr h
        have h := h9 hc
        refine q_iload_n (pc := 74) C d_Md_put_74 rfl 3 rfl ?_
        refine q_i2b (pc := 75) C d_Md_put_75 ?_
        refine q_goto (pc := 76) 95 C d_Md_put_76 (by decide) ?_
        refine q_sub [] [] rfl ?_
        exact t_Md_put_95 hY C hr h
      have h := h11 hc
      refine q_aload_n (pc := 49) C d_Md_put_49 rfl 0 rfl ?_
      refine q_iconst (pc := 50) (v := 3) C d_Md_put_50 (by decide) ?_
      refine q_callVI (pc := 51) (st := []) (d := 43) C (m_Md_fails hY h) mi_Md_fails rfl (by decide) rfl wd_852 rfl rfl (Nat.le_of_ble_eq_true rfl) (by decide) (by decide) d_Md_put_51 (fun u51 τ51 h => ?_)
      exact q_iret (pc := 54) C hr d_Md_put_54 h
    have h := h13 hc
    refine q_aload_n (pc := 25) C d_Md_put_25 rfl 0 rfl ?_
    refine q_iconst (pc := 26) (v := 1) C d_Md_put_26 (by decide) ?_
    refine q_callVI (pc := 27) (st := []) (d := 43) C (m_Md_fails hY h) mi_Md_fails rfl (by decide) rfl wd_852 rfl rfl (Nat.le_of_ble_eq_true rfl) (by decide) (by decide) d_Md_put_27 (fun u27 τ27 h => ?_)
    exact q_iret (pc := 30) C hr d_Md_put_30 h
  have h := h15 hc
  refine q_iconst (pc := 12) (v := -1) C d_Md_put_12 (by decide) ?_
  exact q_iret (pc := 13) C hr d_Md_put_13 h
theorem d_Md_lost_0 : decode prog_9_method_3_code 0 = .ok (.aload_n 0, 1) := by decide +kernel
theorem d_Md_lost_1 : decode prog_9_method_3_code 1 = .ok (.iload_n 1, 1) := by decide +kernel
theorem d_Md_lost_2 : decode prog_9_method_3_code 2 = .ok (.putfield 79, 3) := by decide +kernel
theorem d_Md_lost_5 : decode prog_9_method_3_code 5 = .ok (.ldc2_w 83, 3) := by decide +kernel
theorem d_Md_lost_8 : decode prog_9_method_3_code 8 = .ok (.lreturn, 1) := by decide +kernel
abbrev y_Md_lost : MethodName := ⟨"LoadCyclesModel", "lost", "(I)J"⟩
theorem mi_Md_lost : miV y_Md_lost prog_9_method_3_code 2 (some .long) 1 := ⟨wd_1106, wd_62, wd_72, wd_1107, by decide, by decide, by decide +kernel⟩
def w_Md_lost (x1 : Int32) (σ : Sg) (K : Int64 → Sg → Prop) : Prop :=
  (∀ τ2 : Sg, τ2 = s2 σ 43 0 x1 → K (-9223372036854775808 : Int64) τ2)
set_option maxHeartbeats 4000000 in
theorem m_Md_lost {Y : Yx} {x1 : Int32} {σ : Sg} {K : Int64 → Sg → Prop} (hY : YD Y)  (h : w_Md_lost x1 σ K) : MetL Y y_Md_lost prog_9_method_3_code 2 0 0 [.ref (ya Y 43), .int x1] σ K := by
  refine met_L [(0, .ref (ya Y 43)), (1, .int x1)] hY (by decide) (Nat.le_of_ble_eq_true rfl) rfl (fun X C hr => ?_)
  unfold w_Md_lost at h
  refine q_aload_n (pc := 0) C d_Md_lost_0 rfl 0 rfl ?_
  refine q_iload_n (pc := 1) C d_Md_lost_1 rfl 1 rfl ?_
  refine q_put (pc := 2) (c := 43) (ci := 7) (k := 0) C rfl (by decide) (by decide) wd_733 rfl rfl rfl fs_7_0 d_Md_lost_2 ?_
  refine q_nms (fun τ2 eτ2 => ?_)
  replace h := h τ2 eτ2
  refine q_ldc2 (pc := 5) C wd_1059 d_Md_lost_5 ?_
  exact q_lret (pc := 8) C hr d_Md_lost_8 h
theorem d_Md_cell_0 : decode prog_9_method_68_code 0 = .ok (.aload_n 0, 1) := by decide +kernel
theorem d_Md_cell_1 : decode prog_9_method_68_code 1 = .ok (.iconst 0, 1) := by decide +kernel
theorem d_Md_cell_2 : decode prog_9_method_68_code 2 = .ok (.putfield 79, 3) := by decide +kernel
theorem d_Md_cell_5 : decode prog_9_method_68_code 5 = .ok (.iload_n 1, 1) := by decide +kernel
theorem d_Md_cell_6 : decode prog_9_method_68_code 6 = .ok (.invokestatic 121, 3) := by decide +kernel
theorem d_Md_cell_9 : decode prog_9_method_68_code 9 = .ok (.ifCond .eq 10, 3) := by decide +kernel
theorem d_Md_cell_12 : decode prog_9_method_68_code 12 = .ok (.iload_n 3, 1) := by decide +kernel
theorem d_Md_cell_13 : decode prog_9_method_68_code 13 = .ok (.invokestatic 124, 3) := by decide +kernel
theorem d_Md_cell_16 : decode prog_9_method_68_code 16 = .ok (.ifCond .ne 7, 3) := by decide +kernel
theorem d_Md_cell_19 : decode prog_9_method_68_code 19 = .ok (.ldc2_w 83, 3) := by decide +kernel
theorem d_Md_cell_22 : decode prog_9_method_68_code 22 = .ok (.lreturn, 1) := by decide +kernel
theorem d_Md_cell_23 : decode prog_9_method_68_code 23 = .ok (.aload_n 0, 1) := by decide +kernel
theorem d_Md_cell_24 : decode prog_9_method_68_code 24 = .ok (.getfield 9, 3) := by decide +kernel
theorem d_Md_cell_27 : decode prog_9_method_68_code 27 = .ok (.iload_n 1, 1) := by decide +kernel
theorem d_Md_cell_28 : decode prog_9_method_68_code 28 = .ok (.iaload, 1) := by decide +kernel
theorem d_Md_cell_29 : decode prog_9_method_68_code 29 = .ok (.bipush (-9), 2) := by decide +kernel
theorem d_Md_cell_31 : decode prog_9_method_68_code 31 = .ok (.if_icmp .eq 19, 3) := by decide +kernel
theorem d_Md_cell_34 : decode prog_9_method_68_code 34 = .ok (.aload_n 0, 1) := by decide +kernel
theorem d_Md_cell_35 : decode prog_9_method_68_code 35 = .ok (.getfield 9, 3) := by decide +kernel
theorem d_Md_cell_38 : decode prog_9_method_68_code 38 = .ok (.iload_n 1, 1) := by decide +kernel
theorem d_Md_cell_39 : decode prog_9_method_68_code 39 = .ok (.iaload, 1) := by decide +kernel
theorem d_Md_cell_40 : decode prog_9_method_68_code 40 = .ok (.iload_n 3, 1) := by decide +kernel
theorem d_Md_cell_41 : decode prog_9_method_68_code 41 = .ok (.if_icmp .eq 9, 3) := by decide +kernel
theorem d_Md_cell_44 : decode prog_9_method_68_code 44 = .ok (.aload_n 0, 1) := by decide +kernel
theorem d_Md_cell_45 : decode prog_9_method_68_code 45 = .ok (.iconst 2, 1) := by decide +kernel
theorem d_Md_cell_46 : decode prog_9_method_68_code 46 = .ok (.invokevirtual 277, 3) := by decide +kernel
theorem d_Md_cell_49 : decode prog_9_method_68_code 49 = .ok (.lreturn, 1) := by decide +kernel
theorem d_Md_cell_50 : decode prog_9_method_68_code 50 = .ok (.aload_n 0, 1) := by decide +kernel
theorem d_Md_cell_51 : decode prog_9_method_68_code 51 = .ok (.getfield 9, 3) := by decide +kernel
theorem d_Md_cell_54 : decode prog_9_method_68_code 54 = .ok (.iload_n 1, 1) := by decide +kernel
theorem d_Md_cell_55 : decode prog_9_method_68_code 55 = .ok (.iaload, 1) := by decide +kernel
theorem d_Md_cell_56 : decode prog_9_method_68_code 56 = .ok (.bipush (-9), 2) := by decide +kernel
theorem d_Md_cell_58 : decode prog_9_method_68_code 58 = .ok (.if_icmp .ne 9, 3) := by decide +kernel
theorem d_Md_cell_61 : decode prog_9_method_68_code 61 = .ok (.aload_n 0, 1) := by decide +kernel
theorem d_Md_cell_62 : decode prog_9_method_68_code 62 = .ok (.iconst 1, 1) := by decide +kernel
theorem d_Md_cell_63 : decode prog_9_method_68_code 63 = .ok (.invokevirtual 277, 3) := by decide +kernel
theorem d_Md_cell_66 : decode prog_9_method_68_code 66 = .ok (.lreturn, 1) := by decide +kernel
theorem d_Md_cell_67 : decode prog_9_method_68_code 67 = .ok (.iload_n 2, 1) := by decide +kernel
theorem d_Md_cell_68 : decode prog_9_method_68_code 68 = .ok (.i2l, 1) := by decide +kernel
theorem d_Md_cell_69 : decode prog_9_method_68_code 69 = .ok (.lconst 0, 1) := by decide +kernel
theorem d_Md_cell_70 : decode prog_9_method_68_code 70 = .ok (.aload_n 0, 1) := by decide +kernel
theorem d_Md_cell_71 : decode prog_9_method_68_code 71 = .ok (.getfield 13, 3) := by decide +kernel
theorem d_Md_cell_74 : decode prog_9_method_68_code 74 = .ok (.iload_n 1, 1) := by decide +kernel
theorem d_Md_cell_75 : decode prog_9_method_68_code 75 = .ok (.iaload, 1) := by decide +kernel
theorem d_Md_cell_76 : decode prog_9_method_68_code 76 = .ok (.iconst 1, 1) := by decide +kernel
theorem d_Md_cell_77 : decode prog_9_method_68_code 77 = .ok (.isub, 1) := by decide +kernel
theorem d_Md_cell_78 : decode prog_9_method_68_code 78 = .ok (.i2l, 1) := by decide +kernel
theorem d_Md_cell_79 : decode prog_9_method_68_code 79 = .ok (.invokestatic 87, 3) := by decide +kernel
theorem d_Md_cell_82 : decode prog_9_method_68_code 82 = .ok (.ifCond .ne 9, 3) := by decide +kernel
theorem d_Md_cell_85 : decode prog_9_method_68_code 85 = .ok (.aload_n 0, 1) := by decide +kernel
theorem d_Md_cell_86 : decode prog_9_method_68_code 86 = .ok (.iconst 3, 1) := by decide +kernel
theorem d_Md_cell_87 : decode prog_9_method_68_code 87 = .ok (.invokevirtual 277, 3) := by decide +kernel
theorem d_Md_cell_90 : decode prog_9_method_68_code 90 = .ok (.lreturn, 1) := by decide +kernel
theorem d_Md_cell_91 : decode prog_9_method_68_code 91 = .ok (.aload_n 0, 1) := by decide +kernel
theorem d_Md_cell_92 : decode prog_9_method_68_code 92 = .ok (.getfield 16, 3) := by decide +kernel
theorem d_Md_cell_95 : decode prog_9_method_68_code 95 = .ok (.bipush 60, 2) := by decide +kernel
theorem d_Md_cell_97 : decode prog_9_method_68_code 97 = .ok (.iload_n 1, 1) := by decide +kernel
theorem d_Md_cell_98 : decode prog_9_method_68_code 98 = .ok (.imul, 1) := by decide +kernel
theorem d_Md_cell_99 : decode prog_9_method_68_code 99 = .ok (.iload_n 2, 1) := by decide +kernel
theorem d_Md_cell_100 : decode prog_9_method_68_code 100 = .ok (.iadd, 1) := by decide +kernel
theorem d_Md_cell_101 : decode prog_9_method_68_code 101 = .ok (.iaload, 1) := by decide +kernel
theorem d_Md_cell_102 : decode prog_9_method_68_code 102 = .ok (.i2l, 1) := by decide +kernel
theorem d_Md_cell_103 : decode prog_9_method_68_code 103 = .ok (.lreturn, 1) := by decide +kernel
abbrev y_Md_cell : MethodName := ⟨"LoadCyclesModel", "cell", "(III)J"⟩
theorem mi_Md_cell : miV y_Md_cell prog_9_method_68_code 4 (some .long) 3 := ⟨wd_1101, wd_1102, wd_72, wd_1103, by decide, by decide, by decide +kernel⟩
def B_Md_cell_50 (x1 : Int32) (x2 : Int32) (x3 : Int32) (K : Int64 → Sg → Prop)  (σ : Sg) : Prop :=
  (vp_in x1 4 ∧ ((¬ (σ 44 x1.toNatClampNeg) = (-9 : Int32) → (vp_in x1 4 ∧ w_Md_within (x2.toInt64) (0 : Int64) (((σ 45 x1.toNatClampNeg) - (1 : Int32)).toInt64) σ (fun u79 => ((¬ u79 = 0 → (vp_in (((60 : Int32) * x1) + x2) 240 ∧ K ((σ 46 (((60 : Int32) * x1) + x2).toNatClampNeg).toInt64) σ)) ∧ (u79 = 0 → w_Md_lost (3 : Int32) σ (fun u87 τ87 => K u87 τ87)))))) ∧ ((σ 44 x1.toNatClampNeg) = (-9 : Int32) → w_Md_lost (1 : Int32) σ (fun u63 τ63 => K u63 τ63))))
theorem t_Md_cell_50 {X : Bx} {Y : Yx} {x1 : Int32} {x2 : Int32} {x3 : Int32} {K : Int64 → Sg → Prop}  (hY : YD Y) (C : Cx X Y prog_9_method_68_code 4 "LoadCyclesModel" 2 45) (hr : (xh X).sig.returnType = some .long)   {σ : Sg} (h : B_Md_cell_50 x1 x2 x3 K σ) : St X Y 4 (QL X Y K) 50 [(0, .ref (ya Y 43)), (1, .int x1), (2, .int x2)] [] σ := by
  unfold B_Md_cell_50 at h
  refine q_aload_n (pc := 50) C d_Md_cell_50 rfl 0 rfl ?_
  refine q_get (pc := 51) (c := 43) (ci := 7) (k := 2) (v := .ref (ya Y 44)) C rfl (by decide) (by decide) wd_735 rfl d_Md_cell_51 ?_
  refine q_iload_n (pc := 54) C d_Md_cell_54 rfl 1 rfl ?_
  obtain ⟨h2, h⟩ := h
  refine q_iald (pc := 55) (c := 44) C ⟨rfl, rfl⟩ h2 d_Md_cell_55 ?_
  refine q_bipush (pc := 56) (v := -9) C d_Md_cell_56 (by decide) ?_
  obtain ⟨h7, h8⟩ := h
  refine q_icmp_ne (pc := 58) 67 C d_Md_cell_58 (by decide) (fun hc => ?_) (fun hc => ?_)
  · have h := h7 hc
    refine q_iload_n (pc := 67) C d_Md_cell_67 rfl 2 rfl ?_
    refine q_i2l (pc := 68) C d_Md_cell_68 ?_
    refine q_lconst (pc := 69) (v := 0) C d_Md_cell_69 (by decide) ?_
    refine q_aload_n (pc := 70) C d_Md_cell_70 rfl 0 rfl ?_
    refine q_get (pc := 71) (c := 43) (ci := 7) (k := 3) (v := .ref (ya Y 45)) C rfl (by decide) (by decide) wd_736 rfl d_Md_cell_71 ?_
    refine q_iload_n (pc := 74) C d_Md_cell_74 rfl 1 rfl ?_
    obtain ⟨h3, h⟩ := h
    refine q_iald (pc := 75) (c := 45) C ⟨rfl, rfl⟩ h3 d_Md_cell_75 ?_
    refine q_iconst (pc := 76) (v := 1) C d_Md_cell_76 (by decide) ?_
    refine q_isub (pc := 77) C d_Md_cell_77 ?_
    refine q_i2l (pc := 78) C d_Md_cell_78 ?_
    refine q_callSIr (pc := 79) (st := []) C (m_Md_within hY h) mi_Md_within wd_841 rfl rfl (Nat.le_of_ble_eq_true rfl) (by decide) (by decide) d_Md_cell_79 (fun u79 h => ?_)
    obtain ⟨h5, h6⟩ := h
    refine q_if_ne (pc := 82) 91 C d_Md_cell_82 (by decide) (fun hc => ?_) (fun hc => ?_)
    · have h := h5 hc
      refine q_aload_n (pc := 91) C d_Md_cell_91 rfl 0 rfl ?_
      refine q_get (pc := 92) (c := 43) (ci := 7) (k := 4) (v := .ref (ya Y 46)) C rfl (by decide) (by decide) wd_737 rfl d_Md_cell_92 ?_
      refine q_bipush (pc := 95) (v := 60) C d_Md_cell_95 (by decide) ?_
      refine q_iload_n (pc := 97) C d_Md_cell_97 rfl 1 rfl ?_
      refine q_imul (pc := 98) C d_Md_cell_98 ?_
      refine q_iload_n (pc := 99) C d_Md_cell_99 rfl 2 rfl ?_
      refine q_iadd (pc := 100) C d_Md_cell_100 ?_
      obtain ⟨h4, h⟩ := h
      refine q_iald (pc := 101) (c := 46) C ⟨rfl, rfl⟩ h4 d_Md_cell_101 ?_
      refine q_i2l (pc := 102) C d_Md_cell_102 ?_
      exact q_lret (pc := 103) C hr d_Md_cell_103 h
    have h := h6 hc
    refine q_aload_n (pc := 85) C d_Md_cell_85 rfl 0 rfl ?_
    refine q_iconst (pc := 86) (v := 3) C d_Md_cell_86 (by decide) ?_
    refine q_callVL (pc := 87) (st := []) (d := 43) C (m_Md_lost hY h) mi_Md_lost rfl (by decide) rfl wd_1104 rfl rfl (Nat.le_of_ble_eq_true rfl) (by decide) (by decide) d_Md_cell_87 (fun u87 τ87 h => ?_)
    exact q_lret (pc := 90) C hr d_Md_cell_90 h
  have h := h8 hc
  refine q_aload_n (pc := 61) C d_Md_cell_61 rfl 0 rfl ?_
  refine q_iconst (pc := 62) (v := 1) C d_Md_cell_62 (by decide) ?_
  refine q_callVL (pc := 63) (st := []) (d := 43) C (m_Md_lost hY h) mi_Md_lost rfl (by decide) rfl wd_1104 rfl rfl (Nat.le_of_ble_eq_true rfl) (by decide) (by decide) d_Md_cell_63 (fun u63 τ63 h => ?_)
  exact q_lret (pc := 66) C hr d_Md_cell_66 h
def w_Md_cell (x1 : Int32) (x2 : Int32) (x3 : Int32) (σ : Sg) (K : Int64 → Sg → Prop) : Prop :=
  (∀ τ2 : Sg, τ2 = s2 σ 43 0 (0 : Int32) → w_Md_isSheet x1 τ2 (fun u6 => ((u6 = 0 → K (-9223372036854775808 : Int64) τ2) ∧ (¬ u6 = 0 → w_Md_isSort x3 τ2 (fun u13 => ((¬ u13 = 0 → (vp_in x1 4 ∧ (((τ2 44 x1.toNatClampNeg) = (-9 : Int32) → B_Md_cell_50 x1 x2 x3 K τ2) ∧ (¬ (τ2 44 x1.toNatClampNeg) = (-9 : Int32) → (vp_in x1 4 ∧ (((τ2 44 x1.toNatClampNeg) = x3 → B_Md_cell_50 x1 x2 x3 K τ2) ∧ (¬ (τ2 44 x1.toNatClampNeg) = x3 → w_Md_lost (2 : Int32) τ2 (fun u46 τ46 => K u46 τ46)))))))) ∧ (u13 = 0 → K (-9223372036854775808 : Int64) τ2)))))))
set_option maxHeartbeats 4000000 in
theorem m_Md_cell {Y : Yx} {x1 : Int32} {x2 : Int32} {x3 : Int32} {σ : Sg} {K : Int64 → Sg → Prop} (hY : YD Y)  (h : w_Md_cell x1 x2 x3 σ K) : MetL Y y_Md_cell prog_9_method_68_code 4 2 45 [.ref (ya Y 43), .int x1, .int x2, .int x3] σ K := by
  refine met_L [(0, .ref (ya Y 43)), (1, .int x1), (2, .int x2), (3, .int x3)] hY (by decide) (Nat.le_of_ble_eq_true rfl) rfl (fun X C hr => ?_)
  unfold w_Md_cell at h
  refine q_aload_n (pc := 0) C d_Md_cell_0 rfl 0 rfl ?_
  refine q_iconst (pc := 1) (v := 0) C d_Md_cell_1 (by decide) ?_
  refine q_put (pc := 2) (c := 43) (ci := 7) (k := 0) C rfl (by decide) (by decide) wd_733 rfl rfl rfl fs_7_0 d_Md_cell_2 ?_
  refine q_nms (fun τ2 eτ2 => ?_)
  replace h := h τ2 eτ2
  refine q_iload_n (pc := 5) C d_Md_cell_5 rfl 1 rfl ?_
  refine q_callSIr (pc := 6) (st := []) C (m_Md_isSheet hY h) mi_Md_isSheet wd_837 rfl rfl (Nat.le_of_ble_eq_true rfl) (by decide) (by decide) d_Md_cell_6 (fun u6 h => ?_)
  obtain ⟨h16, h17⟩ := h
  refine q_if_eq (pc := 9) 19 C d_Md_cell_9 (by decide) (fun hc => ?_) (fun hc => ?_)
  · have h := h16 hc
    refine q_ldc2 (pc := 19) C wd_1059 d_Md_cell_19 ?_
    exact q_lret (pc := 22) C hr d_Md_cell_22 h
  have h := h17 hc
  refine q_iload_n (pc := 12) C d_Md_cell_12 rfl 3 rfl ?_
  refine q_callSIr (pc := 13) (st := []) C (m_Md_isSort hY h) mi_Md_isSort wd_844 rfl rfl (Nat.le_of_ble_eq_true rfl) (by decide) (by decide) d_Md_cell_13 (fun u13 h => ?_)
  obtain ⟨h14, h15⟩ := h
  refine q_if_ne (pc := 16) 23 C d_Md_cell_16 (by decide) (fun hc => ?_) (fun hc => ?_)
  · have h := h14 hc
    refine q_aload_n (pc := 23) C d_Md_cell_23 rfl 0 rfl ?_
    refine q_get (pc := 24) (c := 43) (ci := 7) (k := 2) (v := .ref (ya Y 44)) C rfl (by decide) (by decide) wd_735 rfl d_Md_cell_24 ?_
    refine q_iload_n (pc := 27) C d_Md_cell_27 rfl 1 rfl ?_
    obtain ⟨h1, h⟩ := h
    refine q_iald (pc := 28) (c := 44) C ⟨rfl, rfl⟩ h1 d_Md_cell_28 ?_
    refine q_bipush (pc := 29) (v := -9) C d_Md_cell_29 (by decide) ?_
    obtain ⟨h12, h13⟩ := h
    refine q_icmp_eq (pc := 31) 50 C d_Md_cell_31 (by decide) (fun hc => ?_) (fun hc => ?_)
    · have h := h12 hc
      refine q_sub [(0, .ref (ya Y 43)), (1, .int x1), (2, .int x2)] [0, 1, 2] rfl ?_
      exact t_Md_cell_50 hY C hr h
    have h := h13 hc
    refine q_aload_n (pc := 34) C d_Md_cell_34 rfl 0 rfl ?_
    refine q_get (pc := 35) (c := 43) (ci := 7) (k := 2) (v := .ref (ya Y 44)) C rfl (by decide) (by decide) wd_735 rfl d_Md_cell_35 ?_
    refine q_iload_n (pc := 38) C d_Md_cell_38 rfl 1 rfl ?_
    obtain ⟨h9, h⟩ := h
    refine q_iald (pc := 39) (c := 44) C ⟨rfl, rfl⟩ h9 d_Md_cell_39 ?_
    refine q_iload_n (pc := 40) C d_Md_cell_40 rfl 3 rfl ?_
    obtain ⟨h10, h11⟩ := h
    refine q_icmp_eq (pc := 41) 50 C d_Md_cell_41 (by decide) (fun hc => ?_) (fun hc => ?_)
    · have h := h10 hc
      refine q_sub [(0, .ref (ya Y 43)), (1, .int x1), (2, .int x2)] [0, 1, 2] rfl ?_
      exact t_Md_cell_50 hY C hr h
    have h := h11 hc
    refine q_aload_n (pc := 44) C d_Md_cell_44 rfl 0 rfl ?_
    refine q_iconst (pc := 45) (v := 2) C d_Md_cell_45 (by decide) ?_
    refine q_callVL (pc := 46) (st := []) (d := 43) C (m_Md_lost hY h) mi_Md_lost rfl (by decide) rfl wd_1104 rfl rfl (Nat.le_of_ble_eq_true rfl) (by decide) (by decide) d_Md_cell_46 (fun u46 τ46 h => ?_)
    exact q_lret (pc := 49) C hr d_Md_cell_49 h
  have h := h15 hc
  refine q_ldc2 (pc := 19) C wd_1059 d_Md_cell_19 ?_
  exact q_lret (pc := 22) C hr d_Md_cell_22 h
theorem d_Md_copy_0 : decode prog_9_method_69_code 0 = .ok (.aload_n 0, 1) := by decide +kernel
theorem d_Md_copy_1 : decode prog_9_method_69_code 1 = .ok (.iconst 0, 1) := by decide +kernel
theorem d_Md_copy_2 : decode prog_9_method_69_code 2 = .ok (.putfield 79, 3) := by decide +kernel
theorem d_Md_copy_5 : decode prog_9_method_69_code 5 = .ok (.iload_n 1, 1) := by decide +kernel
theorem d_Md_copy_6 : decode prog_9_method_69_code 6 = .ok (.invokestatic 121, 3) := by decide +kernel
theorem d_Md_copy_9 : decode prog_9_method_69_code 9 = .ok (.ifCond .eq 10, 3) := by decide +kernel
theorem d_Md_copy_12 : decode prog_9_method_69_code 12 = .ok (.iload_n 3, 1) := by decide +kernel
theorem d_Md_copy_13 : decode prog_9_method_69_code 13 = .ok (.invokestatic 121, 3) := by decide +kernel
theorem d_Md_copy_16 : decode prog_9_method_69_code 16 = .ok (.ifCond .ne 5, 3) := by decide +kernel
theorem d_Md_copy_19 : decode prog_9_method_69_code 19 = .ok (.iconst (-1), 1) := by decide +kernel
theorem d_Md_copy_20 : decode prog_9_method_69_code 20 = .ok (.ireturn, 1) := by decide +kernel
theorem d_Md_copy_21 : decode prog_9_method_69_code 21 = .ok (.aload_n 0, 1) := by decide +kernel
theorem d_Md_copy_22 : decode prog_9_method_69_code 22 = .ok (.getfield 9, 3) := by decide +kernel
theorem d_Md_copy_25 : decode prog_9_method_69_code 25 = .ok (.iload_n 1, 1) := by decide +kernel
theorem d_Md_copy_26 : decode prog_9_method_69_code 26 = .ok (.iaload, 1) := by decide +kernel
theorem d_Md_copy_27 : decode prog_9_method_69_code 27 = .ok (.bipush (-9), 2) := by decide +kernel
theorem d_Md_copy_29 : decode prog_9_method_69_code 29 = .ok (.if_icmp .eq 14, 3) := by decide +kernel
theorem d_Md_copy_32 : decode prog_9_method_69_code 32 = .ok (.aload_n 0, 1) := by decide +kernel
theorem d_Md_copy_33 : decode prog_9_method_69_code 33 = .ok (.getfield 9, 3) := by decide +kernel
theorem d_Md_copy_36 : decode prog_9_method_69_code 36 = .ok (.iload_n 3, 1) := by decide +kernel
theorem d_Md_copy_37 : decode prog_9_method_69_code 37 = .ok (.iaload, 1) := by decide +kernel
theorem d_Md_copy_38 : decode prog_9_method_69_code 38 = .ok (.bipush (-9), 2) := by decide +kernel
theorem d_Md_copy_40 : decode prog_9_method_69_code 40 = .ok (.if_icmp .ne 9, 3) := by decide +kernel
theorem d_Md_copy_43 : decode prog_9_method_69_code 43 = .ok (.aload_n 0, 1) := by decide +kernel
theorem d_Md_copy_44 : decode prog_9_method_69_code 44 = .ok (.iconst 1, 1) := by decide +kernel
theorem d_Md_copy_45 : decode prog_9_method_69_code 45 = .ok (.invokevirtual 131, 3) := by decide +kernel
theorem d_Md_copy_48 : decode prog_9_method_69_code 48 = .ok (.ireturn, 1) := by decide +kernel
theorem d_Md_copy_49 : decode prog_9_method_69_code 49 = .ok (.aload_n 0, 1) := by decide +kernel
theorem d_Md_copy_50 : decode prog_9_method_69_code 50 = .ok (.getfield 9, 3) := by decide +kernel
theorem d_Md_copy_53 : decode prog_9_method_69_code 53 = .ok (.iload_n 1, 1) := by decide +kernel
theorem d_Md_copy_54 : decode prog_9_method_69_code 54 = .ok (.iaload, 1) := by decide +kernel
theorem d_Md_copy_55 : decode prog_9_method_69_code 55 = .ok (.aload_n 0, 1) := by decide +kernel
theorem d_Md_copy_56 : decode prog_9_method_69_code 56 = .ok (.getfield 9, 3) := by decide +kernel
theorem d_Md_copy_59 : decode prog_9_method_69_code 59 = .ok (.iload_n 3, 1) := by decide +kernel
theorem d_Md_copy_60 : decode prog_9_method_69_code 60 = .ok (.iaload, 1) := by decide +kernel
theorem d_Md_copy_61 : decode prog_9_method_69_code 61 = .ok (.if_icmp .eq 9, 3) := by decide +kernel
theorem d_Md_copy_64 : decode prog_9_method_69_code 64 = .ok (.aload_n 0, 1) := by decide +kernel
theorem d_Md_copy_65 : decode prog_9_method_69_code 65 = .ok (.iconst 2, 1) := by decide +kernel
theorem d_Md_copy_66 : decode prog_9_method_69_code 66 = .ok (.invokevirtual 131, 3) := by decide +kernel
theorem d_Md_copy_69 : decode prog_9_method_69_code 69 = .ok (.ireturn, 1) := by decide +kernel
theorem d_Md_copy_70 : decode prog_9_method_69_code 70 = .ok (.iload_n 2, 1) := by decide +kernel
theorem d_Md_copy_71 : decode prog_9_method_69_code 71 = .ok (.ifCond .lt 38, 3) := by decide +kernel
theorem d_Md_copy_74 : decode prog_9_method_69_code 74 = .ok (.iload 4, 2) := by decide +kernel
theorem d_Md_copy_76 : decode prog_9_method_69_code 76 = .ok (.ifCond .lt 33, 3) := by decide +kernel
theorem d_Md_copy_79 : decode prog_9_method_69_code 79 = .ok (.iload 5, 2) := by decide +kernel
theorem d_Md_copy_81 : decode prog_9_method_69_code 81 = .ok (.ifCond .lt 28, 3) := by decide +kernel
theorem d_Md_copy_84 : decode prog_9_method_69_code 84 = .ok (.iload_n 2, 1) := by decide +kernel
theorem d_Md_copy_85 : decode prog_9_method_69_code 85 = .ok (.aload_n 0, 1) := by decide +kernel
theorem d_Md_copy_86 : decode prog_9_method_69_code 86 = .ok (.getfield 13, 3) := by decide +kernel
theorem d_Md_copy_89 : decode prog_9_method_69_code 89 = .ok (.iload_n 1, 1) := by decide +kernel
theorem d_Md_copy_90 : decode prog_9_method_69_code 90 = .ok (.iaload, 1) := by decide +kernel
theorem d_Md_copy_91 : decode prog_9_method_69_code 91 = .ok (.if_icmp .gt 18, 3) := by decide +kernel
theorem d_Md_copy_94 : decode prog_9_method_69_code 94 = .ok (.iload 4, 2) := by decide +kernel
theorem d_Md_copy_96 : decode prog_9_method_69_code 96 = .ok (.aload_n 0, 1) := by decide +kernel
theorem d_Md_copy_97 : decode prog_9_method_69_code 97 = .ok (.getfield 13, 3) := by decide +kernel
theorem d_Md_copy_100 : decode prog_9_method_69_code 100 = .ok (.iload_n 3, 1) := by decide +kernel
theorem d_Md_copy_101 : decode prog_9_method_69_code 101 = .ok (.iaload, 1) := by decide +kernel
theorem d_Md_copy_102 : decode prog_9_method_69_code 102 = .ok (.if_icmp .gt 7, 3) := by decide +kernel
theorem d_Md_copy_105 : decode prog_9_method_69_code 105 = .ok (.iconst 1, 1) := by decide +kernel
theorem d_Md_copy_106 : decode prog_9_method_69_code 106 = .ok (.goto 4, 3) := by decide +kernel
theorem d_Md_copy_109 : decode prog_9_method_69_code 109 = .ok (.iconst 0, 1) := by decide +kernel
theorem d_Md_copy_110 : decode prog_9_method_69_code 110 = .ok (.istore 6, 2) := by decide +kernel
theorem d_Md_copy_112 : decode prog_9_method_69_code 112 = .ok (.iload 6, 2) := by decide +kernel
theorem d_Md_copy_114 : decode prog_9_method_69_code 114 = .ok (.ifCond .eq 30, 3) := by decide +kernel
theorem d_Md_copy_117 : decode prog_9_method_69_code 117 = .ok (.iload 5, 2) := by decide +kernel
theorem d_Md_copy_119 : decode prog_9_method_69_code 119 = .ok (.aload_n 0, 1) := by decide +kernel
theorem d_Md_copy_120 : decode prog_9_method_69_code 120 = .ok (.getfield 13, 3) := by decide +kernel
theorem d_Md_copy_123 : decode prog_9_method_69_code 123 = .ok (.iload_n 1, 1) := by decide +kernel
theorem d_Md_copy_124 : decode prog_9_method_69_code 124 = .ok (.iaload, 1) := by decide +kernel
theorem d_Md_copy_125 : decode prog_9_method_69_code 125 = .ok (.iload_n 2, 1) := by decide +kernel
theorem d_Md_copy_126 : decode prog_9_method_69_code 126 = .ok (.isub, 1) := by decide +kernel
theorem d_Md_copy_127 : decode prog_9_method_69_code 127 = .ok (.if_icmp .gt 17, 3) := by decide +kernel
theorem d_Md_copy_130 : decode prog_9_method_69_code 130 = .ok (.iload 5, 2) := by decide +kernel
theorem d_Md_copy_132 : decode prog_9_method_69_code 132 = .ok (.aload_n 0, 1) := by decide +kernel
theorem d_Md_copy_133 : decode prog_9_method_69_code 133 = .ok (.getfield 13, 3) := by decide +kernel
theorem d_Md_copy_136 : decode prog_9_method_69_code 136 = .ok (.iload_n 3, 1) := by decide +kernel
theorem d_Md_copy_137 : decode prog_9_method_69_code 137 = .ok (.iaload, 1) := by decide +kernel
theorem d_Md_copy_138 : decode prog_9_method_69_code 138 = .ok (.iload 4, 2) := by decide +kernel
theorem d_Md_copy_140 : decode prog_9_method_69_code 140 = .ok (.isub, 1) := by decide +kernel
theorem d_Md_copy_141 : decode prog_9_method_69_code 141 = .ok (.if_icmp .le 9, 3) := by decide +kernel
theorem d_Md_copy_144 : decode prog_9_method_69_code 144 = .ok (.aload_n 0, 1) := by decide +kernel
theorem d_Md_copy_145 : decode prog_9_method_69_code 145 = .ok (.iconst 3, 1) := by decide +kernel
theorem d_Md_copy_146 : decode prog_9_method_69_code 146 = .ok (.invokevirtual 131, 3) := by decide +kernel
theorem d_Md_copy_149 : decode prog_9_method_69_code 149 = .ok (.ireturn, 1) := by decide +kernel
theorem d_Md_copy_150 : decode prog_9_method_69_code 150 = .ok (.iload_n 2, 1) := by decide +kernel
theorem d_Md_copy_151 : decode prog_9_method_69_code 151 = .ok (.iload 4, 2) := by decide +kernel
theorem d_Md_copy_153 : decode prog_9_method_69_code 153 = .ok (.if_icmp .ge 7, 3) := by decide +kernel
theorem d_Md_copy_156 : decode prog_9_method_69_code 156 = .ok (.iconst 1, 1) := by decide +kernel
theorem d_Md_copy_157 : decode prog_9_method_69_code 157 = .ok (.goto 4, 3) := by decide +kernel
theorem d_Md_copy_160 : decode prog_9_method_69_code 160 = .ok (.iconst 0, 1) := by decide +kernel
theorem d_Md_copy_161 : decode prog_9_method_69_code 161 = .ok (.istore 7, 2) := by decide +kernel
theorem d_Md_copy_163 : decode prog_9_method_69_code 163 = .ok (.iconst 0, 1) := by decide +kernel
theorem d_Md_copy_164 : decode prog_9_method_69_code 164 = .ok (.istore 8, 2) := by decide +kernel
theorem d_Md_copy_166 : decode prog_9_method_69_code 166 = .ok (.iload 8, 2) := by decide +kernel
theorem d_Md_copy_168 : decode prog_9_method_69_code 168 = .ok (.iload 5, 2) := by decide +kernel
theorem d_Md_copy_170 : decode prog_9_method_69_code 170 = .ok (.if_icmp .ge 57, 3) := by decide +kernel
theorem d_Md_copy_173 : decode prog_9_method_69_code 173 = .ok (.iload 7, 2) := by decide +kernel
theorem d_Md_copy_175 : decode prog_9_method_69_code 175 = .ok (.ifCond .eq 13, 3) := by decide +kernel
theorem d_Md_copy_178 : decode prog_9_method_69_code 178 = .ok (.iload 5, 2) := by decide +kernel
theorem d_Md_copy_180 : decode prog_9_method_69_code 180 = .ok (.iconst 1, 1) := by decide +kernel
theorem d_Md_copy_181 : decode prog_9_method_69_code 181 = .ok (.isub, 1) := by decide +kernel
theorem d_Md_copy_182 : decode prog_9_method_69_code 182 = .ok (.iload 8, 2) := by decide +kernel
theorem d_Md_copy_184 : decode prog_9_method_69_code 184 = .ok (.isub, 1) := by decide +kernel
theorem d_Md_copy_185 : decode prog_9_method_69_code 185 = .ok (.goto 5, 3) := by decide +kernel
theorem d_Md_copy_188 : decode prog_9_method_69_code 188 = .ok (.iload 8, 2) := by decide +kernel
theorem d_Md_copy_190 : decode prog_9_method_69_code 190 = .ok (.istore 9, 2) := by decide +kernel
theorem d_Md_copy_192 : decode prog_9_method_69_code 192 = .ok (.aload_n 0, 1) := by decide +kernel
theorem d_Md_copy_193 : decode prog_9_method_69_code 193 = .ok (.getfield 16, 3) := by decide +kernel
theorem d_Md_copy_196 : decode prog_9_method_69_code 196 = .ok (.bipush 60, 2) := by decide +kernel
theorem d_Md_copy_198 : decode prog_9_method_69_code 198 = .ok (.iload_n 3, 1) := by decide +kernel
theorem d_Md_copy_199 : decode prog_9_method_69_code 199 = .ok (.imul, 1) := by decide +kernel
theorem d_Md_copy_200 : decode prog_9_method_69_code 200 = .ok (.iload 4, 2) := by decide +kernel
theorem d_Md_copy_202 : decode prog_9_method_69_code 202 = .ok (.iadd, 1) := by decide +kernel
theorem d_Md_copy_203 : decode prog_9_method_69_code 203 = .ok (.iload 9, 2) := by decide +kernel
theorem d_Md_copy_205 : decode prog_9_method_69_code 205 = .ok (.iadd, 1) := by decide +kernel
theorem d_Md_copy_206 : decode prog_9_method_69_code 206 = .ok (.aload_n 0, 1) := by decide +kernel
theorem d_Md_copy_207 : decode prog_9_method_69_code 207 = .ok (.getfield 16, 3) := by decide +kernel
theorem d_Md_copy_210 : decode prog_9_method_69_code 210 = .ok (.bipush 60, 2) := by decide +kernel
theorem d_Md_copy_212 : decode prog_9_method_69_code 212 = .ok (.iload_n 1, 1) := by decide +kernel
theorem d_Md_copy_213 : decode prog_9_method_69_code 213 = .ok (.imul, 1) := by decide +kernel
theorem d_Md_copy_214 : decode prog_9_method_69_code 214 = .ok (.iload_n 2, 1) := by decide +kernel
theorem d_Md_copy_215 : decode prog_9_method_69_code 215 = .ok (.iadd, 1) := by decide +kernel
theorem d_Md_copy_216 : decode prog_9_method_69_code 216 = .ok (.iload 9, 2) := by decide +kernel
theorem d_Md_copy_218 : decode prog_9_method_69_code 218 = .ok (.iadd, 1) := by decide +kernel
theorem d_Md_copy_219 : decode prog_9_method_69_code 219 = .ok (.iaload, 1) := by decide +kernel
theorem d_Md_copy_220 : decode prog_9_method_69_code 220 = .ok (.iastore, 1) := by decide +kernel
theorem d_Md_copy_221 : decode prog_9_method_69_code 221 = .ok (.iinc 8 1, 3) := by decide +kernel
theorem d_Md_copy_224 : decode prog_9_method_69_code 224 = .ok (.goto (-58), 3) := by decide +kernel
theorem d_Md_copy_227 : decode prog_9_method_69_code 227 = .ok (.iload 5, 2) := by decide +kernel
theorem d_Md_copy_229 : decode prog_9_method_69_code 229 = .ok (.ireturn, 1) := by decide +kernel
abbrev y_Md_copy : MethodName := ⟨"LoadCyclesModel", "copy", "(IIIII)I"⟩
theorem mi_Md_copy : miV y_Md_copy prog_9_method_69_code 10 (some .int) 5 := ⟨wd_1109, wd_1110, wd_72, wd_1111, by decide, by decide, by decide +kernel⟩
def B_Md_copy_43 (x1 : Int32) (x2 : Int32) (x3 : Int32) (x4 : Int32) (x5 : Int32) (K : Int32 → Sg → Prop)  (σ : Sg) : Prop :=
  w_Md_fails (1 : Int32) σ (fun u45 τ45 => K u45 τ45)
theorem t_Md_copy_43 {X : Bx} {Y : Yx} {x1 : Int32} {x2 : Int32} {x3 : Int32} {x4 : Int32} {x5 : Int32} {K : Int32 → Sg → Prop}  (hY : YD Y) (C : Cx X Y prog_9_method_69_code 10 "LoadCyclesModel" 2 45) (hr : (xh X).sig.returnType = some .int)   {σ : Sg} (h : B_Md_copy_43 x1 x2 x3 x4 x5 K σ) : St X Y 10 (QI X Y K) 43 [(0, .ref (ya Y 43))] [] σ := by
  unfold B_Md_copy_43 at h
  refine q_aload_n (pc := 43) C d_Md_copy_43 rfl 0 rfl ?_
  refine q_iconst (pc := 44) (v := 1) C d_Md_copy_44 (by decide) ?_
  refine q_callVI (pc := 45) (st := []) (d := 43) C (m_Md_fails hY h) mi_Md_fails rfl (by decide) rfl wd_852 rfl rfl (Nat.le_of_ble_eq_true rfl) (by decide) (by decide) d_Md_copy_45 (fun u45 τ45 h => ?_)
  exact q_iret (pc := 48) C hr d_Md_copy_48 h
def B_Md_copy_144 (x1 : Int32) (x2 : Int32) (x3 : Int32) (x4 : Int32) (x5 : Int32) (K : Int32 → Sg → Prop)  (σ : Sg) : Prop :=
  w_Md_fails (3 : Int32) σ (fun u146 τ146 => K u146 τ146)
theorem t_Md_copy_144 {X : Bx} {Y : Yx} {x1 : Int32} {x2 : Int32} {x3 : Int32} {x4 : Int32} {x5 : Int32} {K : Int32 → Sg → Prop}  (hY : YD Y) (C : Cx X Y prog_9_method_69_code 10 "LoadCyclesModel" 2 45) (hr : (xh X).sig.returnType = some .int)   {σ : Sg} (h : B_Md_copy_144 x1 x2 x3 x4 x5 K σ) : St X Y 10 (QI X Y K) 144 [(0, .ref (ya Y 43))] [] σ := by
  unfold B_Md_copy_144 at h
  refine q_aload_n (pc := 144) C d_Md_copy_144 rfl 0 rfl ?_
  refine q_iconst (pc := 145) (v := 3) C d_Md_copy_145 (by decide) ?_
  refine q_callVI (pc := 146) (st := []) (d := 43) C (m_Md_fails hY h) mi_Md_fails rfl (by decide) rfl wd_852 rfl rfl (Nat.le_of_ble_eq_true rfl) (by decide) (by decide) d_Md_copy_146 (fun u146 τ146 h => ?_)
  exact q_iret (pc := 149) C hr d_Md_copy_149 h
def B_Md_copy_190 (x1 : Int32) (x2 : Int32) (x3 : Int32) (x4 : Int32) (x5 : Int32) (K : Int32 → Sg → Prop) (r166 : Int32 → Sg → Prop) (v7 : Int32) (v8 : Int32) (vs0 : Int32) (σ : Sg) : Prop :=
  (vp_in ((((60 : Int32) * x1) + x2) + vs0) 240 ∧ (vp_in ((((60 : Int32) * x3) + x4) + vs0) 240 ∧ (∀ τ220 : Sg, τ220 = s2 σ 46 ((((60 : Int32) * x3) + x4) + vs0).toNatClampNeg (σ 46 ((((60 : Int32) * x1) + x2) + vs0).toNatClampNeg) → r166 (v8 + (1 : Int32)) τ220)))
theorem t_Md_copy_190 {X : Bx} {Y : Yx} {x1 : Int32} {x2 : Int32} {x3 : Int32} {x4 : Int32} {x5 : Int32} {v7 : Int32} {v8 : Int32} {vs0 : Int32} {K : Int32 → Sg → Prop} {r166 : Int32 → Sg → Prop} (hY : YD Y) (C : Cx X Y prog_9_method_69_code 10 "LoadCyclesModel" 2 45) (hr : (xh X).sig.returnType = some .int)  (H166 : ∀ (v8 : Int32) (σ : Sg), r166 v8 σ → St X Y 10 (QI X Y K) 166 [(0, .ref (ya Y 43)), (1, .int x1), (2, .int x2), (3, .int x3), (4, .int x4), (5, .int x5), (7, .int v7), (8, .int v8)] [] σ)  {σ : Sg} (h : B_Md_copy_190 x1 x2 x3 x4 x5 K r166 v7 v8 vs0 σ) : St X Y 10 (QI X Y K) 190 [(0, .ref (ya Y 43)), (1, .int x1), (2, .int x2), (3, .int x3), (4, .int x4), (5, .int x5), (7, .int v7), (8, .int v8)] [.int vs0] σ := by
  unfold B_Md_copy_190 at h
  refine q_istore (pc := 190) [(9, .int vs0), (0, .ref (ya Y 43)), (1, .int x1), (2, .int x2), (3, .int x3), (4, .int x4), (5, .int x5), (7, .int v7), (8, .int v8)] C d_Md_copy_190 (by decide) rfl ?_
  refine q_aload_n (pc := 192) C d_Md_copy_192 rfl 1 rfl ?_
  refine q_get (pc := 193) (c := 43) (ci := 7) (k := 4) (v := .ref (ya Y 46)) C rfl (by decide) (by decide) wd_737 rfl d_Md_copy_193 ?_
  refine q_bipush (pc := 196) (v := 60) C d_Md_copy_196 (by decide) ?_
  refine q_iload_n (pc := 198) C d_Md_copy_198 rfl 4 rfl ?_
  refine q_imul (pc := 199) C d_Md_copy_199 ?_
  refine q_iload (pc := 200) C d_Md_copy_200 5 rfl ?_
  refine q_iadd (pc := 202) C d_Md_copy_202 ?_
  refine q_iload (pc := 203) C d_Md_copy_203 0 rfl ?_
  refine q_iadd (pc := 205) C d_Md_copy_205 ?_
  refine q_aload_n (pc := 206) C d_Md_copy_206 rfl 1 rfl ?_
  refine q_get (pc := 207) (c := 43) (ci := 7) (k := 4) (v := .ref (ya Y 46)) C rfl (by decide) (by decide) wd_737 rfl d_Md_copy_207 ?_
  refine q_bipush (pc := 210) (v := 60) C d_Md_copy_210 (by decide) ?_
  refine q_iload_n (pc := 212) C d_Md_copy_212 rfl 2 rfl ?_
  refine q_imul (pc := 213) C d_Md_copy_213 ?_
  refine q_iload_n (pc := 214) C d_Md_copy_214 rfl 3 rfl ?_
  refine q_iadd (pc := 215) C d_Md_copy_215 ?_
  refine q_iload (pc := 216) C d_Md_copy_216 0 rfl ?_
  refine q_iadd (pc := 218) C d_Md_copy_218 ?_
  obtain ⟨h7, h⟩ := h
  refine q_iald (pc := 219) (c := 46) C ⟨rfl, rfl⟩ h7 d_Md_copy_219 ?_
  obtain ⟨h8, h⟩ := h
  refine q_iast (pc := 220) (c := 46) C ⟨rfl, rfl⟩ h8 d_Md_copy_220 ?_
  refine q_nms (fun τ220 eτ220 => ?_)
  replace h := h τ220 eτ220
  refine q_iinc (pc := 221) (v8 + (1 : Int32)) [(8, .int (v8 + (1 : Int32))), (9, .int vs0), (0, .ref (ya Y 43)), (1, .int x1), (2, .int x2), (3, .int x3), (4, .int x4), (5, .int x5), (7, .int v7)] C d_Md_copy_221 8 rfl rfl (by decide) rfl ?_
  refine q_goto (pc := 224) 166 C d_Md_copy_224 (by decide) ?_
  refine q_sub [(0, .ref (ya Y 43)), (1, .int x1), (2, .int x2), (3, .int x3), (4, .int x4), (5, .int x5), (7, .int v7), (8, .int (v8 + (1 : Int32)))] [2, 3, 4, 5, 6, 7, 8, 0] rfl ?_
  exact H166 (v8 + (1 : Int32)) τ220 h
def L_Md_copy_166 (x1 : Int32) (x2 : Int32) (x3 : Int32) (x4 : Int32) (x5 : Int32) (v7 : Int32) (K : Int32 → Sg → Prop) : Nat → Int32 → Sg → Prop
  | 0, _, _ => False
  | n + 1, v8, σ =>
    ((x5 ≤ v8 → K x5 σ) ∧ (¬ x5 ≤ v8 → ((v7 = 0 → B_Md_copy_190 x1 x2 x3 x4 x5 K (fun a0 a1 => L_Md_copy_166 x1 x2 x3 x4 x5 v7 K n a0 a1) v7 v8 v8 σ) ∧ (¬ v7 = 0 → B_Md_copy_190 x1 x2 x3 x4 x5 K (fun a0 a1 => L_Md_copy_166 x1 x2 x3 x4 x5 v7 K n a0 a1) v7 v8 ((x5 - (1 : Int32)) - v8) σ))))
theorem t_Md_copy_166 {X : Bx} {Y : Yx} {x1 : Int32} {x2 : Int32} {x3 : Int32} {x4 : Int32} {x5 : Int32} {v7 : Int32} {K : Int32 → Sg → Prop}  (hY : YD Y) (C : Cx X Y prog_9_method_69_code 10 "LoadCyclesModel" 2 45) (hr : (xh X).sig.returnType = some .int)  : ∀ (n : Nat) (v8 : Int32) (σ : Sg), L_Md_copy_166 x1 x2 x3 x4 x5 v7 K n v8 σ → St X Y 10 (QI X Y K) 166 [(0, .ref (ya Y 43)), (1, .int x1), (2, .int x2), (3, .int x3), (4, .int x4), (5, .int x5), (7, .int v7), (8, .int v8)] [] σ := by
  intro n
  induction n with
  | zero => intro v8 σ h; exact h.elim
  | succ n ih =>
    intro v8 σ h
    unfold L_Md_copy_166 at h
    refine q_iload (pc := 166) C d_Md_copy_166 7 rfl ?_
    refine q_iload (pc := 168) C d_Md_copy_168 5 rfl ?_
    obtain ⟨h11, h12⟩ := h
    refine q_icmp_ge (pc := 170) 227 C d_Md_copy_170 (by decide) (fun hc => ?_) (fun hc => ?_)
    · have h := h11 hc
      refine q_iload (pc := 227) C d_Md_copy_227 5 rfl ?_
      exact q_iret (pc := 229) C hr d_Md_copy_229 h
    have h := h12 hc
    refine q_iload (pc := 173) C d_Md_copy_173 6 rfl ?_
    obtain ⟨h9, h10⟩ := h
    refine q_if_eq (pc := 175) 188 C d_Md_copy_175 (by decide) (fun hc => ?_) (fun hc => ?_)
    · have h := h9 hc
      refine q_iload (pc := 188) C d_Md_copy_188 7 rfl ?_
      exact t_Md_copy_190 hY C hr ih h
    have h := h10 hc
    refine q_iload (pc := 178) C d_Md_copy_178 5 rfl ?_
    refine q_iconst (pc := 180) (v := 1) C d_Md_copy_180 (by decide) ?_
    refine q_isub (pc := 181) C d_Md_copy_181 ?_
    refine q_iload (pc := 182) C d_Md_copy_182 7 rfl ?_
    refine q_isub (pc := 184) C d_Md_copy_184 ?_
    refine q_goto (pc := 185) 190 C d_Md_copy_185 (by decide) ?_
    exact t_Md_copy_190 hY C hr ih h
def B_Md_copy_161 (x1 : Int32) (x2 : Int32) (x3 : Int32) (x4 : Int32) (x5 : Int32) (K : Int32 → Sg → Prop) (vs0 : Int32) (σ : Sg) : Prop :=
  (∃ n13 : Nat, L_Md_copy_166 x1 x2 x3 x4 x5 vs0 K n13 (0 : Int32) σ)
theorem t_Md_copy_161 {X : Bx} {Y : Yx} {x1 : Int32} {x2 : Int32} {x3 : Int32} {x4 : Int32} {x5 : Int32} {vs0 : Int32} {K : Int32 → Sg → Prop}  (hY : YD Y) (C : Cx X Y prog_9_method_69_code 10 "LoadCyclesModel" 2 45) (hr : (xh X).sig.returnType = some .int)   {σ : Sg} (h : B_Md_copy_161 x1 x2 x3 x4 x5 K vs0 σ) : St X Y 10 (QI X Y K) 161 [(0, .ref (ya Y 43)), (1, .int x1), (2, .int x2), (3, .int x3), (4, .int x4), (5, .int x5)] [.int vs0] σ := by
  unfold B_Md_copy_161 at h
  refine q_istore (pc := 161) [(7, .int vs0), (0, .ref (ya Y 43)), (1, .int x1), (2, .int x2), (3, .int x3), (4, .int x4), (5, .int x5)] C d_Md_copy_161 (by decide) rfl ?_
  refine q_iconst (pc := 163) (v := 0) C d_Md_copy_163 (by decide) ?_
  refine q_istore (pc := 164) [(8, .int (0 : Int32)), (7, .int vs0), (0, .ref (ya Y 43)), (1, .int x1), (2, .int x2), (3, .int x3), (4, .int x4), (5, .int x5)] C d_Md_copy_164 (by decide) rfl ?_
  obtain ⟨n13, h⟩ := h
  refine q_sub [(0, .ref (ya Y 43)), (1, .int x1), (2, .int x2), (3, .int x3), (4, .int x4), (5, .int x5), (7, .int vs0), (8, .int (0 : Int32))] [2, 3, 4, 5, 6, 7, 1, 0] rfl ?_
  exact t_Md_copy_166 hY C hr n13 (0 : Int32) σ h
def B_Md_copy_110 (x1 : Int32) (x2 : Int32) (x3 : Int32) (x4 : Int32) (x5 : Int32) (K : Int32 → Sg → Prop) (vs0 : Int32) (σ : Sg) : Prop :=
  ((vs0 = 0 → B_Md_copy_144 x1 x2 x3 x4 x5 K σ) ∧ (¬ vs0 = 0 → (vp_in x1 4 ∧ ((((σ 45 x1.toNatClampNeg) - x2) < x5 → B_Md_copy_144 x1 x2 x3 x4 x5 K σ) ∧ (¬ ((σ 45 x1.toNatClampNeg) - x2) < x5 → (vp_in x3 4 ∧ ((x5 ≤ ((σ 45 x3.toNatClampNeg) - x4) → ((x4 ≤ x2 → B_Md_copy_161 x1 x2 x3 x4 x5 K (0 : Int32) σ) ∧ (¬ x4 ≤ x2 → B_Md_copy_161 x1 x2 x3 x4 x5 K (1 : Int32) σ))) ∧ (¬ x5 ≤ ((σ 45 x3.toNatClampNeg) - x4) → B_Md_copy_144 x1 x2 x3 x4 x5 K σ))))))))
theorem t_Md_copy_110 {X : Bx} {Y : Yx} {x1 : Int32} {x2 : Int32} {x3 : Int32} {x4 : Int32} {x5 : Int32} {vs0 : Int32} {K : Int32 → Sg → Prop}  (hY : YD Y) (C : Cx X Y prog_9_method_69_code 10 "LoadCyclesModel" 2 45) (hr : (xh X).sig.returnType = some .int)   {σ : Sg} (h : B_Md_copy_110 x1 x2 x3 x4 x5 K vs0 σ) : St X Y 10 (QI X Y K) 110 [(0, .ref (ya Y 43)), (1, .int x1), (2, .int x2), (3, .int x3), (4, .int x4), (5, .int x5)] [.int vs0] σ := by
  unfold B_Md_copy_110 at h
  refine q_istore (pc := 110) [(6, .int vs0), (0, .ref (ya Y 43)), (1, .int x1), (2, .int x2), (3, .int x3), (4, .int x4), (5, .int x5)] C d_Md_copy_110 (by decide) rfl ?_
  refine q_iload (pc := 112) C d_Md_copy_112 0 rfl ?_
  obtain ⟨h20, h21⟩ := h
  refine q_if_eq (pc := 114) 144 C d_Md_copy_114 (by decide) (fun hc => ?_) (fun hc => ?_)
  · have h := h20 hc
    refine q_sub [(0, .ref (ya Y 43))] [1] rfl ?_
    exact t_Md_copy_144 hY C hr h
  have h := h21 hc
  refine q_iload (pc := 117) C d_Md_copy_117 6 rfl ?_
  refine q_aload_n (pc := 119) C d_Md_copy_119 rfl 1 rfl ?_
  refine q_get (pc := 120) (c := 43) (ci := 7) (k := 3) (v := .ref (ya Y 45)) C rfl (by decide) (by decide) wd_736 rfl d_Md_copy_120 ?_
  refine q_iload_n (pc := 123) C d_Md_copy_123 rfl 2 rfl ?_
  obtain ⟨h5, h⟩ := h
  refine q_iald (pc := 124) (c := 45) C ⟨rfl, rfl⟩ h5 d_Md_copy_124 ?_
  refine q_iload_n (pc := 125) C d_Md_copy_125 rfl 3 rfl ?_
  refine q_isub (pc := 126) C d_Md_copy_126 ?_
  obtain ⟨h18, h19⟩ := h
  refine q_icmp_gt (pc := 127) 144 C d_Md_copy_127 (by decide) (fun hc => ?_) (fun hc => ?_)
  · have h := h18 hc
    refine q_sub [(0, .ref (ya Y 43))] [1] rfl ?_
    exact t_Md_copy_144 hY C hr h
  have h := h19 hc
  refine q_iload (pc := 130) C d_Md_copy_130 6 rfl ?_
  refine q_aload_n (pc := 132) C d_Md_copy_132 rfl 1 rfl ?_
  refine q_get (pc := 133) (c := 43) (ci := 7) (k := 3) (v := .ref (ya Y 45)) C rfl (by decide) (by decide) wd_736 rfl d_Md_copy_133 ?_
  refine q_iload_n (pc := 136) C d_Md_copy_136 rfl 4 rfl ?_
  obtain ⟨h6, h⟩ := h
  refine q_iald (pc := 137) (c := 45) C ⟨rfl, rfl⟩ h6 d_Md_copy_137 ?_
  refine q_iload (pc := 138) C d_Md_copy_138 5 rfl ?_
  refine q_isub (pc := 140) C d_Md_copy_140 ?_
  obtain ⟨h16, h17⟩ := h
  refine q_icmp_le (pc := 141) 150 C d_Md_copy_141 (by decide) (fun hc => ?_) (fun hc => ?_)
  · have h := h16 hc
    refine q_iload_n (pc := 150) C d_Md_copy_150 rfl 3 rfl ?_
    refine q_iload (pc := 151) C d_Md_copy_151 5 rfl ?_
    obtain ⟨h14, h15⟩ := h
    refine q_icmp_ge (pc := 153) 160 C d_Md_copy_153 (by decide) (fun hc => ?_) (fun hc => ?_)
    · have h := h14 hc
      refine q_iconst (pc := 160) (v := 0) C d_Md_copy_160 (by decide) ?_
      refine q_sub [(0, .ref (ya Y 43)), (1, .int x1), (2, .int x2), (3, .int x3), (4, .int x4), (5, .int x5)] [1, 2, 3, 4, 5, 6] rfl ?_
      exact t_Md_copy_161 hY C hr h
    have h := h15 hc
    refine q_iconst (pc := 156) (v := 1) C d_Md_copy_156 (by decide) ?_
    refine q_goto (pc := 157) 161 C d_Md_copy_157 (by decide) ?_
    refine q_sub [(0, .ref (ya Y 43)), (1, .int x1), (2, .int x2), (3, .int x3), (4, .int x4), (5, .int x5)] [1, 2, 3, 4, 5, 6] rfl ?_
    exact t_Md_copy_161 hY C hr h
  have h := h17 hc
  refine q_sub [(0, .ref (ya Y 43))] [1] rfl ?_
  exact t_Md_copy_144 hY C hr h
def B_Md_copy_109 (x1 : Int32) (x2 : Int32) (x3 : Int32) (x4 : Int32) (x5 : Int32) (K : Int32 → Sg → Prop)  (σ : Sg) : Prop :=
  B_Md_copy_110 x1 x2 x3 x4 x5 K (0 : Int32) σ
theorem t_Md_copy_109 {X : Bx} {Y : Yx} {x1 : Int32} {x2 : Int32} {x3 : Int32} {x4 : Int32} {x5 : Int32} {K : Int32 → Sg → Prop}  (hY : YD Y) (C : Cx X Y prog_9_method_69_code 10 "LoadCyclesModel" 2 45) (hr : (xh X).sig.returnType = some .int)   {σ : Sg} (h : B_Md_copy_109 x1 x2 x3 x4 x5 K σ) : St X Y 10 (QI X Y K) 109 [(0, .ref (ya Y 43)), (1, .int x1), (2, .int x2), (3, .int x3), (4, .int x4), (5, .int x5)] [] σ := by
  unfold B_Md_copy_109 at h
  refine q_iconst (pc := 109) (v := 0) C d_Md_copy_109 (by decide) ?_
  exact t_Md_copy_110 hY C hr h
def w_Md_copy (x1 : Int32) (x2 : Int32) (x3 : Int32) (x4 : Int32) (x5 : Int32) (σ : Sg) (K : Int32 → Sg → Prop) : Prop :=
  (∀ τ2 : Sg, τ2 = s2 σ 43 0 (0 : Int32) → w_Md_isSheet x1 τ2 (fun u6 => ((u6 = 0 → K (-1 : Int32) τ2) ∧ (¬ u6 = 0 → w_Md_isSheet x3 τ2 (fun u13 => ((¬ u13 = 0 → (vp_in x1 4 ∧ (((τ2 44 x1.toNatClampNeg) = (-9 : Int32) → B_Md_copy_43 x1 x2 x3 x4 x5 K τ2) ∧ (¬ (τ2 44 x1.toNatClampNeg) = (-9 : Int32) → (vp_in x3 4 ∧ ((¬ (τ2 44 x3.toNatClampNeg) = (-9 : Int32) → (vp_in x1 4 ∧ (vp_in x3 4 ∧ (((τ2 44 x1.toNatClampNeg) = (τ2 44 x3.toNatClampNeg) → ((x2 < 0 → B_Md_copy_109 x1 x2 x3 x4 x5 K τ2) ∧ (¬ x2 < 0 → ((x4 < 0 → B_Md_copy_109 x1 x2 x3 x4 x5 K τ2) ∧ (¬ x4 < 0 → ((x5 < 0 → B_Md_copy_109 x1 x2 x3 x4 x5 K τ2) ∧ (¬ x5 < 0 → (vp_in x1 4 ∧ (((τ2 45 x1.toNatClampNeg) < x2 → B_Md_copy_109 x1 x2 x3 x4 x5 K τ2) ∧ (¬ (τ2 45 x1.toNatClampNeg) < x2 → (vp_in x3 4 ∧ (((τ2 45 x3.toNatClampNeg) < x4 → B_Md_copy_109 x1 x2 x3 x4 x5 K τ2) ∧ (¬ (τ2 45 x3.toNatClampNeg) < x4 → B_Md_copy_110 x1 x2 x3 x4 x5 K (1 : Int32) τ2))))))))))))) ∧ (¬ (τ2 44 x1.toNatClampNeg) = (τ2 44 x3.toNatClampNeg) → w_Md_fails (2 : Int32) τ2 (fun u66 τ66 => K u66 τ66)))))) ∧ ((τ2 44 x3.toNatClampNeg) = (-9 : Int32) → B_Md_copy_43 x1 x2 x3 x4 x5 K τ2))))))) ∧ (u13 = 0 → K (-1 : Int32) τ2)))))))
set_option maxHeartbeats 4000000 in
theorem m_Md_copy {Y : Yx} {x1 : Int32} {x2 : Int32} {x3 : Int32} {x4 : Int32} {x5 : Int32} {σ : Sg} {K : Int32 → Sg → Prop} (hY : YD Y)  (h : w_Md_copy x1 x2 x3 x4 x5 σ K) : MetI Y y_Md_copy prog_9_method_69_code 10 (.int) 2 45 [.ref (ya Y 43), .int x1, .int x2, .int x3, .int x4, .int x5] σ K := by
  refine met_I [(0, .ref (ya Y 43)), (1, .int x1), (2, .int x2), (3, .int x3), (4, .int x4), (5, .int x5)] hY (by decide) (Nat.le_of_ble_eq_true rfl) rfl (fun X C hr => ?_)
  unfold w_Md_copy at h
  refine q_aload_n (pc := 0) C d_Md_copy_0 rfl 0 rfl ?_
  refine q_iconst (pc := 1) (v := 0) C d_Md_copy_1 (by decide) ?_
  refine q_put (pc := 2) (c := 43) (ci := 7) (k := 0) C rfl (by decide) (by decide) wd_733 rfl rfl rfl fs_7_0 d_Md_copy_2 ?_
  refine q_nms (fun τ2 eτ2 => ?_)
  replace h := h τ2 eτ2
  refine q_iload_n (pc := 5) C d_Md_copy_5 rfl 1 rfl ?_
  refine q_callSIr (pc := 6) (st := []) C (m_Md_isSheet hY h) mi_Md_isSheet wd_837 rfl rfl (Nat.le_of_ble_eq_true rfl) (by decide) (by decide) d_Md_copy_6 (fun u6 h => ?_)
  obtain ⟨h42, h43⟩ := h
  refine q_if_eq (pc := 9) 19 C d_Md_copy_9 (by decide) (fun hc => ?_) (fun hc => ?_)
  · have h := h42 hc
    refine q_iconst (pc := 19) (v := -1) C d_Md_copy_19 (by decide) ?_
    exact q_iret (pc := 20) C hr d_Md_copy_20 h
  have h := h43 hc
  refine q_iload_n (pc := 12) C d_Md_copy_12 rfl 3 rfl ?_
  refine q_callSIr (pc := 13) (st := []) C (m_Md_isSheet hY h) mi_Md_isSheet wd_837 rfl rfl (Nat.le_of_ble_eq_true rfl) (by decide) (by decide) d_Md_copy_13 (fun u13 h => ?_)
  obtain ⟨h40, h41⟩ := h
  refine q_if_ne (pc := 16) 21 C d_Md_copy_16 (by decide) (fun hc => ?_) (fun hc => ?_)
  · have h := h40 hc
    refine q_aload_n (pc := 21) C d_Md_copy_21 rfl 0 rfl ?_
    refine q_get (pc := 22) (c := 43) (ci := 7) (k := 2) (v := .ref (ya Y 44)) C rfl (by decide) (by decide) wd_735 rfl d_Md_copy_22 ?_
    refine q_iload_n (pc := 25) C d_Md_copy_25 rfl 1 rfl ?_
    obtain ⟨h1, h⟩ := h
    refine q_iald (pc := 26) (c := 44) C ⟨rfl, rfl⟩ h1 d_Md_copy_26 ?_
    refine q_bipush (pc := 27) (v := -9) C d_Md_copy_27 (by decide) ?_
    obtain ⟨h38, h39⟩ := h
    refine q_icmp_eq (pc := 29) 43 C d_Md_copy_29 (by decide) (fun hc => ?_) (fun hc => ?_)
    · have h := h38 hc
      refine q_sub [(0, .ref (ya Y 43))] [0] rfl ?_
      exact t_Md_copy_43 hY C hr h
    have h := h39 hc
    refine q_aload_n (pc := 32) C d_Md_copy_32 rfl 0 rfl ?_
    refine q_get (pc := 33) (c := 43) (ci := 7) (k := 2) (v := .ref (ya Y 44)) C rfl (by decide) (by decide) wd_735 rfl d_Md_copy_33 ?_
    refine q_iload_n (pc := 36) C d_Md_copy_36 rfl 3 rfl ?_
    obtain ⟨h2, h⟩ := h
    refine q_iald (pc := 37) (c := 44) C ⟨rfl, rfl⟩ h2 d_Md_copy_37 ?_
    refine q_bipush (pc := 38) (v := -9) C d_Md_copy_38 (by decide) ?_
    obtain ⟨h36, h37⟩ := h
    refine q_icmp_ne (pc := 40) 49 C d_Md_copy_40 (by decide) (fun hc => ?_) (fun hc => ?_)
    · have h := h36 hc
      refine q_aload_n (pc := 49) C d_Md_copy_49 rfl 0 rfl ?_
      refine q_get (pc := 50) (c := 43) (ci := 7) (k := 2) (v := .ref (ya Y 44)) C rfl (by decide) (by decide) wd_735 rfl d_Md_copy_50 ?_
      refine q_iload_n (pc := 53) C d_Md_copy_53 rfl 1 rfl ?_
      obtain ⟨h3, h⟩ := h
      refine q_iald (pc := 54) (c := 44) C ⟨rfl, rfl⟩ h3 d_Md_copy_54 ?_
      refine q_aload_n (pc := 55) C d_Md_copy_55 rfl 0 rfl ?_
      refine q_get (pc := 56) (c := 43) (ci := 7) (k := 2) (v := .ref (ya Y 44)) C rfl (by decide) (by decide) wd_735 rfl d_Md_copy_56 ?_
      refine q_iload_n (pc := 59) C d_Md_copy_59 rfl 3 rfl ?_
      obtain ⟨h4, h⟩ := h
      refine q_iald (pc := 60) (c := 44) C ⟨rfl, rfl⟩ h4 d_Md_copy_60 ?_
      obtain ⟨h34, h35⟩ := h
      refine q_icmp_eq (pc := 61) 70 C d_Md_copy_61 (by decide) (fun hc => ?_) (fun hc => ?_)
      · have h := h34 hc
        refine q_iload_n (pc := 70) C d_Md_copy_70 rfl 2 rfl ?_
        obtain ⟨h32, h33⟩ := h
        refine q_if_lt (pc := 71) 109 C d_Md_copy_71 (by decide) (fun hc => ?_) (fun hc => ?_)
        · have h := h32 hc
          exact t_Md_copy_109 hY C hr h
        have h := h33 hc
        refine q_iload (pc := 74) C d_Md_copy_74 4 rfl ?_
        obtain ⟨h30, h31⟩ := h
        refine q_if_lt (pc := 76) 109 C d_Md_copy_76 (by decide) (fun hc => ?_) (fun hc => ?_)
        · have h := h30 hc
          exact t_Md_copy_109 hY C hr h
        have h := h31 hc
        refine q_iload (pc := 79) C d_Md_copy_79 5 rfl ?_
        obtain ⟨h28, h29⟩ := h
        refine q_if_lt (pc := 81) 109 C d_Md_copy_81 (by decide) (fun hc => ?_) (fun hc => ?_)
        · have h := h28 hc
          exact t_Md_copy_109 hY C hr h
        have h := h29 hc
        refine q_iload_n (pc := 84) C d_Md_copy_84 rfl 2 rfl ?_
        refine q_aload_n (pc := 85) C d_Md_copy_85 rfl 0 rfl ?_
        refine q_get (pc := 86) (c := 43) (ci := 7) (k := 3) (v := .ref (ya Y 45)) C rfl (by decide) (by decide) wd_736 rfl d_Md_copy_86 ?_
        refine q_iload_n (pc := 89) C d_Md_copy_89 rfl 1 rfl ?_
        obtain ⟨h22, h⟩ := h
        refine q_iald (pc := 90) (c := 45) C ⟨rfl, rfl⟩ h22 d_Md_copy_90 ?_
        obtain ⟨h26, h27⟩ := h
        refine q_icmp_gt (pc := 91) 109 C d_Md_copy_91 (by decide) (fun hc => ?_) (fun hc => ?_)
        · have h := h26 hc
          exact t_Md_copy_109 hY C hr h
        have h := h27 hc
        refine q_iload (pc := 94) C d_Md_copy_94 4 rfl ?_
        refine q_aload_n (pc := 96) C d_Md_copy_96 rfl 0 rfl ?_
        refine q_get (pc := 97) (c := 43) (ci := 7) (k := 3) (v := .ref (ya Y 45)) C rfl (by decide) (by decide) wd_736 rfl d_Md_copy_97 ?_
        refine q_iload_n (pc := 100) C d_Md_copy_100 rfl 3 rfl ?_
        obtain ⟨h23, h⟩ := h
        refine q_iald (pc := 101) (c := 45) C ⟨rfl, rfl⟩ h23 d_Md_copy_101 ?_
        obtain ⟨h24, h25⟩ := h
        refine q_icmp_gt (pc := 102) 109 C d_Md_copy_102 (by decide) (fun hc => ?_) (fun hc => ?_)
        · have h := h24 hc
          exact t_Md_copy_109 hY C hr h
        have h := h25 hc
        refine q_iconst (pc := 105) (v := 1) C d_Md_copy_105 (by decide) ?_
        refine q_goto (pc := 106) 110 C d_Md_copy_106 (by decide) ?_
        exact t_Md_copy_110 hY C hr h
      have h := h35 hc
      refine q_aload_n (pc := 64) C d_Md_copy_64 rfl 0 rfl ?_
      refine q_iconst (pc := 65) (v := 2) C d_Md_copy_65 (by decide) ?_
      refine q_callVI (pc := 66) (st := []) (d := 43) C (m_Md_fails hY h) mi_Md_fails rfl (by decide) rfl wd_852 rfl rfl (Nat.le_of_ble_eq_true rfl) (by decide) (by decide) d_Md_copy_66 (fun u66 τ66 h => ?_)
      exact q_iret (pc := 69) C hr d_Md_copy_69 h
    have h := h37 hc
    refine q_sub [(0, .ref (ya Y 43))] [0] rfl ?_
    exact t_Md_copy_43 hY C hr h
  have h := h41 hc
  refine q_iconst (pc := 19) (v := -1) C d_Md_copy_19 (by decide) ?_
  exact q_iret (pc := 20) C hr d_Md_copy_20 h
theorem d_Md_begins_0 : decode prog_9_method_70_code 0 = .ok (.aload_n 0, 1) := by decide +kernel
theorem d_Md_begins_1 : decode prog_9_method_70_code 1 = .ok (.bipush 31, 2) := by decide +kernel
theorem d_Md_begins_3 : decode prog_9_method_70_code 3 = .ok (.aload_n 0, 1) := by decide +kernel
theorem d_Md_begins_4 : decode prog_9_method_70_code 4 = .ok (.getfield 281, 3) := by decide +kernel
theorem d_Md_begins_7 : decode prog_9_method_70_code 7 = .ok (.imul, 1) := by decide +kernel
theorem d_Md_begins_8 : decode prog_9_method_70_code 8 = .ok (.iload_n 1, 1) := by decide +kernel
theorem d_Md_begins_9 : decode prog_9_method_70_code 9 = .ok (.iadd, 1) := by decide +kernel
theorem d_Md_begins_10 : decode prog_9_method_70_code 10 = .ok (.putfield 281, 3) := by decide +kernel
theorem d_Md_begins_13 : decode prog_9_method_70_code 13 = .ok (.return_, 1) := by decide +kernel
abbrev y_Md_begins : MethodName := ⟨"LoadCyclesModel", "begins", "(I)V"⟩
theorem mi_Md_begins : miV y_Md_begins prog_9_method_70_code 2 none 1 := ⟨wd_1118, wd_63, wd_72, wd_1119, by decide, by decide, by decide +kernel⟩
def w_Md_begins (x1 : Int32) (σ : Sg) (K : Sg → Prop) : Prop :=
  (∀ τ10 : Sg, τ10 = s2 σ 43 1 (((31 : Int32) * (σ 43 1)) + x1) → K τ10)
set_option maxHeartbeats 4000000 in
theorem m_Md_begins {Y : Yx} {x1 : Int32} {σ : Sg} {K : Sg → Prop} (hY : YD Y)  (h : w_Md_begins x1 σ K) : MetV Y y_Md_begins prog_9_method_70_code 2 0 0 [.ref (ya Y 43), .int x1] σ K := by
  refine met_V [(0, .ref (ya Y 43)), (1, .int x1)] hY (by decide) (Nat.le_of_ble_eq_true rfl) rfl (fun X C hr => ?_)
  unfold w_Md_begins at h
  refine q_aload_n (pc := 0) C d_Md_begins_0 rfl 0 rfl ?_
  refine q_bipush (pc := 1) (v := 31) C d_Md_begins_1 (by decide) ?_
  refine q_aload_n (pc := 3) C d_Md_begins_3 rfl 0 rfl ?_
  refine q_get (pc := 4) (c := 43) (ci := 7) (k := 1) (v := .int (σ 43 1)) C rfl (by decide) (by decide) wd_734 rfl d_Md_begins_4 ?_
  refine q_imul (pc := 7) C d_Md_begins_7 ?_
  refine q_iload_n (pc := 8) C d_Md_begins_8 rfl 1 rfl ?_
  refine q_iadd (pc := 9) C d_Md_begins_9 ?_
  refine q_put (pc := 10) (c := 43) (ci := 7) (k := 1) C rfl (by decide) (by decide) wd_734 rfl rfl rfl fs_7_1 d_Md_begins_10 ?_
  refine q_nms (fun τ10 eτ10 => ?_)
  replace h := h τ10 eτ10
  exact q_vret (pc := 13) C hr d_Md_begins_13 h
