theorem d_Md_goesOn_0 : decode prog_9_method_24_code 0 = .ok (.iconst 0, 1) := by decide +kernel
theorem d_Md_goesOn_1 : decode prog_9_method_24_code 1 = .ok (.istore_n 3, 1) := by decide +kernel
theorem d_Md_goesOn_2 : decode prog_9_method_24_code 2 = .ok (.iconst 0, 1) := by decide +kernel
theorem d_Md_goesOn_3 : decode prog_9_method_24_code 3 = .ok (.istore 4, 2) := by decide +kernel
theorem d_Md_goesOn_5 : decode prog_9_method_24_code 5 = .ok (.iload 4, 2) := by decide +kernel
theorem d_Md_goesOn_7 : decode prog_9_method_24_code 7 = .ok (.iconst 4, 1) := by decide +kernel
theorem d_Md_goesOn_8 : decode prog_9_method_24_code 8 = .ok (.if_icmp .ge 98, 3) := by decide +kernel
theorem d_Md_goesOn_11 : decode prog_9_method_24_code 11 = .ok (.iload_n 1, 1) := by decide +kernel
theorem d_Md_goesOn_12 : decode prog_9_method_24_code 12 = .ok (.iload 4, 2) := by decide +kernel
theorem d_Md_goesOn_14 : decode prog_9_method_24_code 14 = .ok (.invokestatic 172, 3) := by decide +kernel
theorem d_Md_goesOn_17 : decode prog_9_method_24_code 17 = .ok (.istore 5, 2) := by decide +kernel
theorem d_Md_goesOn_19 : decode prog_9_method_24_code 19 = .ok (.iload_n 2, 1) := by decide +kernel
theorem d_Md_goesOn_20 : decode prog_9_method_24_code 20 = .ok (.iload 4, 2) := by decide +kernel
theorem d_Md_goesOn_22 : decode prog_9_method_24_code 22 = .ok (.ishr, 1) := by decide +kernel
theorem d_Md_goesOn_23 : decode prog_9_method_24_code 23 = .ok (.iconst 1, 1) := by decide +kernel
theorem d_Md_goesOn_24 : decode prog_9_method_24_code 24 = .ok (.iand, 1) := by decide +kernel
theorem d_Md_goesOn_25 : decode prog_9_method_24_code 25 = .ok (.iconst 1, 1) := by decide +kernel
theorem d_Md_goesOn_26 : decode prog_9_method_24_code 26 = .ok (.if_icmp .ne 7, 3) := by decide +kernel
theorem d_Md_goesOn_29 : decode prog_9_method_24_code 29 = .ok (.iconst 1, 1) := by decide +kernel
theorem d_Md_goesOn_30 : decode prog_9_method_24_code 30 = .ok (.goto 4, 3) := by decide +kernel
theorem d_Md_goesOn_33 : decode prog_9_method_24_code 33 = .ok (.iconst 0, 1) := by decide +kernel
theorem d_Md_goesOn_34 : decode prog_9_method_24_code 34 = .ok (.istore 6, 2) := by decide +kernel
theorem d_Md_goesOn_36 : decode prog_9_method_24_code 36 = .ok (.iload 5, 2) := by decide +kernel
theorem d_Md_goesOn_38 : decode prog_9_method_24_code 38 = .ok (.aload_n 0, 1) := by decide +kernel
theorem d_Md_goesOn_39 : decode prog_9_method_24_code 39 = .ok (.getfield 22, 3) := by decide +kernel
theorem d_Md_goesOn_42 : decode prog_9_method_24_code 42 = .ok (.iload 4, 2) := by decide +kernel
theorem d_Md_goesOn_44 : decode prog_9_method_24_code 44 = .ok (.iaload, 1) := by decide +kernel
theorem d_Md_goesOn_45 : decode prog_9_method_24_code 45 = .ok (.if_icmp .gt 17, 3) := by decide +kernel
theorem d_Md_goesOn_48 : decode prog_9_method_24_code 48 = .ok (.iload 6, 2) := by decide +kernel
theorem d_Md_goesOn_50 : decode prog_9_method_24_code 50 = .ok (.ifCond .eq 15, 3) := by decide +kernel
theorem d_Md_goesOn_53 : decode prog_9_method_24_code 53 = .ok (.iload 4, 2) := by decide +kernel
theorem d_Md_goesOn_55 : decode prog_9_method_24_code 55 = .ok (.aload_n 0, 1) := by decide +kernel
theorem d_Md_goesOn_56 : decode prog_9_method_24_code 56 = .ok (.getfield 93, 3) := by decide +kernel
theorem d_Md_goesOn_59 : decode prog_9_method_24_code 59 = .ok (.if_icmp .lt 6, 3) := by decide +kernel
theorem d_Md_goesOn_62 : decode prog_9_method_24_code 62 = .ok (.bipush (-9), 2) := by decide +kernel
theorem d_Md_goesOn_64 : decode prog_9_method_24_code 64 = .ok (.ireturn, 1) := by decide +kernel
theorem d_Md_goesOn_65 : decode prog_9_method_24_code 65 = .ok (.iconst 4, 1) := by decide +kernel
theorem d_Md_goesOn_66 : decode prog_9_method_24_code 66 = .ok (.iload_n 3, 1) := by decide +kernel
theorem d_Md_goesOn_67 : decode prog_9_method_24_code 67 = .ok (.imul, 1) := by decide +kernel
theorem d_Md_goesOn_68 : decode prog_9_method_24_code 68 = .ok (.iload 6, 2) := by decide +kernel
theorem d_Md_goesOn_70 : decode prog_9_method_24_code 70 = .ok (.ifCond .ne 8, 3) := by decide +kernel
theorem d_Md_goesOn_73 : decode prog_9_method_24_code 73 = .ok (.iload 5, 2) := by decide +kernel
theorem d_Md_goesOn_75 : decode prog_9_method_24_code 75 = .ok (.goto 23, 3) := by decide +kernel
theorem d_Md_goesOn_78 : decode prog_9_method_24_code 78 = .ok (.iload 5, 2) := by decide +kernel
theorem d_Md_goesOn_80 : decode prog_9_method_24_code 80 = .ok (.aload_n 0, 1) := by decide +kernel
theorem d_Md_goesOn_81 : decode prog_9_method_24_code 81 = .ok (.getfield 22, 3) := by decide +kernel
theorem d_Md_goesOn_84 : decode prog_9_method_24_code 84 = .ok (.iload 4, 2) := by decide +kernel
theorem d_Md_goesOn_86 : decode prog_9_method_24_code 86 = .ok (.iaload, 1) := by decide +kernel
theorem d_Md_goesOn_87 : decode prog_9_method_24_code 87 = .ok (.if_icmp .ne 7, 3) := by decide +kernel
theorem d_Md_goesOn_90 : decode prog_9_method_24_code 90 = .ok (.iconst 0, 1) := by decide +kernel
theorem d_Md_goesOn_91 : decode prog_9_method_24_code 91 = .ok (.goto 7, 3) := by decide +kernel
theorem d_Md_goesOn_94 : decode prog_9_method_24_code 94 = .ok (.iload 5, 2) := by decide +kernel
theorem d_Md_goesOn_96 : decode prog_9_method_24_code 96 = .ok (.iconst 1, 1) := by decide +kernel
theorem d_Md_goesOn_97 : decode prog_9_method_24_code 97 = .ok (.iadd, 1) := by decide +kernel
theorem d_Md_goesOn_98 : decode prog_9_method_24_code 98 = .ok (.iadd, 1) := by decide +kernel
theorem d_Md_goesOn_99 : decode prog_9_method_24_code 99 = .ok (.istore_n 3, 1) := by decide +kernel
theorem d_Md_goesOn_100 : decode prog_9_method_24_code 100 = .ok (.iinc 4 1, 3) := by decide +kernel
theorem d_Md_goesOn_103 : decode prog_9_method_24_code 103 = .ok (.goto (-98), 3) := by decide +kernel
theorem d_Md_goesOn_106 : decode prog_9_method_24_code 106 = .ok (.iload_n 3, 1) := by decide +kernel
theorem d_Md_goesOn_107 : decode prog_9_method_24_code 107 = .ok (.ireturn, 1) := by decide +kernel
abbrev y_Md_goesOn : MethodName := ⟨"LoadCyclesModel", "goesOn", "(II)I"⟩
theorem mi_Md_goesOn : miV y_Md_goesOn prog_9_method_24_code 7 (some .int) 2 := ⟨wd_936, wd_42, wd_72, wd_937, by decide, by decide, by decide +kernel⟩
def B_Md_goesOn_98 (x1 : Int32) (x2 : Int32) (σ : Sg) (K : Int32 → Prop) (r5 : Int32 → Int32 → Prop) (v4 : Int32) (vs0 : Int32) (vs1 : Int32) : Prop :=
  (∀ y3_99 : Int32, y3_99 = (vs1 + vs0) → r5 y3_99 (v4 + (1 : Int32)))
theorem t_Md_goesOn_98 {X : Bx} {Y : Yx} {x1 : Int32} {x2 : Int32} {v4 : Int32} {vs0 : Int32} {vs1 : Int32} {σ : Sg} {K : Int32 → Prop} {r5 : Int32 → Int32 → Prop} (hY : YD Y) (C : Cx X Y prog_9_method_24_code 7 "LoadCyclesModel" 1 21) (hr : (xh X).sig.returnType = some .int)  (H5 : ∀ (v3 : Int32) (v4 : Int32), r5 v3 v4 → St X Y 7 (QI X Y (fun r τ => τ = σ ∧ K r)) 5 [(0, .ref (ya Y 43)), (1, .int x1), (2, .int x2), (3, .int v3), (4, .int v4)] [] σ)  (h : B_Md_goesOn_98 x1 x2 σ K r5 v4 vs0 vs1) : St X Y 7 (QI X Y (fun r τ => τ = σ ∧ K r)) 98 [(0, .ref (ya Y 43)), (1, .int x1), (2, .int x2), (4, .int v4)] [.int vs0, .int vs1] σ := by
  unfold B_Md_goesOn_98 at h
  refine q_iadd (pc := 98) C d_Md_goesOn_98 ?_
  refine q_nmi (fun y3_99 ey3_99 => ?_)
  replace h := h y3_99 ey3_99
  refine q_istore_n (pc := 99) [(3, .int y3_99), (0, .ref (ya Y 43)), (1, .int x1), (2, .int x2), (4, .int v4)] C d_Md_goesOn_99 rfl (by decide) rfl ?_
  refine q_iinc (pc := 100) (v4 + (1 : Int32)) [(4, .int (v4 + (1 : Int32))), (3, .int y3_99), (0, .ref (ya Y 43)), (1, .int x1), (2, .int x2)] C d_Md_goesOn_100 4 rfl rfl (by decide) rfl ?_
  refine q_goto (pc := 103) 5 C d_Md_goesOn_103 (by decide) ?_
  refine q_sub [(0, .ref (ya Y 43)), (1, .int x1), (2, .int x2), (3, .int y3_99), (4, .int (v4 + (1 : Int32)))] [2, 3, 4, 1, 0] rfl ?_
  exact H5 y3_99 (v4 + (1 : Int32)) h
def B_Md_goesOn_65 (x1 : Int32) (x2 : Int32) (σ : Sg) (K : Int32 → Prop) (r5 : Int32 → Int32 → Prop) (v3 : Int32) (v4 : Int32) (v5 : Int32) (v6 : Int32) : Prop :=
  ((¬ v6 = 0 → (vp_in v4 4 ∧ ((¬ v5 = (σ 48 v4.toNatClampNeg) → B_Md_goesOn_98 x1 x2 σ K r5 v4 (v5 + (1 : Int32)) ((4 : Int32) * v3)) ∧ (v5 = (σ 48 v4.toNatClampNeg) → B_Md_goesOn_98 x1 x2 σ K r5 v4 (0 : Int32) ((4 : Int32) * v3))))) ∧ (v6 = 0 → B_Md_goesOn_98 x1 x2 σ K r5 v4 v5 ((4 : Int32) * v3)))
theorem t_Md_goesOn_65 {X : Bx} {Y : Yx} {x1 : Int32} {x2 : Int32} {v3 : Int32} {v4 : Int32} {v5 : Int32} {v6 : Int32} {σ : Sg} {K : Int32 → Prop} {r5 : Int32 → Int32 → Prop} (hY : YD Y) (C : Cx X Y prog_9_method_24_code 7 "LoadCyclesModel" 1 21) (hr : (xh X).sig.returnType = some .int)  (H5 : ∀ (v3 : Int32) (v4 : Int32), r5 v3 v4 → St X Y 7 (QI X Y (fun r τ => τ = σ ∧ K r)) 5 [(0, .ref (ya Y 43)), (1, .int x1), (2, .int x2), (3, .int v3), (4, .int v4)] [] σ)  (h : B_Md_goesOn_65 x1 x2 σ K r5 v3 v4 v5 v6) : St X Y 7 (QI X Y (fun r τ => τ = σ ∧ K r)) 65 [(0, .ref (ya Y 43)), (1, .int x1), (2, .int x2), (3, .int v3), (4, .int v4), (5, .int v5), (6, .int v6)] [] σ := by
  unfold B_Md_goesOn_65 at h
  refine q_iconst (pc := 65) (v := 4) C d_Md_goesOn_65 (by decide) ?_
  refine q_iload_n (pc := 66) C d_Md_goesOn_66 rfl 3 rfl ?_
  refine q_imul (pc := 67) C d_Md_goesOn_67 ?_
  refine q_iload (pc := 68) C d_Md_goesOn_68 6 rfl ?_
  obtain ⟨h5, h6⟩ := h
  refine q_if_ne (pc := 70) 78 C d_Md_goesOn_70 (by decide) (fun hc => ?_) (fun hc => ?_)
  · have h := h5 hc
    refine q_iload (pc := 78) C d_Md_goesOn_78 5 rfl ?_
    refine q_aload_n (pc := 80) C d_Md_goesOn_80 rfl 0 rfl ?_
    refine q_get (pc := 81) (c := 43) (ci := 7) (k := 7) (v := .ref (ya Y 48)) C rfl (by decide) (by decide) wd_740 rfl d_Md_goesOn_81 ?_
    refine q_iload (pc := 84) C d_Md_goesOn_84 4 rfl ?_
    obtain ⟨h2, h⟩ := h
    refine q_iald (pc := 86) (c := 48) C ⟨rfl, rfl⟩ h2 d_Md_goesOn_86 ?_
    obtain ⟨h3, h4⟩ := h
    refine q_icmp_ne (pc := 87) 94 C d_Md_goesOn_87 (by decide) (fun hc => ?_) (fun hc => ?_)
    · have h := h3 hc
      refine q_iload (pc := 94) C d_Md_goesOn_94 5 rfl ?_
      refine q_iconst (pc := 96) (v := 1) C d_Md_goesOn_96 (by decide) ?_
      refine q_iadd (pc := 97) C d_Md_goesOn_97 ?_
      refine q_sub [(0, .ref (ya Y 43)), (1, .int x1), (2, .int x2), (4, .int v4)] [0, 1, 2, 4] rfl ?_
      exact t_Md_goesOn_98 hY C hr H5 h
    have h := h4 hc
    refine q_iconst (pc := 90) (v := 0) C d_Md_goesOn_90 (by decide) ?_
    refine q_goto (pc := 91) 98 C d_Md_goesOn_91 (by decide) ?_
    refine q_sub [(0, .ref (ya Y 43)), (1, .int x1), (2, .int x2), (4, .int v4)] [0, 1, 2, 4] rfl ?_
    exact t_Md_goesOn_98 hY C hr H5 h
  have h := h6 hc
  refine q_iload (pc := 73) C d_Md_goesOn_73 5 rfl ?_
  refine q_goto (pc := 75) 98 C d_Md_goesOn_75 (by decide) ?_
  refine q_sub [(0, .ref (ya Y 43)), (1, .int x1), (2, .int x2), (4, .int v4)] [0, 1, 2, 4] rfl ?_
  exact t_Md_goesOn_98 hY C hr H5 h
def B_Md_goesOn_34 (x1 : Int32) (x2 : Int32) (σ : Sg) (K : Int32 → Prop) (r5 : Int32 → Int32 → Prop) (v3 : Int32) (v4 : Int32) (v5 : Int32) (vs0 : Int32) : Prop :=
  (vp_in v4 4 ∧ (((σ 48 v4.toNatClampNeg) < v5 → K (-9 : Int32)) ∧ (¬ (σ 48 v4.toNatClampNeg) < v5 → ((vs0 = 0 → B_Md_goesOn_65 x1 x2 σ K r5 v3 v4 v5 vs0) ∧ (¬ vs0 = 0 → ((v4 < (σ 43 5) → B_Md_goesOn_65 x1 x2 σ K r5 v3 v4 v5 vs0) ∧ (¬ v4 < (σ 43 5) → K (-9 : Int32))))))))
theorem t_Md_goesOn_34 {X : Bx} {Y : Yx} {x1 : Int32} {x2 : Int32} {v3 : Int32} {v4 : Int32} {v5 : Int32} {vs0 : Int32} {σ : Sg} {K : Int32 → Prop} {r5 : Int32 → Int32 → Prop} (hY : YD Y) (C : Cx X Y prog_9_method_24_code 7 "LoadCyclesModel" 1 21) (hr : (xh X).sig.returnType = some .int)  (H5 : ∀ (v3 : Int32) (v4 : Int32), r5 v3 v4 → St X Y 7 (QI X Y (fun r τ => τ = σ ∧ K r)) 5 [(0, .ref (ya Y 43)), (1, .int x1), (2, .int x2), (3, .int v3), (4, .int v4)] [] σ)  (h : B_Md_goesOn_34 x1 x2 σ K r5 v3 v4 v5 vs0) : St X Y 7 (QI X Y (fun r τ => τ = σ ∧ K r)) 34 [(0, .ref (ya Y 43)), (1, .int x1), (2, .int x2), (3, .int v3), (4, .int v4), (5, .int v5)] [.int vs0] σ := by
  unfold B_Md_goesOn_34 at h
  refine q_istore (pc := 34) [(6, .int vs0), (0, .ref (ya Y 43)), (1, .int x1), (2, .int x2), (3, .int v3), (4, .int v4), (5, .int v5)] C d_Md_goesOn_34 (by decide) rfl ?_
  refine q_iload (pc := 36) C d_Md_goesOn_36 6 rfl ?_
  refine q_aload_n (pc := 38) C d_Md_goesOn_38 rfl 1 rfl ?_
  refine q_get (pc := 39) (c := 43) (ci := 7) (k := 7) (v := .ref (ya Y 48)) C rfl (by decide) (by decide) wd_740 rfl d_Md_goesOn_39 ?_
  refine q_iload (pc := 42) C d_Md_goesOn_42 5 rfl ?_
  obtain ⟨h1, h⟩ := h
  refine q_iald (pc := 44) (c := 48) C ⟨rfl, rfl⟩ h1 d_Md_goesOn_44 ?_
  obtain ⟨h11, h12⟩ := h
  refine q_icmp_gt (pc := 45) 62 C d_Md_goesOn_45 (by decide) (fun hc => ?_) (fun hc => ?_)
  · have h := h11 hc
    refine q_bipush (pc := 62) (v := -9) C d_Md_goesOn_62 (by decide) ?_
    exact q_iret (pc := 64) C hr d_Md_goesOn_64 ⟨rfl, h⟩
  have h := h12 hc
  refine q_iload (pc := 48) C d_Md_goesOn_48 0 rfl ?_
  obtain ⟨h9, h10⟩ := h
  refine q_if_eq (pc := 50) 65 C d_Md_goesOn_50 (by decide) (fun hc => ?_) (fun hc => ?_)
  · have h := h9 hc
    refine q_sub [(0, .ref (ya Y 43)), (1, .int x1), (2, .int x2), (3, .int v3), (4, .int v4), (5, .int v5), (6, .int vs0)] [1, 2, 3, 4, 5, 6, 0] rfl ?_
    exact t_Md_goesOn_65 hY C hr H5 h
  have h := h10 hc
  refine q_iload (pc := 53) C d_Md_goesOn_53 5 rfl ?_
  refine q_aload_n (pc := 55) C d_Md_goesOn_55 rfl 1 rfl ?_
  refine q_get (pc := 56) (c := 43) (ci := 7) (k := 5) (v := .int (σ 43 5)) C rfl (by decide) (by decide) wd_738 rfl d_Md_goesOn_56 ?_
  obtain ⟨h7, h8⟩ := h
  refine q_icmp_lt (pc := 59) 65 C d_Md_goesOn_59 (by decide) (fun hc => ?_) (fun hc => ?_)
  · have h := h7 hc
    refine q_sub [(0, .ref (ya Y 43)), (1, .int x1), (2, .int x2), (3, .int v3), (4, .int v4), (5, .int v5), (6, .int vs0)] [1, 2, 3, 4, 5, 6, 0] rfl ?_
    exact t_Md_goesOn_65 hY C hr H5 h
  have h := h8 hc
  refine q_bipush (pc := 62) (v := -9) C d_Md_goesOn_62 (by decide) ?_
  exact q_iret (pc := 64) C hr d_Md_goesOn_64 ⟨rfl, h⟩
def L_Md_goesOn_5 (x1 : Int32) (x2 : Int32) (σ : Sg) (K : Int32 → Prop) : Nat → Int32 → Int32 → Prop
  | 0, _, _ => False
  | n + 1, v3, v4 =>
    (((4 : Int32) ≤ v4 → K v3) ∧ (¬ (4 : Int32) ≤ v4 → w_Md_digit x1 v4 σ (fun u14 => ((¬ ((x2 >>> (v4 &&& 31)) &&& (1 : Int32)) = (1 : Int32) → B_Md_goesOn_34 x1 x2 σ K (fun a0 a1 => L_Md_goesOn_5 x1 x2 σ K n a0 a1) v3 v4 u14 (0 : Int32)) ∧ (((x2 >>> (v4 &&& 31)) &&& (1 : Int32)) = (1 : Int32) → B_Md_goesOn_34 x1 x2 σ K (fun a0 a1 => L_Md_goesOn_5 x1 x2 σ K n a0 a1) v3 v4 u14 (1 : Int32))))))
theorem t_Md_goesOn_5 {X : Bx} {Y : Yx} {x1 : Int32} {x2 : Int32} {σ : Sg} {K : Int32 → Prop}  (hY : YD Y) (C : Cx X Y prog_9_method_24_code 7 "LoadCyclesModel" 1 21) (hr : (xh X).sig.returnType = some .int)  : ∀ (n : Nat) (v3 : Int32) (v4 : Int32), L_Md_goesOn_5 x1 x2 σ K n v3 v4 → St X Y 7 (QI X Y (fun r τ => τ = σ ∧ K r)) 5 [(0, .ref (ya Y 43)), (1, .int x1), (2, .int x2), (3, .int v3), (4, .int v4)] [] σ := by
  intro n
  induction n with
  | zero => intro v3 v4 h; exact h.elim
  | succ n ih =>
    intro v3 v4 h
    unfold L_Md_goesOn_5 at h
    refine q_iload (pc := 5) C d_Md_goesOn_5 4 rfl ?_
    refine q_iconst (pc := 7) (v := 4) C d_Md_goesOn_7 (by decide) ?_
    obtain ⟨h15, h16⟩ := h
    refine q_icmp_ge (pc := 8) 106 C d_Md_goesOn_8 (by decide) (fun hc => ?_) (fun hc => ?_)
    · have h := h15 hc
      refine q_iload_n (pc := 106) C d_Md_goesOn_106 rfl 3 rfl ?_
      exact q_iret (pc := 107) C hr d_Md_goesOn_107 ⟨rfl, h⟩
    have h := h16 hc
    refine q_iload_n (pc := 11) C d_Md_goesOn_11 rfl 1 rfl ?_
    refine q_iload (pc := 12) C d_Md_goesOn_12 4 rfl ?_
    refine q_callSIr (pc := 14) (st := []) C (m_Md_digit hY h) mi_Md_digit wd_931 rfl rfl (Nat.le_of_ble_eq_true rfl) (by decide) (by decide) d_Md_goesOn_14 (fun u14 h => ?_)
    refine q_istore (pc := 17) [(5, .int u14), (0, .ref (ya Y 43)), (1, .int x1), (2, .int x2), (3, .int v3), (4, .int v4)] C d_Md_goesOn_17 (by decide) rfl ?_
    refine q_iload_n (pc := 19) C d_Md_goesOn_19 rfl 3 rfl ?_
    refine q_iload (pc := 20) C d_Md_goesOn_20 5 rfl ?_
    refine q_ishr (pc := 22) C d_Md_goesOn_22 ?_
    refine q_iconst (pc := 23) (v := 1) C d_Md_goesOn_23 (by decide) ?_
    refine q_iand (pc := 24) C d_Md_goesOn_24 ?_
    refine q_iconst (pc := 25) (v := 1) C d_Md_goesOn_25 (by decide) ?_
    obtain ⟨h13, h14⟩ := h
    refine q_icmp_ne (pc := 26) 33 C d_Md_goesOn_26 (by decide) (fun hc => ?_) (fun hc => ?_)
    · have h := h13 hc
      refine q_iconst (pc := 33) (v := 0) C d_Md_goesOn_33 (by decide) ?_
      refine q_sub [(0, .ref (ya Y 43)), (1, .int x1), (2, .int x2), (3, .int v3), (4, .int v4), (5, .int u14)] [1, 2, 3, 4, 5, 0] rfl ?_
      exact t_Md_goesOn_34 hY C hr ih h
    have h := h14 hc
    refine q_iconst (pc := 29) (v := 1) C d_Md_goesOn_29 (by decide) ?_
    refine q_goto (pc := 30) 34 C d_Md_goesOn_30 (by decide) ?_
    refine q_sub [(0, .ref (ya Y 43)), (1, .int x1), (2, .int x2), (3, .int v3), (4, .int v4), (5, .int u14)] [1, 2, 3, 4, 5, 0] rfl ?_
    exact t_Md_goesOn_34 hY C hr ih h
def w_Md_goesOn (x1 : Int32) (x2 : Int32) (σ : Sg) (K : Int32 → Prop) : Prop :=
  (∃ n17 : Nat, L_Md_goesOn_5 x1 x2 σ K n17 (0 : Int32) (0 : Int32))
set_option maxHeartbeats 4000000 in
theorem m_Md_goesOn {Y : Yx} {x1 : Int32} {x2 : Int32} {σ : Sg} {K : Int32 → Prop} (hY : YD Y)  (h : w_Md_goesOn x1 x2 σ K) : MetI Y y_Md_goesOn prog_9_method_24_code 7 (.int) 1 21 [.ref (ya Y 43), .int x1, .int x2] σ (fun r τ => τ = σ ∧ K r) := by
  refine met_I [(0, .ref (ya Y 43)), (1, .int x1), (2, .int x2)] hY (by decide) (Nat.le_of_ble_eq_true rfl) rfl (fun X C hr => ?_)
  unfold w_Md_goesOn at h
  refine q_iconst (pc := 0) (v := 0) C d_Md_goesOn_0 (by decide) ?_
  refine q_istore_n (pc := 1) [(3, .int (0 : Int32)), (0, .ref (ya Y 43)), (1, .int x1), (2, .int x2)] C d_Md_goesOn_1 rfl (by decide) rfl ?_
  refine q_iconst (pc := 2) (v := 0) C d_Md_goesOn_2 (by decide) ?_
  refine q_istore (pc := 3) [(4, .int (0 : Int32)), (3, .int (0 : Int32)), (0, .ref (ya Y 43)), (1, .int x1), (2, .int x2)] C d_Md_goesOn_3 (by decide) rfl ?_
  obtain ⟨n17, h⟩ := h
  refine q_sub [(0, .ref (ya Y 43)), (1, .int x1), (2, .int x2), (3, .int (0 : Int32)), (4, .int (0 : Int32))] [2, 3, 4, 1, 0] rfl ?_
  exact t_Md_goesOn_5 hY C hr n17 (0 : Int32) (0 : Int32) h
theorem d_Md_prepare_0 : decode prog_9_method_26_code 0 = .ok (.iconst 0, 1) := by decide +kernel
theorem d_Md_prepare_1 : decode prog_9_method_26_code 1 = .ok (.istore_n 1, 1) := by decide +kernel
theorem d_Md_prepare_2 : decode prog_9_method_26_code 2 = .ok (.iload_n 1, 1) := by decide +kernel
theorem d_Md_prepare_3 : decode prog_9_method_26_code 3 = .ok (.sipush 256, 3) := by decide +kernel
theorem d_Md_prepare_6 : decode prog_9_method_26_code 6 = .ok (.if_icmp .ge 66, 3) := by decide +kernel
theorem d_Md_prepare_9 : decode prog_9_method_26_code 9 = .ok (.aload_n 0, 1) := by decide +kernel
theorem d_Md_prepare_10 : decode prog_9_method_26_code 10 = .ok (.getfield 40, 3) := by decide +kernel
theorem d_Md_prepare_13 : decode prog_9_method_26_code 13 = .ok (.iload_n 1, 1) := by decide +kernel
theorem d_Md_prepare_14 : decode prog_9_method_26_code 14 = .ok (.aload_n 0, 1) := by decide +kernel
theorem d_Md_prepare_15 : decode prog_9_method_26_code 15 = .ok (.iload_n 1, 1) := by decide +kernel
theorem d_Md_prepare_16 : decode prog_9_method_26_code 16 = .ok (.invokevirtual 175, 3) := by decide +kernel
theorem d_Md_prepare_19 : decode prog_9_method_26_code 19 = .ok (.iastore, 1) := by decide +kernel
theorem d_Md_prepare_20 : decode prog_9_method_26_code 20 = .ok (.aload_n 0, 1) := by decide +kernel
theorem d_Md_prepare_21 : decode prog_9_method_26_code 21 = .ok (.getfield 46, 3) := by decide +kernel
theorem d_Md_prepare_24 : decode prog_9_method_26_code 24 = .ok (.iload_n 1, 1) := by decide +kernel
theorem d_Md_prepare_25 : decode prog_9_method_26_code 25 = .ok (.bipush (-9), 2) := by decide +kernel
theorem d_Md_prepare_27 : decode prog_9_method_26_code 27 = .ok (.iastore, 1) := by decide +kernel
theorem d_Md_prepare_28 : decode prog_9_method_26_code 28 = .ok (.aload_n 0, 1) := by decide +kernel
theorem d_Md_prepare_29 : decode prog_9_method_26_code 29 = .ok (.getfield 49, 3) := by decide +kernel
theorem d_Md_prepare_32 : decode prog_9_method_26_code 32 = .ok (.iload_n 1, 1) := by decide +kernel
theorem d_Md_prepare_33 : decode prog_9_method_26_code 33 = .ok (.iconst 0, 1) := by decide +kernel
theorem d_Md_prepare_34 : decode prog_9_method_26_code 34 = .ok (.iastore, 1) := by decide +kernel
theorem d_Md_prepare_35 : decode prog_9_method_26_code 35 = .ok (.iconst 0, 1) := by decide +kernel
theorem d_Md_prepare_36 : decode prog_9_method_26_code 36 = .ok (.istore_n 2, 1) := by decide +kernel
theorem d_Md_prepare_37 : decode prog_9_method_26_code 37 = .ok (.iload_n 2, 1) := by decide +kernel
theorem d_Md_prepare_38 : decode prog_9_method_26_code 38 = .ok (.bipush 16, 2) := by decide +kernel
theorem d_Md_prepare_40 : decode prog_9_method_26_code 40 = .ok (.if_icmp .ge 26, 3) := by decide +kernel
theorem d_Md_prepare_43 : decode prog_9_method_26_code 43 = .ok (.aload_n 0, 1) := by decide +kernel
theorem d_Md_prepare_44 : decode prog_9_method_26_code 44 = .ok (.getfield 43, 3) := by decide +kernel
theorem d_Md_prepare_47 : decode prog_9_method_26_code 47 = .ok (.bipush 16, 2) := by decide +kernel
theorem d_Md_prepare_49 : decode prog_9_method_26_code 49 = .ok (.iload_n 1, 1) := by decide +kernel
theorem d_Md_prepare_50 : decode prog_9_method_26_code 50 = .ok (.imul, 1) := by decide +kernel
theorem d_Md_prepare_51 : decode prog_9_method_26_code 51 = .ok (.iload_n 2, 1) := by decide +kernel
theorem d_Md_prepare_52 : decode prog_9_method_26_code 52 = .ok (.iadd, 1) := by decide +kernel
theorem d_Md_prepare_53 : decode prog_9_method_26_code 53 = .ok (.aload_n 0, 1) := by decide +kernel
theorem d_Md_prepare_54 : decode prog_9_method_26_code 54 = .ok (.iload_n 1, 1) := by decide +kernel
theorem d_Md_prepare_55 : decode prog_9_method_26_code 55 = .ok (.iload_n 2, 1) := by decide +kernel
theorem d_Md_prepare_56 : decode prog_9_method_26_code 56 = .ok (.invokevirtual 178, 3) := by decide +kernel
theorem d_Md_prepare_59 : decode prog_9_method_26_code 59 = .ok (.iastore, 1) := by decide +kernel
theorem d_Md_prepare_60 : decode prog_9_method_26_code 60 = .ok (.iinc 2 1, 3) := by decide +kernel
theorem d_Md_prepare_63 : decode prog_9_method_26_code 63 = .ok (.goto (-26), 3) := by decide +kernel
theorem d_Md_prepare_66 : decode prog_9_method_26_code 66 = .ok (.iinc 1 1, 3) := by decide +kernel
theorem d_Md_prepare_69 : decode prog_9_method_26_code 69 = .ok (.goto (-67), 3) := by decide +kernel
theorem d_Md_prepare_72 : decode prog_9_method_26_code 72 = .ok (.aload_n 0, 1) := by decide +kernel
theorem d_Md_prepare_73 : decode prog_9_method_26_code 73 = .ok (.getfield 46, 3) := by decide +kernel
theorem d_Md_prepare_76 : decode prog_9_method_26_code 76 = .ok (.iconst 0, 1) := by decide +kernel
theorem d_Md_prepare_77 : decode prog_9_method_26_code 77 = .ok (.iconst 0, 1) := by decide +kernel
theorem d_Md_prepare_78 : decode prog_9_method_26_code 78 = .ok (.iastore, 1) := by decide +kernel
theorem d_Md_prepare_79 : decode prog_9_method_26_code 79 = .ok (.return_, 1) := by decide +kernel
abbrev y_Md_prepare : MethodName := ⟨"LoadCyclesModel", "prepare", "()V"⟩
theorem mi_Md_prepare : miV y_Md_prepare prog_9_method_26_code 3 none 0 := ⟨wd_925, wd_40, wd_72, wd_926, by decide, by decide, by decide +kernel⟩
def L_Md_prepare_37 (v1 : Int32) (K : Sg → Prop) (r2 : Int32 → Sg → Prop) : Nat → Int32 → Sg → Prop
  | 0, _, _ => False
  | n + 1, v2, σ =>
    (((16 : Int32) ≤ v2 → r2 (v1 + (1 : Int32)) σ) ∧ (¬ (16 : Int32) ≤ v2 → w_Md_goesOn v1 v2 σ (fun u56 => (vp_in (((16 : Int32) * v1) + v2) 4096 ∧ (∀ τ59 : Sg, τ59 = s2 σ 55 (((16 : Int32) * v1) + v2).toNatClampNeg u56 → L_Md_prepare_37 v1 K r2 n (v2 + (1 : Int32)) τ59)))))
theorem t_Md_prepare_37 {X : Bx} {Y : Yx} {v1 : Int32} {K : Sg → Prop} {r2 : Int32 → Sg → Prop} (hY : YD Y) (C : Cx X Y prog_9_method_26_code 3 "LoadCyclesModel" 2 47) (hr : (xh X).sig.returnType = none)  (H2 : ∀ (v1 : Int32) (σ : Sg), r2 v1 σ → St X Y 3 (QV X Y K) 2 [(0, .ref (ya Y 43)), (1, .int v1)] [] σ) : ∀ (n : Nat) (v2 : Int32) (σ : Sg), L_Md_prepare_37 v1 K r2 n v2 σ → St X Y 3 (QV X Y K) 37 [(0, .ref (ya Y 43)), (1, .int v1), (2, .int v2)] [] σ := by
  intro n
  induction n with
  | zero => intro v2 σ h; exact h.elim
  | succ n ih =>
    intro v2 σ h
    unfold L_Md_prepare_37 at h
    refine q_iload_n (pc := 37) C d_Md_prepare_37 rfl 2 rfl ?_
    refine q_bipush (pc := 38) (v := 16) C d_Md_prepare_38 (by decide) ?_
    obtain ⟨h6, h7⟩ := h
    refine q_icmp_ge (pc := 40) 66 C d_Md_prepare_40 (by decide) (fun hc => ?_) (fun hc => ?_)
    · have h := h6 hc
      refine q_iinc (pc := 66) (v1 + (1 : Int32)) [(1, .int (v1 + (1 : Int32))), (0, .ref (ya Y 43)), (2, .int v2)] C d_Md_prepare_66 1 rfl rfl (by decide) rfl ?_
      refine q_goto (pc := 69) 2 C d_Md_prepare_69 (by decide) ?_
      refine q_sub [(0, .ref (ya Y 43)), (1, .int (v1 + (1 : Int32)))] [1, 0] rfl ?_
      exact H2 (v1 + (1 : Int32)) σ h
    have h := h7 hc
    refine q_aload_n (pc := 43) C d_Md_prepare_43 rfl 0 rfl ?_
    refine q_get (pc := 44) (c := 43) (ci := 7) (k := 19) (v := .ref (ya Y 55)) C rfl (by decide) (by decide) wd_752 rfl d_Md_prepare_44 ?_
    refine q_bipush (pc := 47) (v := 16) C d_Md_prepare_47 (by decide) ?_
    refine q_iload_n (pc := 49) C d_Md_prepare_49 rfl 1 rfl ?_
    refine q_imul (pc := 50) C d_Md_prepare_50 ?_
    refine q_iload_n (pc := 51) C d_Md_prepare_51 rfl 2 rfl ?_
    refine q_iadd (pc := 52) C d_Md_prepare_52 ?_
    refine q_aload_n (pc := 53) C d_Md_prepare_53 rfl 0 rfl ?_
    refine q_iload_n (pc := 54) C d_Md_prepare_54 rfl 1 rfl ?_
    refine q_iload_n (pc := 55) C d_Md_prepare_55 rfl 2 rfl ?_
    refine q_callVIr (pc := 56) (st := [.int (((16 : Int32) * v1) + v2), .ref (ya Y 55)]) (d := 43) C (m_Md_goesOn hY h) mi_Md_goesOn rfl (by decide) rfl wd_934 rfl rfl (Nat.le_of_ble_eq_true rfl) (by decide) (by decide) d_Md_prepare_56 (fun u56 h => ?_)
    obtain ⟨h5, h⟩ := h
    refine q_iast (pc := 59) (c := 55) C ⟨rfl, rfl⟩ h5 d_Md_prepare_59 ?_
    refine q_nms (fun τ59 eτ59 => ?_)
    replace h := h τ59 eτ59
    refine q_iinc (pc := 60) (v2 + (1 : Int32)) [(2, .int (v2 + (1 : Int32))), (0, .ref (ya Y 43)), (1, .int v1)] C d_Md_prepare_60 2 rfl rfl (by decide) rfl ?_
    refine q_goto (pc := 63) 37 C d_Md_prepare_63 (by decide) ?_
    refine q_sub [(0, .ref (ya Y 43)), (1, .int v1), (2, .int (v2 + (1 : Int32)))] [1, 2, 0] rfl ?_
    exact ih (v2 + (1 : Int32)) τ59 h
def L_Md_prepare_2 (K : Sg → Prop) : Nat → Int32 → Sg → Prop
  | 0, _, _ => False
  | n + 1, v1, σ =>
    (((256 : Int32) ≤ v1 → (vp_in (0 : Int32) 256 ∧ (∀ τ78 : Sg, τ78 = s2 σ 56 (0 : Int32).toNatClampNeg (0 : Int32) → K τ78))) ∧ (¬ (256 : Int32) ≤ v1 → w_Md_powerOfRow v1 σ (fun u16 => (vp_in v1 256 ∧ (∀ τ19 : Sg, τ19 = s2 σ 54 v1.toNatClampNeg u16 → (vp_in v1 256 ∧ (∀ τ27 : Sg, τ27 = s2 τ19 56 v1.toNatClampNeg (-9 : Int32) → (vp_in v1 256 ∧ (∀ τ34 : Sg, τ34 = s2 τ27 57 v1.toNatClampNeg (0 : Int32) → (∃ n8 : Nat, L_Md_prepare_37 v1 K (fun a0 a1 => L_Md_prepare_2 K n a0 a1) n8 (0 : Int32) τ34))))))))))
theorem t_Md_prepare_2 {X : Bx} {Y : Yx}  {K : Sg → Prop}  (hY : YD Y) (C : Cx X Y prog_9_method_26_code 3 "LoadCyclesModel" 2 47) (hr : (xh X).sig.returnType = none)  : ∀ (n : Nat) (v1 : Int32) (σ : Sg), L_Md_prepare_2 K n v1 σ → St X Y 3 (QV X Y K) 2 [(0, .ref (ya Y 43)), (1, .int v1)] [] σ := by
  intro n
  induction n with
  | zero => intro v1 σ h; exact h.elim
  | succ n ih =>
    intro v1 σ h
    unfold L_Md_prepare_2 at h
    refine q_iload_n (pc := 2) C d_Md_prepare_2 rfl 1 rfl ?_
    refine q_sipush (pc := 3) (v := 256) C d_Md_prepare_3 (by decide) ?_
    obtain ⟨h9, h10⟩ := h
    refine q_icmp_ge (pc := 6) 72 C d_Md_prepare_6 (by decide) (fun hc => ?_) (fun hc => ?_)
    · have h := h9 hc
      refine q_aload_n (pc := 72) C d_Md_prepare_72 rfl 0 rfl ?_
      refine q_get (pc := 73) (c := 43) (ci := 7) (k := 20) (v := .ref (ya Y 56)) C rfl (by decide) (by decide) wd_753 rfl d_Md_prepare_73 ?_
      refine q_iconst (pc := 76) (v := 0) C d_Md_prepare_76 (by decide) ?_
      refine q_iconst (pc := 77) (v := 0) C d_Md_prepare_77 (by decide) ?_
      obtain ⟨h1, h⟩ := h
      refine q_iast (pc := 78) (c := 56) C ⟨rfl, rfl⟩ h1 d_Md_prepare_78 ?_
      refine q_nms (fun τ78 eτ78 => ?_)
      replace h := h τ78 eτ78
      exact q_vret (pc := 79) C hr d_Md_prepare_79 h
    have h := h10 hc
    refine q_aload_n (pc := 9) C d_Md_prepare_9 rfl 0 rfl ?_
    refine q_get (pc := 10) (c := 43) (ci := 7) (k := 18) (v := .ref (ya Y 54)) C rfl (by decide) (by decide) wd_751 rfl d_Md_prepare_10 ?_
    refine q_iload_n (pc := 13) C d_Md_prepare_13 rfl 1 rfl ?_
    refine q_aload_n (pc := 14) C d_Md_prepare_14 rfl 0 rfl ?_
    refine q_iload_n (pc := 15) C d_Md_prepare_15 rfl 1 rfl ?_
    refine q_callVIr (pc := 16) (st := [.int v1, .ref (ya Y 54)]) (d := 43) C (m_Md_powerOfRow hY h) mi_Md_powerOfRow rfl (by decide) rfl wd_927 rfl rfl (Nat.le_of_ble_eq_true rfl) (by decide) (by decide) d_Md_prepare_16 (fun u16 h => ?_)
    obtain ⟨h2, h⟩ := h
    refine q_iast (pc := 19) (c := 54) C ⟨rfl, rfl⟩ h2 d_Md_prepare_19 ?_
    refine q_nms (fun τ19 eτ19 => ?_)
    replace h := h τ19 eτ19
    refine q_aload_n (pc := 20) C d_Md_prepare_20 rfl 0 rfl ?_
    refine q_get (pc := 21) (c := 43) (ci := 7) (k := 20) (v := .ref (ya Y 56)) C rfl (by decide) (by decide) wd_753 rfl d_Md_prepare_21 ?_
    refine q_iload_n (pc := 24) C d_Md_prepare_24 rfl 1 rfl ?_
    refine q_bipush (pc := 25) (v := -9) C d_Md_prepare_25 (by decide) ?_
    obtain ⟨h3, h⟩ := h
    refine q_iast (pc := 27) (c := 56) C ⟨rfl, rfl⟩ h3 d_Md_prepare_27 ?_
    refine q_nms (fun τ27 eτ27 => ?_)
    replace h := h τ27 eτ27
    refine q_aload_n (pc := 28) C d_Md_prepare_28 rfl 0 rfl ?_
    refine q_get (pc := 29) (c := 43) (ci := 7) (k := 21) (v := .ref (ya Y 57)) C rfl (by decide) (by decide) wd_754 rfl d_Md_prepare_29 ?_
    refine q_iload_n (pc := 32) C d_Md_prepare_32 rfl 1 rfl ?_
    refine q_iconst (pc := 33) (v := 0) C d_Md_prepare_33 (by decide) ?_
    obtain ⟨h4, h⟩ := h
    refine q_iast (pc := 34) (c := 57) C ⟨rfl, rfl⟩ h4 d_Md_prepare_34 ?_
    refine q_nms (fun τ34 eτ34 => ?_)
    replace h := h τ34 eτ34
    refine q_iconst (pc := 35) (v := 0) C d_Md_prepare_35 (by decide) ?_
    refine q_istore_n (pc := 36) [(2, .int (0 : Int32)), (0, .ref (ya Y 43)), (1, .int v1)] C d_Md_prepare_36 rfl (by decide) rfl ?_
    obtain ⟨n8, h⟩ := h
    refine q_sub [(0, .ref (ya Y 43)), (1, .int v1), (2, .int (0 : Int32))] [1, 2, 0] rfl ?_
    exact t_Md_prepare_37 hY C hr ih n8 (0 : Int32) τ34 h
def w_Md_prepare  (σ : Sg) (K : Sg → Prop) : Prop :=
  (∃ n11 : Nat, L_Md_prepare_2 K n11 (0 : Int32) σ)
set_option maxHeartbeats 4000000 in
theorem m_Md_prepare {Y : Yx}  {σ : Sg} {K : Sg → Prop} (hY : YD Y)  (h : w_Md_prepare σ K) : MetV Y y_Md_prepare prog_9_method_26_code 3 2 47 [.ref (ya Y 43)] σ K := by
  refine met_V [(0, .ref (ya Y 43))] hY (by decide) (Nat.le_of_ble_eq_true rfl) rfl (fun X C hr => ?_)
  unfold w_Md_prepare at h
  refine q_iconst (pc := 0) (v := 0) C d_Md_prepare_0 (by decide) ?_
  refine q_istore_n (pc := 1) [(1, .int (0 : Int32)), (0, .ref (ya Y 43))] C d_Md_prepare_1 rfl (by decide) rfl ?_
  obtain ⟨n11, h⟩ := h
  refine q_sub [(0, .ref (ya Y 43)), (1, .int (0 : Int32))] [1, 0] rfl ?_
  exact t_Md_prepare_2 hY C hr n11 (0 : Int32) σ h
theorem d_Md_sizeOf_0 : decode prog_9_method_25_code 0 = .ok (.iload_n 0, 1) := by decide +kernel
theorem d_Md_sizeOf_1 : decode prog_9_method_25_code 1 = .ok (.iconst 1, 1) := by decide +kernel
theorem d_Md_sizeOf_2 : decode prog_9_method_25_code 2 = .ok (.iand, 1) := by decide +kernel
theorem d_Md_sizeOf_3 : decode prog_9_method_25_code 3 = .ok (.iload_n 0, 1) := by decide +kernel
theorem d_Md_sizeOf_4 : decode prog_9_method_25_code 4 = .ok (.iconst 1, 1) := by decide +kernel
theorem d_Md_sizeOf_5 : decode prog_9_method_25_code 5 = .ok (.ishr, 1) := by decide +kernel
theorem d_Md_sizeOf_6 : decode prog_9_method_25_code 6 = .ok (.iconst 1, 1) := by decide +kernel
theorem d_Md_sizeOf_7 : decode prog_9_method_25_code 7 = .ok (.iand, 1) := by decide +kernel
theorem d_Md_sizeOf_8 : decode prog_9_method_25_code 8 = .ok (.iadd, 1) := by decide +kernel
theorem d_Md_sizeOf_9 : decode prog_9_method_25_code 9 = .ok (.iload_n 0, 1) := by decide +kernel
theorem d_Md_sizeOf_10 : decode prog_9_method_25_code 10 = .ok (.iconst 2, 1) := by decide +kernel
theorem d_Md_sizeOf_11 : decode prog_9_method_25_code 11 = .ok (.ishr, 1) := by decide +kernel
theorem d_Md_sizeOf_12 : decode prog_9_method_25_code 12 = .ok (.iconst 1, 1) := by decide +kernel
theorem d_Md_sizeOf_13 : decode prog_9_method_25_code 13 = .ok (.iand, 1) := by decide +kernel
theorem d_Md_sizeOf_14 : decode prog_9_method_25_code 14 = .ok (.iadd, 1) := by decide +kernel
theorem d_Md_sizeOf_15 : decode prog_9_method_25_code 15 = .ok (.iload_n 0, 1) := by decide +kernel
theorem d_Md_sizeOf_16 : decode prog_9_method_25_code 16 = .ok (.iconst 3, 1) := by decide +kernel
theorem d_Md_sizeOf_17 : decode prog_9_method_25_code 17 = .ok (.ishr, 1) := by decide +kernel
theorem d_Md_sizeOf_18 : decode prog_9_method_25_code 18 = .ok (.iconst 1, 1) := by decide +kernel
theorem d_Md_sizeOf_19 : decode prog_9_method_25_code 19 = .ok (.iand, 1) := by decide +kernel
theorem d_Md_sizeOf_20 : decode prog_9_method_25_code 20 = .ok (.iadd, 1) := by decide +kernel
theorem d_Md_sizeOf_21 : decode prog_9_method_25_code 21 = .ok (.ireturn, 1) := by decide +kernel
abbrev y_Md_sizeOf : MethodName := ⟨"LoadCyclesModel", "sizeOf", "(I)I"⟩
theorem mi_Md_sizeOf : miS y_Md_sizeOf prog_9_method_25_code 1 (some .int) 1 := ⟨wd_943, wd_72, wd_944, by decide, by decide, by decide +kernel⟩
def w_Md_sizeOf (x0 : Int32) (σ : Sg) (K : Int32 → Prop) : Prop :=
  K ((((x0 &&& (1 : Int32)) + ((x0 >>> ((1 : Int32) &&& 31)) &&& (1 : Int32))) + ((x0 >>> ((2 : Int32) &&& 31)) &&& (1 : Int32))) + ((x0 >>> ((3 : Int32) &&& 31)) &&& (1 : Int32)))
set_option maxHeartbeats 4000000 in
theorem m_Md_sizeOf {Y : Yx} {x0 : Int32} {σ : Sg} {K : Int32 → Prop} (hY : YD Y)  (h : w_Md_sizeOf x0 σ K) : MetI Y y_Md_sizeOf prog_9_method_25_code 1 (.int) 0 0 [.int x0] σ (fun r τ => τ = σ ∧ K r) := by
  refine met_I [(0, .int x0)] hY (by decide) (Nat.le_of_ble_eq_true rfl) rfl (fun X C hr => ?_)
  unfold w_Md_sizeOf at h
  refine q_iload_n (pc := 0) C d_Md_sizeOf_0 rfl 0 rfl ?_
  refine q_iconst (pc := 1) (v := 1) C d_Md_sizeOf_1 (by decide) ?_
  refine q_iand (pc := 2) C d_Md_sizeOf_2 ?_
  refine q_iload_n (pc := 3) C d_Md_sizeOf_3 rfl 0 rfl ?_
  refine q_iconst (pc := 4) (v := 1) C d_Md_sizeOf_4 (by decide) ?_
  refine q_ishr (pc := 5) C d_Md_sizeOf_5 ?_
  refine q_iconst (pc := 6) (v := 1) C d_Md_sizeOf_6 (by decide) ?_
  refine q_iand (pc := 7) C d_Md_sizeOf_7 ?_
  refine q_iadd (pc := 8) C d_Md_sizeOf_8 ?_
  refine q_iload_n (pc := 9) C d_Md_sizeOf_9 rfl 0 rfl ?_
  refine q_iconst (pc := 10) (v := 2) C d_Md_sizeOf_10 (by decide) ?_
  refine q_ishr (pc := 11) C d_Md_sizeOf_11 ?_
  refine q_iconst (pc := 12) (v := 1) C d_Md_sizeOf_12 (by decide) ?_
  refine q_iand (pc := 13) C d_Md_sizeOf_13 ?_
  refine q_iadd (pc := 14) C d_Md_sizeOf_14 ?_
  refine q_iload_n (pc := 15) C d_Md_sizeOf_15 rfl 0 rfl ?_
  refine q_iconst (pc := 16) (v := 3) C d_Md_sizeOf_16 (by decide) ?_
  refine q_ishr (pc := 17) C d_Md_sizeOf_17 ?_
  refine q_iconst (pc := 18) (v := 1) C d_Md_sizeOf_18 (by decide) ?_
  refine q_iand (pc := 19) C d_Md_sizeOf_19 ?_
  refine q_iadd (pc := 20) C d_Md_sizeOf_20 ?_
  exact q_iret (pc := 21) C hr d_Md_sizeOf_21 ⟨rfl, h⟩
theorem d_Md_isBetter_0 : decode prog_9_method_27_code 0 = .ok (.aload_n 0, 1) := by decide +kernel
theorem d_Md_isBetter_1 : decode prog_9_method_27_code 1 = .ok (.getfield 52, 3) := by decide +kernel
theorem d_Md_isBetter_4 : decode prog_9_method_27_code 4 = .ok (.iload_n 1, 1) := by decide +kernel
theorem d_Md_isBetter_5 : decode prog_9_method_27_code 5 = .ok (.iaload, 1) := by decide +kernel
theorem d_Md_isBetter_6 : decode prog_9_method_27_code 6 = .ok (.istore 5, 2) := by decide +kernel
theorem d_Md_isBetter_8 : decode prog_9_method_27_code 8 = .ok (.iload 5, 2) := by decide +kernel
theorem d_Md_isBetter_10 : decode prog_9_method_27_code 10 = .ok (.bipush (-9), 2) := by decide +kernel
theorem d_Md_isBetter_12 : decode prog_9_method_27_code 12 = .ok (.if_icmp .eq 42, 3) := by decide +kernel
theorem d_Md_isBetter_15 : decode prog_9_method_27_code 15 = .ok (.iload_n 2, 1) := by decide +kernel
theorem d_Md_isBetter_16 : decode prog_9_method_27_code 16 = .ok (.iload 5, 2) := by decide +kernel
theorem d_Md_isBetter_18 : decode prog_9_method_27_code 18 = .ok (.if_icmp .lt 36, 3) := by decide +kernel
theorem d_Md_isBetter_21 : decode prog_9_method_27_code 21 = .ok (.iload_n 2, 1) := by decide +kernel
theorem d_Md_isBetter_22 : decode prog_9_method_27_code 22 = .ok (.iload 5, 2) := by decide +kernel
theorem d_Md_isBetter_24 : decode prog_9_method_27_code 24 = .ok (.if_icmp .ne 34, 3) := by decide +kernel
theorem d_Md_isBetter_27 : decode prog_9_method_27_code 27 = .ok (.aload_n 0, 1) := by decide +kernel
theorem d_Md_isBetter_28 : decode prog_9_method_27_code 28 = .ok (.getfield 49, 3) := by decide +kernel
theorem d_Md_isBetter_31 : decode prog_9_method_27_code 31 = .ok (.iload_n 3, 1) := by decide +kernel
theorem d_Md_isBetter_32 : decode prog_9_method_27_code 32 = .ok (.iaload, 1) := by decide +kernel
theorem d_Md_isBetter_33 : decode prog_9_method_27_code 33 = .ok (.aload_n 0, 1) := by decide +kernel
theorem d_Md_isBetter_34 : decode prog_9_method_27_code 34 = .ok (.getfield 49, 3) := by decide +kernel
theorem d_Md_isBetter_37 : decode prog_9_method_27_code 37 = .ok (.aload_n 0, 1) := by decide +kernel
theorem d_Md_isBetter_38 : decode prog_9_method_27_code 38 = .ok (.getfield 61, 3) := by decide +kernel
theorem d_Md_isBetter_41 : decode prog_9_method_27_code 41 = .ok (.sipush 256, 3) := by decide +kernel
theorem d_Md_isBetter_44 : decode prog_9_method_27_code 44 = .ok (.iload 4, 2) := by decide +kernel
theorem d_Md_isBetter_46 : decode prog_9_method_27_code 46 = .ok (.imul, 1) := by decide +kernel
theorem d_Md_isBetter_47 : decode prog_9_method_27_code 47 = .ok (.iload_n 1, 1) := by decide +kernel
theorem d_Md_isBetter_48 : decode prog_9_method_27_code 48 = .ok (.iadd, 1) := by decide +kernel
theorem d_Md_isBetter_49 : decode prog_9_method_27_code 49 = .ok (.iaload, 1) := by decide +kernel
theorem d_Md_isBetter_50 : decode prog_9_method_27_code 50 = .ok (.iaload, 1) := by decide +kernel
theorem d_Md_isBetter_51 : decode prog_9_method_27_code 51 = .ok (.if_icmp .ge 7, 3) := by decide +kernel
theorem d_Md_isBetter_54 : decode prog_9_method_27_code 54 = .ok (.iconst 1, 1) := by decide +kernel
theorem d_Md_isBetter_55 : decode prog_9_method_27_code 55 = .ok (.goto 4, 3) := by decide +kernel
theorem d_Md_isBetter_58 : decode prog_9_method_27_code 58 = .ok (.iconst 0, 1) := by decide +kernel
theorem d_Md_isBetter_59 : decode prog_9_method_27_code 59 = .ok (.ireturn, 1) := by decide +kernel
abbrev y_Md_isBetter : MethodName := ⟨"LoadCyclesModel", "isBetter", "(IIII)Z"⟩
theorem mi_Md_isBetter : miV y_Md_isBetter prog_9_method_27_code 6 (some .boolean) 4 := ⟨wd_947, wd_44, wd_72, wd_948, by decide, by decide, by decide +kernel⟩
def w_Md_isBetter (x1 : Int32) (x2 : Int32) (x3 : Int32) (x4 : Int32) (σ : Sg) (K : Int32 → Prop) : Prop :=
  (vp_in x1 256 ∧ (∀ y5_6 : Int32, y5_6 = (σ 58 x1.toNatClampNeg) → ((y5_6 = (-9 : Int32) → K (1 : Int32)) ∧ (¬ y5_6 = (-9 : Int32) → ((x2 < y5_6 → K (1 : Int32)) ∧ (¬ x2 < y5_6 → ((¬ x2 = y5_6 → K (0 : Int32)) ∧ (x2 = y5_6 → (vp_in x3 256 ∧ (vp_in (((256 : Int32) * x4) + x1) 5120 ∧ (vp_in (σ 61 (((256 : Int32) * x4) + x1).toNatClampNeg) 256 ∧ (((σ 57 (σ 61 (((256 : Int32) * x4) + x1).toNatClampNeg).toNatClampNeg) ≤ (σ 57 x3.toNatClampNeg) → K (0 : Int32)) ∧ (¬ (σ 57 (σ 61 (((256 : Int32) * x4) + x1).toNatClampNeg).toNatClampNeg) ≤ (σ 57 x3.toNatClampNeg) → K (1 : Int32))))))))))))))
set_option maxHeartbeats 4000000 in
theorem m_Md_isBetter {Y : Yx} {x1 : Int32} {x2 : Int32} {x3 : Int32} {x4 : Int32} {σ : Sg} {K : Int32 → Prop} (hY : YD Y)  (h : w_Md_isBetter x1 x2 x3 x4 σ K) : MetI Y y_Md_isBetter prog_9_method_27_code 6 (.boolean) 0 0 [.ref (ya Y 43), .int x1, .int x2, .int x3, .int x4] σ (fun r τ => τ = σ ∧ K r) := by
  refine met_I [(0, .ref (ya Y 43)), (1, .int x1), (2, .int x2), (3, .int x3), (4, .int x4)] hY (by decide) (Nat.le_of_ble_eq_true rfl) rfl (fun X C hr => ?_)
  unfold w_Md_isBetter at h
  refine q_aload_n (pc := 0) C d_Md_isBetter_0 rfl 0 rfl ?_
  refine q_get (pc := 1) (c := 43) (ci := 7) (k := 22) (v := .ref (ya Y 58)) C rfl (by decide) (by decide) wd_755 rfl d_Md_isBetter_1 ?_
  refine q_iload_n (pc := 4) C d_Md_isBetter_4 rfl 1 rfl ?_
  obtain ⟨h1, h⟩ := h
  refine q_iald (pc := 5) (c := 58) C ⟨rfl, rfl⟩ h1 d_Md_isBetter_5 ?_
  refine q_nmi (fun y5_6 ey5_6 => ?_)
  replace h := h y5_6 ey5_6
  refine q_istore (pc := 6) [(5, .int y5_6), (0, .ref (ya Y 43)), (1, .int x1), (2, .int x2), (3, .int x3), (4, .int x4)] C d_Md_isBetter_6 (by decide) rfl ?_
  refine q_iload (pc := 8) C d_Md_isBetter_8 0 rfl ?_
  refine q_bipush (pc := 10) (v := -9) C d_Md_isBetter_10 (by decide) ?_
  obtain ⟨h11, h12⟩ := h
  refine q_icmp_eq (pc := 12) 54 C d_Md_isBetter_12 (by decide) (fun hc => ?_) (fun hc => ?_)
  · have h := h11 hc
    refine q_iconst (pc := 54) (v := 1) C d_Md_isBetter_54 (by decide) ?_
    refine q_goto (pc := 55) 59 C d_Md_isBetter_55 (by decide) ?_
    exact q_zret (pc := 59) C hr d_Md_isBetter_59 bz1 ⟨rfl, h⟩
  have h := h12 hc
  refine q_iload_n (pc := 15) C d_Md_isBetter_15 rfl 3 rfl ?_
  refine q_iload (pc := 16) C d_Md_isBetter_16 0 rfl ?_
  obtain ⟨h9, h10⟩ := h
  refine q_icmp_lt (pc := 18) 54 C d_Md_isBetter_18 (by decide) (fun hc => ?_) (fun hc => ?_)
  · have h := h9 hc
    refine q_iconst (pc := 54) (v := 1) C d_Md_isBetter_54 (by decide) ?_
    refine q_goto (pc := 55) 59 C d_Md_isBetter_55 (by decide) ?_
    exact q_zret (pc := 59) C hr d_Md_isBetter_59 bz1 ⟨rfl, h⟩
  have h := h10 hc
  refine q_iload_n (pc := 21) C d_Md_isBetter_21 rfl 3 rfl ?_
  refine q_iload (pc := 22) C d_Md_isBetter_22 0 rfl ?_
  obtain ⟨h7, h8⟩ := h
  refine q_icmp_ne (pc := 24) 58 C d_Md_isBetter_24 (by decide) (fun hc => ?_) (fun hc => ?_)
  · have h := h7 hc
    refine q_iconst (pc := 58) (v := 0) C d_Md_isBetter_58 (by decide) ?_
    exact q_zret (pc := 59) C hr d_Md_isBetter_59 bz0 ⟨rfl, h⟩
  have h := h8 hc
  refine q_aload_n (pc := 27) C d_Md_isBetter_27 rfl 1 rfl ?_
  refine q_get (pc := 28) (c := 43) (ci := 7) (k := 21) (v := .ref (ya Y 57)) C rfl (by decide) (by decide) wd_754 rfl d_Md_isBetter_28 ?_
  refine q_iload_n (pc := 31) C d_Md_isBetter_31 rfl 4 rfl ?_
  obtain ⟨h2, h⟩ := h
  refine q_iald (pc := 32) (c := 57) C ⟨rfl, rfl⟩ h2 d_Md_isBetter_32 ?_
  refine q_aload_n (pc := 33) C d_Md_isBetter_33 rfl 1 rfl ?_
  refine q_get (pc := 34) (c := 43) (ci := 7) (k := 21) (v := .ref (ya Y 57)) C rfl (by decide) (by decide) wd_754 rfl d_Md_isBetter_34 ?_
  refine q_aload_n (pc := 37) C d_Md_isBetter_37 rfl 1 rfl ?_
  refine q_get (pc := 38) (c := 43) (ci := 7) (k := 25) (v := .ref (ya Y 61)) C rfl (by decide) (by decide) wd_758 rfl d_Md_isBetter_38 ?_
  refine q_sipush (pc := 41) (v := 256) C d_Md_isBetter_41 (by decide) ?_
  refine q_iload (pc := 44) C d_Md_isBetter_44 5 rfl ?_
  refine q_imul (pc := 46) C d_Md_isBetter_46 ?_
  refine q_iload_n (pc := 47) C d_Md_isBetter_47 rfl 2 rfl ?_
  refine q_iadd (pc := 48) C d_Md_isBetter_48 ?_
  obtain ⟨h3, h⟩ := h
  refine q_iald (pc := 49) (c := 61) C ⟨rfl, rfl⟩ h3 d_Md_isBetter_49 ?_
  obtain ⟨h4, h⟩ := h
  refine q_iald (pc := 50) (c := 57) C ⟨rfl, rfl⟩ h4 d_Md_isBetter_50 ?_
  obtain ⟨h5, h6⟩ := h
  refine q_icmp_ge (pc := 51) 58 C d_Md_isBetter_51 (by decide) (fun hc => ?_) (fun hc => ?_)
  · have h := h5 hc
    refine q_iconst (pc := 58) (v := 0) C d_Md_isBetter_58 (by decide) ?_
    exact q_zret (pc := 59) C hr d_Md_isBetter_59 bz0 ⟨rfl, h⟩
  have h := h6 hc
  refine q_iconst (pc := 54) (v := 1) C d_Md_isBetter_54 (by decide) ?_
  refine q_goto (pc := 55) 59 C d_Md_isBetter_55 (by decide) ?_
  exact q_zret (pc := 59) C hr d_Md_isBetter_59 bz1 ⟨rfl, h⟩
theorem d_Md_goFrom_0 : decode prog_9_method_28_code 0 = .ok (.iconst 0, 1) := by decide +kernel
theorem d_Md_goFrom_1 : decode prog_9_method_28_code 1 = .ok (.istore_n 3, 1) := by decide +kernel
theorem d_Md_goFrom_2 : decode prog_9_method_28_code 2 = .ok (.iload_n 3, 1) := by decide +kernel
theorem d_Md_goFrom_3 : decode prog_9_method_28_code 3 = .ok (.bipush 16, 2) := by decide +kernel
theorem d_Md_goFrom_5 : decode prog_9_method_28_code 5 = .ok (.if_icmp .ge 115, 3) := by decide +kernel
theorem d_Md_goFrom_8 : decode prog_9_method_28_code 8 = .ok (.aload_n 0, 1) := by decide +kernel
theorem d_Md_goFrom_9 : decode prog_9_method_28_code 9 = .ok (.getfield 43, 3) := by decide +kernel
theorem d_Md_goFrom_12 : decode prog_9_method_28_code 12 = .ok (.bipush 16, 2) := by decide +kernel
theorem d_Md_goFrom_14 : decode prog_9_method_28_code 14 = .ok (.iload_n 1, 1) := by decide +kernel
theorem d_Md_goFrom_15 : decode prog_9_method_28_code 15 = .ok (.imul, 1) := by decide +kernel
theorem d_Md_goFrom_16 : decode prog_9_method_28_code 16 = .ok (.iload_n 3, 1) := by decide +kernel
theorem d_Md_goFrom_17 : decode prog_9_method_28_code 17 = .ok (.iadd, 1) := by decide +kernel
theorem d_Md_goFrom_18 : decode prog_9_method_28_code 18 = .ok (.iaload, 1) := by decide +kernel
theorem d_Md_goFrom_19 : decode prog_9_method_28_code 19 = .ok (.istore 4, 2) := by decide +kernel
theorem d_Md_goFrom_21 : decode prog_9_method_28_code 21 = .ok (.iload 4, 2) := by decide +kernel
theorem d_Md_goFrom_23 : decode prog_9_method_28_code 23 = .ok (.bipush (-9), 2) := by decide +kernel
theorem d_Md_goFrom_25 : decode prog_9_method_28_code 25 = .ok (.if_icmp .ne 8, 3) := by decide +kernel
theorem d_Md_goFrom_28 : decode prog_9_method_28_code 28 = .ok (.bipush (-9), 2) := by decide +kernel
theorem d_Md_goFrom_30 : decode prog_9_method_28_code 30 = .ok (.goto 22, 3) := by decide +kernel
theorem d_Md_goFrom_33 : decode prog_9_method_28_code 33 = .ok (.aload_n 0, 1) := by decide +kernel
theorem d_Md_goFrom_34 : decode prog_9_method_28_code 34 = .ok (.getfield 28, 3) := by decide +kernel
theorem d_Md_goFrom_37 : decode prog_9_method_28_code 37 = .ok (.iload_n 2, 1) := by decide +kernel
theorem d_Md_goFrom_38 : decode prog_9_method_28_code 38 = .ok (.iaload, 1) := by decide +kernel
theorem d_Md_goFrom_39 : decode prog_9_method_28_code 39 = .ok (.aload_n 0, 1) := by decide +kernel
theorem d_Md_goFrom_40 : decode prog_9_method_28_code 40 = .ok (.getfield 137, 3) := by decide +kernel
theorem d_Md_goFrom_43 : decode prog_9_method_28_code 43 = .ok (.isub, 1) := by decide +kernel
theorem d_Md_goFrom_44 : decode prog_9_method_28_code 44 = .ok (.aload_n 0, 1) := by decide +kernel
theorem d_Md_goFrom_45 : decode prog_9_method_28_code 45 = .ok (.getfield 40, 3) := by decide +kernel
theorem d_Md_goFrom_48 : decode prog_9_method_28_code 48 = .ok (.iload 4, 2) := by decide +kernel
theorem d_Md_goFrom_50 : decode prog_9_method_28_code 50 = .ok (.iaload, 1) := by decide +kernel
theorem d_Md_goFrom_51 : decode prog_9_method_28_code 51 = .ok (.isub, 1) := by decide +kernel
theorem d_Md_goFrom_52 : decode prog_9_method_28_code 52 = .ok (.istore 5, 2) := by decide +kernel
theorem d_Md_goFrom_54 : decode prog_9_method_28_code 54 = .ok (.iload 5, 2) := by decide +kernel
theorem d_Md_goFrom_56 : decode prog_9_method_28_code 56 = .ok (.ifCond .lt 58, 3) := by decide +kernel
theorem d_Md_goFrom_59 : decode prog_9_method_28_code 59 = .ok (.aload_n 0, 1) := by decide +kernel
theorem d_Md_goFrom_60 : decode prog_9_method_28_code 60 = .ok (.getfield 46, 3) := by decide +kernel
theorem d_Md_goFrom_63 : decode prog_9_method_28_code 63 = .ok (.iload_n 1, 1) := by decide +kernel
theorem d_Md_goFrom_64 : decode prog_9_method_28_code 64 = .ok (.iaload, 1) := by decide +kernel
theorem d_Md_goFrom_65 : decode prog_9_method_28_code 65 = .ok (.bipush 100, 2) := by decide +kernel
theorem d_Md_goFrom_67 : decode prog_9_method_28_code 67 = .ok (.iload 5, 2) := by decide +kernel
theorem d_Md_goFrom_69 : decode prog_9_method_28_code 69 = .ok (.imul, 1) := by decide +kernel
theorem d_Md_goFrom_70 : decode prog_9_method_28_code 70 = .ok (.iadd, 1) := by decide +kernel
theorem d_Md_goFrom_71 : decode prog_9_method_28_code 71 = .ok (.iload_n 3, 1) := by decide +kernel
theorem d_Md_goFrom_72 : decode prog_9_method_28_code 72 = .ok (.invokestatic 181, 3) := by decide +kernel
theorem d_Md_goFrom_75 : decode prog_9_method_28_code 75 = .ok (.iadd, 1) := by decide +kernel
theorem d_Md_goFrom_76 : decode prog_9_method_28_code 76 = .ok (.istore 6, 2) := by decide +kernel
theorem d_Md_goFrom_78 : decode prog_9_method_28_code 78 = .ok (.aload_n 0, 1) := by decide +kernel
theorem d_Md_goFrom_79 : decode prog_9_method_28_code 79 = .ok (.iload 4, 2) := by decide +kernel
theorem d_Md_goFrom_81 : decode prog_9_method_28_code 81 = .ok (.iload 6, 2) := by decide +kernel
theorem d_Md_goFrom_83 : decode prog_9_method_28_code 83 = .ok (.iload_n 1, 1) := by decide +kernel
theorem d_Md_goFrom_84 : decode prog_9_method_28_code 84 = .ok (.iload_n 2, 1) := by decide +kernel
theorem d_Md_goFrom_85 : decode prog_9_method_28_code 85 = .ok (.invokevirtual 184, 3) := by decide +kernel
theorem d_Md_goFrom_88 : decode prog_9_method_28_code 88 = .ok (.ifCond .eq 26, 3) := by decide +kernel
theorem d_Md_goFrom_91 : decode prog_9_method_28_code 91 = .ok (.aload_n 0, 1) := by decide +kernel
theorem d_Md_goFrom_92 : decode prog_9_method_28_code 92 = .ok (.getfield 52, 3) := by decide +kernel
theorem d_Md_goFrom_95 : decode prog_9_method_28_code 95 = .ok (.iload 4, 2) := by decide +kernel
theorem d_Md_goFrom_97 : decode prog_9_method_28_code 97 = .ok (.iload 6, 2) := by decide +kernel
theorem d_Md_goFrom_99 : decode prog_9_method_28_code 99 = .ok (.iastore, 1) := by decide +kernel
theorem d_Md_goFrom_100 : decode prog_9_method_28_code 100 = .ok (.aload_n 0, 1) := by decide +kernel
theorem d_Md_goFrom_101 : decode prog_9_method_28_code 101 = .ok (.getfield 61, 3) := by decide +kernel
theorem d_Md_goFrom_104 : decode prog_9_method_28_code 104 = .ok (.sipush 256, 3) := by decide +kernel
theorem d_Md_goFrom_107 : decode prog_9_method_28_code 107 = .ok (.iload_n 2, 1) := by decide +kernel
theorem d_Md_goFrom_108 : decode prog_9_method_28_code 108 = .ok (.imul, 1) := by decide +kernel
theorem d_Md_goFrom_109 : decode prog_9_method_28_code 109 = .ok (.iload 4, 2) := by decide +kernel
theorem d_Md_goFrom_111 : decode prog_9_method_28_code 111 = .ok (.iadd, 1) := by decide +kernel
theorem d_Md_goFrom_112 : decode prog_9_method_28_code 112 = .ok (.iload_n 1, 1) := by decide +kernel
theorem d_Md_goFrom_113 : decode prog_9_method_28_code 113 = .ok (.iastore, 1) := by decide +kernel
theorem d_Md_goFrom_114 : decode prog_9_method_28_code 114 = .ok (.iinc 3 1, 3) := by decide +kernel
theorem d_Md_goFrom_117 : decode prog_9_method_28_code 117 = .ok (.goto (-115), 3) := by decide +kernel
theorem d_Md_goFrom_120 : decode prog_9_method_28_code 120 = .ok (.return_, 1) := by decide +kernel
abbrev y_Md_goFrom : MethodName := ⟨"LoadCyclesModel", "goFrom", "(II)V"⟩
theorem mi_Md_goFrom : miV y_Md_goFrom prog_9_method_28_code 7 none 2 := ⟨wd_940, wd_43, wd_72, wd_941, by decide, by decide, by decide +kernel⟩
def B_Md_goFrom_52 (x1 : Int32) (x2 : Int32) (K : Sg → Prop) (r2 : Int32 → Sg → Prop) (v3 : Int32) (v4 : Int32) (vs0 : Int32) (σ : Sg) : Prop :=
  ((vs0 < 0 → r2 (v3 + (1 : Int32)) σ) ∧ (¬ vs0 < 0 → (vp_in x1 256 ∧ w_Md_sizeOf v3 σ (fun u72 => (∀ y6_76 : Int32, y6_76 = (((σ 56 x1.toNatClampNeg) + ((100 : Int32) * vs0)) + u72) → w_Md_isBetter v4 y6_76 x1 x2 σ (fun u85 => ((u85 = 0 → r2 (v3 + (1 : Int32)) σ) ∧ (¬ u85 = 0 → (vp_in v4 256 ∧ (∀ τ99 : Sg, τ99 = s2 σ 58 v4.toNatClampNeg y6_76 → (vp_in (((256 : Int32) * x2) + v4) 5120 ∧ (∀ τ113 : Sg, τ113 = s2 τ99 61 (((256 : Int32) * x2) + v4).toNatClampNeg x1 → r2 (v3 + (1 : Int32)) τ113))))))))))))
theorem t_Md_goFrom_52 {X : Bx} {Y : Yx} {x1 : Int32} {x2 : Int32} {v3 : Int32} {v4 : Int32} {vs0 : Int32} {K : Sg → Prop} {r2 : Int32 → Sg → Prop} (hY : YD Y) (C : Cx X Y prog_9_method_28_code 7 "LoadCyclesModel" 1 25) (hr : (xh X).sig.returnType = none)  (H2 : ∀ (v3 : Int32) (σ : Sg), r2 v3 σ → St X Y 7 (QV X Y K) 2 [(0, .ref (ya Y 43)), (1, .int x1), (2, .int x2), (3, .int v3)] [] σ)  {σ : Sg} (h : B_Md_goFrom_52 x1 x2 K r2 v3 v4 vs0 σ) : St X Y 7 (QV X Y K) 52 [(0, .ref (ya Y 43)), (1, .int x1), (2, .int x2), (3, .int v3), (4, .int v4)] [.int vs0] σ := by
  unfold B_Md_goFrom_52 at h
  refine q_istore (pc := 52) [(5, .int vs0), (0, .ref (ya Y 43)), (1, .int x1), (2, .int x2), (3, .int v3), (4, .int v4)] C d_Md_goFrom_52 (by decide) rfl ?_
  refine q_iload (pc := 54) C d_Md_goFrom_54 0 rfl ?_
  obtain ⟨h9, h10⟩ := h
  refine q_if_lt (pc := 56) 114 C d_Md_goFrom_56 (by decide) (fun hc => ?_) (fun hc => ?_)
  · have h := h9 hc
    refine q_iinc (pc := 114) (v3 + (1 : Int32)) [(3, .int (v3 + (1 : Int32))), (5, .int vs0), (0, .ref (ya Y 43)), (1, .int x1), (2, .int x2), (4, .int v4)] C d_Md_goFrom_114 4 rfl rfl (by decide) rfl ?_
    refine q_goto (pc := 117) 2 C d_Md_goFrom_117 (by decide) ?_
    refine q_sub [(0, .ref (ya Y 43)), (1, .int x1), (2, .int x2), (3, .int (v3 + (1 : Int32)))] [2, 3, 4, 0] rfl ?_
    exact H2 (v3 + (1 : Int32)) σ h
  have h := h10 hc
  refine q_aload_n (pc := 59) C d_Md_goFrom_59 rfl 1 rfl ?_
  refine q_get (pc := 60) (c := 43) (ci := 7) (k := 20) (v := .ref (ya Y 56)) C rfl (by decide) (by decide) wd_753 rfl d_Md_goFrom_60 ?_
  refine q_iload_n (pc := 63) C d_Md_goFrom_63 rfl 2 rfl ?_
  obtain ⟨h4, h⟩ := h
  refine q_iald (pc := 64) (c := 56) C ⟨rfl, rfl⟩ h4 d_Md_goFrom_64 ?_
  refine q_bipush (pc := 65) (v := 100) C d_Md_goFrom_65 (by decide) ?_
  refine q_iload (pc := 67) C d_Md_goFrom_67 0 rfl ?_
  refine q_imul (pc := 69) C d_Md_goFrom_69 ?_
  refine q_iadd (pc := 70) C d_Md_goFrom_70 ?_
  refine q_iload_n (pc := 71) C d_Md_goFrom_71 rfl 4 rfl ?_
  refine q_callSIr (pc := 72) (st := [.int ((σ 56 x1.toNatClampNeg) + ((100 : Int32) * vs0))]) C (m_Md_sizeOf hY h) mi_Md_sizeOf wd_942 rfl rfl (Nat.le_of_ble_eq_true rfl) (by decide) (by decide) d_Md_goFrom_72 (fun u72 h => ?_)
  refine q_iadd (pc := 75) C d_Md_goFrom_75 ?_
  refine q_nmi (fun y6_76 ey6_76 => ?_)
  replace h := h y6_76 ey6_76
  refine q_istore (pc := 76) [(6, .int y6_76), (5, .int vs0), (0, .ref (ya Y 43)), (1, .int x1), (2, .int x2), (3, .int v3), (4, .int v4)] C d_Md_goFrom_76 (by decide) rfl ?_
  refine q_aload_n (pc := 78) C d_Md_goFrom_78 rfl 2 rfl ?_
  refine q_iload (pc := 79) C d_Md_goFrom_79 6 rfl ?_
  refine q_iload (pc := 81) C d_Md_goFrom_81 0 rfl ?_
  refine q_iload_n (pc := 83) C d_Md_goFrom_83 rfl 3 rfl ?_
  refine q_iload_n (pc := 84) C d_Md_goFrom_84 rfl 4 rfl ?_
  refine q_callVIr (pc := 85) (st := []) (d := 43) C (m_Md_isBetter hY h) mi_Md_isBetter rfl (by decide) rfl wd_945 rfl rfl (Nat.le_of_ble_eq_true rfl) (by decide) (by decide) d_Md_goFrom_85 (fun u85 h => ?_)
  obtain ⟨h7, h8⟩ := h
  refine q_if_eq (pc := 88) 114 C d_Md_goFrom_88 (by decide) (fun hc => ?_) (fun hc => ?_)
  · have h := h7 hc
    refine q_iinc (pc := 114) (v3 + (1 : Int32)) [(3, .int (v3 + (1 : Int32))), (6, .int y6_76), (5, .int vs0), (0, .ref (ya Y 43)), (1, .int x1), (2, .int x2), (4, .int v4)] C d_Md_goFrom_114 5 rfl rfl (by decide) rfl ?_
    refine q_goto (pc := 117) 2 C d_Md_goFrom_117 (by decide) ?_
    refine q_sub [(0, .ref (ya Y 43)), (1, .int x1), (2, .int x2), (3, .int (v3 + (1 : Int32)))] [3, 4, 5, 0] rfl ?_
    exact H2 (v3 + (1 : Int32)) σ h
  have h := h8 hc
  refine q_aload_n (pc := 91) C d_Md_goFrom_91 rfl 2 rfl ?_
  refine q_get (pc := 92) (c := 43) (ci := 7) (k := 22) (v := .ref (ya Y 58)) C rfl (by decide) (by decide) wd_755 rfl d_Md_goFrom_92 ?_
  refine q_iload (pc := 95) C d_Md_goFrom_95 6 rfl ?_
  refine q_iload (pc := 97) C d_Md_goFrom_97 0 rfl ?_
  obtain ⟨h5, h⟩ := h
  refine q_iast (pc := 99) (c := 58) C ⟨rfl, rfl⟩ h5 d_Md_goFrom_99 ?_
  refine q_nms (fun τ99 eτ99 => ?_)
  replace h := h τ99 eτ99
  refine q_aload_n (pc := 100) C d_Md_goFrom_100 rfl 2 rfl ?_
  refine q_get (pc := 101) (c := 43) (ci := 7) (k := 25) (v := .ref (ya Y 61)) C rfl (by decide) (by decide) wd_758 rfl d_Md_goFrom_101 ?_
  refine q_sipush (pc := 104) (v := 256) C d_Md_goFrom_104 (by decide) ?_
  refine q_iload_n (pc := 107) C d_Md_goFrom_107 rfl 4 rfl ?_
  refine q_imul (pc := 108) C d_Md_goFrom_108 ?_
  refine q_iload (pc := 109) C d_Md_goFrom_109 6 rfl ?_
  refine q_iadd (pc := 111) C d_Md_goFrom_111 ?_
  refine q_iload_n (pc := 112) C d_Md_goFrom_112 rfl 3 rfl ?_
  obtain ⟨h6, h⟩ := h
  refine q_iast (pc := 113) (c := 61) C ⟨rfl, rfl⟩ h6 d_Md_goFrom_113 ?_
  refine q_nms (fun τ113 eτ113 => ?_)
  replace h := h τ113 eτ113
  refine q_iinc (pc := 114) (v3 + (1 : Int32)) [(3, .int (v3 + (1 : Int32))), (6, .int y6_76), (5, .int vs0), (0, .ref (ya Y 43)), (1, .int x1), (2, .int x2), (4, .int v4)] C d_Md_goFrom_114 5 rfl rfl (by decide) rfl ?_
  refine q_goto (pc := 117) 2 C d_Md_goFrom_117 (by decide) ?_
  refine q_sub [(0, .ref (ya Y 43)), (1, .int x1), (2, .int x2), (3, .int (v3 + (1 : Int32)))] [3, 4, 5, 0] rfl ?_
  exact H2 (v3 + (1 : Int32)) τ113 h
def L_Md_goFrom_2 (x1 : Int32) (x2 : Int32) (K : Sg → Prop) : Nat → Int32 → Sg → Prop
  | 0, _, _ => False
  | n + 1, v3, σ =>
    (((16 : Int32) ≤ v3 → K σ) ∧ (¬ (16 : Int32) ≤ v3 → (vp_in (((16 : Int32) * x1) + v3) 4096 ∧ (∀ y4_19 : Int32, y4_19 = (σ 55 (((16 : Int32) * x1) + v3).toNatClampNeg) → ((¬ y4_19 = (-9 : Int32) → (vp_in x2 20 ∧ (vp_in y4_19 256 ∧ B_Md_goFrom_52 x1 x2 K (fun a0 a1 => L_Md_goFrom_2 x1 x2 K n a0 a1) v3 y4_19 (((σ 50 x2.toNatClampNeg) - (σ 43 11)) - (σ 54 y4_19.toNatClampNeg)) σ))) ∧ (y4_19 = (-9 : Int32) → B_Md_goFrom_52 x1 x2 K (fun a0 a1 => L_Md_goFrom_2 x1 x2 K n a0 a1) v3 y4_19 (-9 : Int32) σ))))))
theorem t_Md_goFrom_2 {X : Bx} {Y : Yx} {x1 : Int32} {x2 : Int32} {K : Sg → Prop}  (hY : YD Y) (C : Cx X Y prog_9_method_28_code 7 "LoadCyclesModel" 1 25) (hr : (xh X).sig.returnType = none)  : ∀ (n : Nat) (v3 : Int32) (σ : Sg), L_Md_goFrom_2 x1 x2 K n v3 σ → St X Y 7 (QV X Y K) 2 [(0, .ref (ya Y 43)), (1, .int x1), (2, .int x2), (3, .int v3)] [] σ := by
  intro n
  induction n with
  | zero => intro v3 σ h; exact h.elim
  | succ n ih =>
    intro v3 σ h
    unfold L_Md_goFrom_2 at h
    refine q_iload_n (pc := 2) C d_Md_goFrom_2 rfl 3 rfl ?_
    refine q_bipush (pc := 3) (v := 16) C d_Md_goFrom_3 (by decide) ?_
    obtain ⟨h13, h14⟩ := h
    refine q_icmp_ge (pc := 5) 120 C d_Md_goFrom_5 (by decide) (fun hc => ?_) (fun hc => ?_)
    · have h := h13 hc
      exact q_vret (pc := 120) C hr d_Md_goFrom_120 h
    have h := h14 hc
    refine q_aload_n (pc := 8) C d_Md_goFrom_8 rfl 0 rfl ?_
    refine q_get (pc := 9) (c := 43) (ci := 7) (k := 19) (v := .ref (ya Y 55)) C rfl (by decide) (by decide) wd_752 rfl d_Md_goFrom_9 ?_
    refine q_bipush (pc := 12) (v := 16) C d_Md_goFrom_12 (by decide) ?_
    refine q_iload_n (pc := 14) C d_Md_goFrom_14 rfl 1 rfl ?_
    refine q_imul (pc := 15) C d_Md_goFrom_15 ?_
    refine q_iload_n (pc := 16) C d_Md_goFrom_16 rfl 3 rfl ?_
    refine q_iadd (pc := 17) C d_Md_goFrom_17 ?_
    obtain ⟨h1, h⟩ := h
    refine q_iald (pc := 18) (c := 55) C ⟨rfl, rfl⟩ h1 d_Md_goFrom_18 ?_
    refine q_nmi (fun y4_19 ey4_19 => ?_)
    replace h := h y4_19 ey4_19
    refine q_istore (pc := 19) [(4, .int y4_19), (0, .ref (ya Y 43)), (1, .int x1), (2, .int x2), (3, .int v3)] C d_Md_goFrom_19 (by decide) rfl ?_
    refine q_iload (pc := 21) C d_Md_goFrom_21 0 rfl ?_
    refine q_bipush (pc := 23) (v := -9) C d_Md_goFrom_23 (by decide) ?_
    obtain ⟨h11, h12⟩ := h
    refine q_icmp_ne (pc := 25) 33 C d_Md_goFrom_25 (by decide) (fun hc => ?_) (fun hc => ?_)
    · have h := h11 hc
      refine q_aload_n (pc := 33) C d_Md_goFrom_33 rfl 1 rfl ?_
      refine q_get (pc := 34) (c := 43) (ci := 7) (k := 10) (v := .ref (ya Y 50)) C rfl (by decide) (by decide) wd_743 rfl d_Md_goFrom_34 ?_
      refine q_iload_n (pc := 37) C d_Md_goFrom_37 rfl 3 rfl ?_
      obtain ⟨h2, h⟩ := h
      refine q_iald (pc := 38) (c := 50) C ⟨rfl, rfl⟩ h2 d_Md_goFrom_38 ?_
      refine q_aload_n (pc := 39) C d_Md_goFrom_39 rfl 1 rfl ?_
      refine q_get (pc := 40) (c := 43) (ci := 7) (k := 11) (v := .int (σ 43 11)) C rfl (by decide) (by decide) wd_744 rfl d_Md_goFrom_40 ?_
      refine q_isub (pc := 43) C d_Md_goFrom_43 ?_
      refine q_aload_n (pc := 44) C d_Md_goFrom_44 rfl 1 rfl ?_
      refine q_get (pc := 45) (c := 43) (ci := 7) (k := 18) (v := .ref (ya Y 54)) C rfl (by decide) (by decide) wd_751 rfl d_Md_goFrom_45 ?_
      refine q_iload (pc := 48) C d_Md_goFrom_48 0 rfl ?_
      obtain ⟨h3, h⟩ := h
      refine q_iald (pc := 50) (c := 54) C ⟨rfl, rfl⟩ h3 d_Md_goFrom_50 ?_
      refine q_isub (pc := 51) C d_Md_goFrom_51 ?_
      refine q_sub [(0, .ref (ya Y 43)), (1, .int x1), (2, .int x2), (3, .int v3), (4, .int y4_19)] [1, 2, 3, 4, 0] rfl ?_
      exact t_Md_goFrom_52 hY C hr ih h
    have h := h12 hc
    refine q_bipush (pc := 28) (v := -9) C d_Md_goFrom_28 (by decide) ?_
    refine q_goto (pc := 30) 52 C d_Md_goFrom_30 (by decide) ?_
    refine q_sub [(0, .ref (ya Y 43)), (1, .int x1), (2, .int x2), (3, .int v3), (4, .int y4_19)] [1, 2, 3, 4, 0] rfl ?_
    exact t_Md_goFrom_52 hY C hr ih h
def w_Md_goFrom (x1 : Int32) (x2 : Int32) (σ : Sg) (K : Sg → Prop) : Prop :=
  (∃ n15 : Nat, L_Md_goFrom_2 x1 x2 K n15 (0 : Int32) σ)
set_option maxHeartbeats 4000000 in
theorem m_Md_goFrom {Y : Yx} {x1 : Int32} {x2 : Int32} {σ : Sg} {K : Sg → Prop} (hY : YD Y)  (h : w_Md_goFrom x1 x2 σ K) : MetV Y y_Md_goFrom prog_9_method_28_code 7 1 25 [.ref (ya Y 43), .int x1, .int x2] σ K := by
  refine met_V [(0, .ref (ya Y 43)), (1, .int x1), (2, .int x2)] hY (by decide) (Nat.le_of_ble_eq_true rfl) rfl (fun X C hr => ?_)
  unfold w_Md_goFrom at h
  refine q_iconst (pc := 0) (v := 0) C d_Md_goFrom_0 (by decide) ?_
  refine q_istore_n (pc := 1) [(3, .int (0 : Int32)), (0, .ref (ya Y 43)), (1, .int x1), (2, .int x2)] C d_Md_goFrom_1 rfl (by decide) rfl ?_
  obtain ⟨n15, h⟩ := h
  refine q_sub [(0, .ref (ya Y 43)), (1, .int x1), (2, .int x2), (3, .int (0 : Int32))] [1, 2, 3, 0] rfl ?_
  exact t_Md_goFrom_2 hY C hr n15 (0 : Int32) σ h
theorem d_Md_rankAll_0 : decode prog_9_method_29_code 0 = .ok (.iconst 0, 1) := by decide +kernel
theorem d_Md_rankAll_1 : decode prog_9_method_29_code 1 = .ok (.istore_n 2, 1) := by decide +kernel
theorem d_Md_rankAll_2 : decode prog_9_method_29_code 2 = .ok (.iload_n 2, 1) := by decide +kernel
theorem d_Md_rankAll_3 : decode prog_9_method_29_code 3 = .ok (.sipush 256, 3) := by decide +kernel
theorem d_Md_rankAll_6 : decode prog_9_method_29_code 6 = .ok (.if_icmp .gt 16, 3) := by decide +kernel
theorem d_Md_rankAll_9 : decode prog_9_method_29_code 9 = .ok (.aload_n 0, 1) := by decide +kernel
theorem d_Md_rankAll_10 : decode prog_9_method_29_code 10 = .ok (.getfield 58, 3) := by decide +kernel
theorem d_Md_rankAll_13 : decode prog_9_method_29_code 13 = .ok (.iload_n 2, 1) := by decide +kernel
theorem d_Md_rankAll_14 : decode prog_9_method_29_code 14 = .ok (.iconst 0, 1) := by decide +kernel
theorem d_Md_rankAll_15 : decode prog_9_method_29_code 15 = .ok (.iastore, 1) := by decide +kernel
theorem d_Md_rankAll_16 : decode prog_9_method_29_code 16 = .ok (.iinc 2 1, 3) := by decide +kernel
theorem d_Md_rankAll_19 : decode prog_9_method_29_code 19 = .ok (.goto (-17), 3) := by decide +kernel
theorem d_Md_rankAll_22 : decode prog_9_method_29_code 22 = .ok (.iconst 0, 1) := by decide +kernel
theorem d_Md_rankAll_23 : decode prog_9_method_29_code 23 = .ok (.istore_n 2, 1) := by decide +kernel
theorem d_Md_rankAll_24 : decode prog_9_method_29_code 24 = .ok (.iload_n 2, 1) := by decide +kernel
theorem d_Md_rankAll_25 : decode prog_9_method_29_code 25 = .ok (.sipush 256, 3) := by decide +kernel
theorem d_Md_rankAll_28 : decode prog_9_method_29_code 28 = .ok (.if_icmp .ge 48, 3) := by decide +kernel
theorem d_Md_rankAll_31 : decode prog_9_method_29_code 31 = .ok (.aload_n 0, 1) := by decide +kernel
theorem d_Md_rankAll_32 : decode prog_9_method_29_code 32 = .ok (.getfield 52, 3) := by decide +kernel
theorem d_Md_rankAll_35 : decode prog_9_method_29_code 35 = .ok (.iload_n 2, 1) := by decide +kernel
theorem d_Md_rankAll_36 : decode prog_9_method_29_code 36 = .ok (.iaload, 1) := by decide +kernel
theorem d_Md_rankAll_37 : decode prog_9_method_29_code 37 = .ok (.bipush (-9), 2) := by decide +kernel
theorem d_Md_rankAll_39 : decode prog_9_method_29_code 39 = .ok (.if_icmp .eq 31, 3) := by decide +kernel
theorem d_Md_rankAll_42 : decode prog_9_method_29_code 42 = .ok (.aload_n 0, 1) := by decide +kernel
theorem d_Md_rankAll_43 : decode prog_9_method_29_code 43 = .ok (.getfield 58, 3) := by decide +kernel
theorem d_Md_rankAll_46 : decode prog_9_method_29_code 46 = .ok (.aload_n 0, 1) := by decide +kernel
theorem d_Md_rankAll_47 : decode prog_9_method_29_code 47 = .ok (.getfield 49, 3) := by decide +kernel
theorem d_Md_rankAll_50 : decode prog_9_method_29_code 50 = .ok (.aload_n 0, 1) := by decide +kernel
theorem d_Md_rankAll_51 : decode prog_9_method_29_code 51 = .ok (.getfield 61, 3) := by decide +kernel
theorem d_Md_rankAll_54 : decode prog_9_method_29_code 54 = .ok (.sipush 256, 3) := by decide +kernel
theorem d_Md_rankAll_57 : decode prog_9_method_29_code 57 = .ok (.iload_n 1, 1) := by decide +kernel
theorem d_Md_rankAll_58 : decode prog_9_method_29_code 58 = .ok (.imul, 1) := by decide +kernel
theorem d_Md_rankAll_59 : decode prog_9_method_29_code 59 = .ok (.iload_n 2, 1) := by decide +kernel
theorem d_Md_rankAll_60 : decode prog_9_method_29_code 60 = .ok (.iadd, 1) := by decide +kernel
theorem d_Md_rankAll_61 : decode prog_9_method_29_code 61 = .ok (.iaload, 1) := by decide +kernel
theorem d_Md_rankAll_62 : decode prog_9_method_29_code 62 = .ok (.iaload, 1) := by decide +kernel
theorem d_Md_rankAll_63 : decode prog_9_method_29_code 63 = .ok (.iconst 1, 1) := by decide +kernel
theorem d_Md_rankAll_64 : decode prog_9_method_29_code 64 = .ok (.iadd, 1) := by decide +kernel
theorem d_Md_rankAll_65 : decode prog_9_method_29_code 65 = .ok (.dup2, 1) := by decide +kernel
theorem d_Md_rankAll_66 : decode prog_9_method_29_code 66 = .ok (.iaload, 1) := by decide +kernel
theorem d_Md_rankAll_67 : decode prog_9_method_29_code 67 = .ok (.iconst 1, 1) := by decide +kernel
theorem d_Md_rankAll_68 : decode prog_9_method_29_code 68 = .ok (.iadd, 1) := by decide +kernel
theorem d_Md_rankAll_69 : decode prog_9_method_29_code 69 = .ok (.iastore, 1) := by decide +kernel
theorem d_Md_rankAll_70 : decode prog_9_method_29_code 70 = .ok (.iinc 2 1, 3) := by decide +kernel
theorem d_Md_rankAll_73 : decode prog_9_method_29_code 73 = .ok (.goto (-49), 3) := by decide +kernel
theorem d_Md_rankAll_76 : decode prog_9_method_29_code 76 = .ok (.iconst 0, 1) := by decide +kernel
theorem d_Md_rankAll_77 : decode prog_9_method_29_code 77 = .ok (.istore_n 2, 1) := by decide +kernel
theorem d_Md_rankAll_78 : decode prog_9_method_29_code 78 = .ok (.iload_n 2, 1) := by decide +kernel
theorem d_Md_rankAll_79 : decode prog_9_method_29_code 79 = .ok (.sipush 256, 3) := by decide +kernel
theorem d_Md_rankAll_82 : decode prog_9_method_29_code 82 = .ok (.if_icmp .ge 26, 3) := by decide +kernel
theorem d_Md_rankAll_85 : decode prog_9_method_29_code 85 = .ok (.aload_n 0, 1) := by decide +kernel
theorem d_Md_rankAll_86 : decode prog_9_method_29_code 86 = .ok (.getfield 58, 3) := by decide +kernel
theorem d_Md_rankAll_89 : decode prog_9_method_29_code 89 = .ok (.iload_n 2, 1) := by decide +kernel
theorem d_Md_rankAll_90 : decode prog_9_method_29_code 90 = .ok (.iconst 1, 1) := by decide +kernel
theorem d_Md_rankAll_91 : decode prog_9_method_29_code 91 = .ok (.iadd, 1) := by decide +kernel
theorem d_Md_rankAll_92 : decode prog_9_method_29_code 92 = .ok (.dup2, 1) := by decide +kernel
theorem d_Md_rankAll_93 : decode prog_9_method_29_code 93 = .ok (.iaload, 1) := by decide +kernel
theorem d_Md_rankAll_94 : decode prog_9_method_29_code 94 = .ok (.aload_n 0, 1) := by decide +kernel
theorem d_Md_rankAll_95 : decode prog_9_method_29_code 95 = .ok (.getfield 58, 3) := by decide +kernel
theorem d_Md_rankAll_98 : decode prog_9_method_29_code 98 = .ok (.iload_n 2, 1) := by decide +kernel
theorem d_Md_rankAll_99 : decode prog_9_method_29_code 99 = .ok (.iaload, 1) := by decide +kernel
theorem d_Md_rankAll_100 : decode prog_9_method_29_code 100 = .ok (.iadd, 1) := by decide +kernel
theorem d_Md_rankAll_101 : decode prog_9_method_29_code 101 = .ok (.iastore, 1) := by decide +kernel
theorem d_Md_rankAll_102 : decode prog_9_method_29_code 102 = .ok (.iinc 2 1, 3) := by decide +kernel
theorem d_Md_rankAll_105 : decode prog_9_method_29_code 105 = .ok (.goto (-27), 3) := by decide +kernel
theorem d_Md_rankAll_108 : decode prog_9_method_29_code 108 = .ok (.iconst 0, 1) := by decide +kernel
theorem d_Md_rankAll_109 : decode prog_9_method_29_code 109 = .ok (.istore_n 2, 1) := by decide +kernel
theorem d_Md_rankAll_110 : decode prog_9_method_29_code 110 = .ok (.iload_n 2, 1) := by decide +kernel
theorem d_Md_rankAll_111 : decode prog_9_method_29_code 111 = .ok (.sipush 256, 3) := by decide +kernel
theorem d_Md_rankAll_114 : decode prog_9_method_29_code 114 = .ok (.if_icmp .ge 60, 3) := by decide +kernel
theorem d_Md_rankAll_117 : decode prog_9_method_29_code 117 = .ok (.aload_n 0, 1) := by decide +kernel
theorem d_Md_rankAll_118 : decode prog_9_method_29_code 118 = .ok (.getfield 52, 3) := by decide +kernel
theorem d_Md_rankAll_121 : decode prog_9_method_29_code 121 = .ok (.iload_n 2, 1) := by decide +kernel
theorem d_Md_rankAll_122 : decode prog_9_method_29_code 122 = .ok (.iaload, 1) := by decide +kernel
theorem d_Md_rankAll_123 : decode prog_9_method_29_code 123 = .ok (.bipush (-9), 2) := by decide +kernel
theorem d_Md_rankAll_125 : decode prog_9_method_29_code 125 = .ok (.if_icmp .eq 43, 3) := by decide +kernel
theorem d_Md_rankAll_128 : decode prog_9_method_29_code 128 = .ok (.aload_n 0, 1) := by decide +kernel
theorem d_Md_rankAll_129 : decode prog_9_method_29_code 129 = .ok (.getfield 49, 3) := by decide +kernel
theorem d_Md_rankAll_132 : decode prog_9_method_29_code 132 = .ok (.aload_n 0, 1) := by decide +kernel
theorem d_Md_rankAll_133 : decode prog_9_method_29_code 133 = .ok (.getfield 61, 3) := by decide +kernel
theorem d_Md_rankAll_136 : decode prog_9_method_29_code 136 = .ok (.sipush 256, 3) := by decide +kernel
theorem d_Md_rankAll_139 : decode prog_9_method_29_code 139 = .ok (.iload_n 1, 1) := by decide +kernel
theorem d_Md_rankAll_140 : decode prog_9_method_29_code 140 = .ok (.imul, 1) := by decide +kernel
theorem d_Md_rankAll_141 : decode prog_9_method_29_code 141 = .ok (.iload_n 2, 1) := by decide +kernel
theorem d_Md_rankAll_142 : decode prog_9_method_29_code 142 = .ok (.iadd, 1) := by decide +kernel
theorem d_Md_rankAll_143 : decode prog_9_method_29_code 143 = .ok (.iaload, 1) := by decide +kernel
theorem d_Md_rankAll_144 : decode prog_9_method_29_code 144 = .ok (.iaload, 1) := by decide +kernel
theorem d_Md_rankAll_145 : decode prog_9_method_29_code 145 = .ok (.istore_n 3, 1) := by decide +kernel
theorem d_Md_rankAll_146 : decode prog_9_method_29_code 146 = .ok (.aload_n 0, 1) := by decide +kernel
theorem d_Md_rankAll_147 : decode prog_9_method_29_code 147 = .ok (.getfield 55, 3) := by decide +kernel
theorem d_Md_rankAll_150 : decode prog_9_method_29_code 150 = .ok (.iload_n 2, 1) := by decide +kernel
theorem d_Md_rankAll_151 : decode prog_9_method_29_code 151 = .ok (.aload_n 0, 1) := by decide +kernel
theorem d_Md_rankAll_152 : decode prog_9_method_29_code 152 = .ok (.getfield 58, 3) := by decide +kernel
theorem d_Md_rankAll_155 : decode prog_9_method_29_code 155 = .ok (.iload_n 3, 1) := by decide +kernel
theorem d_Md_rankAll_156 : decode prog_9_method_29_code 156 = .ok (.iaload, 1) := by decide +kernel
theorem d_Md_rankAll_157 : decode prog_9_method_29_code 157 = .ok (.iastore, 1) := by decide +kernel
theorem d_Md_rankAll_158 : decode prog_9_method_29_code 158 = .ok (.aload_n 0, 1) := by decide +kernel
theorem d_Md_rankAll_159 : decode prog_9_method_29_code 159 = .ok (.getfield 58, 3) := by decide +kernel
theorem d_Md_rankAll_162 : decode prog_9_method_29_code 162 = .ok (.iload_n 3, 1) := by decide +kernel
theorem d_Md_rankAll_163 : decode prog_9_method_29_code 163 = .ok (.dup2, 1) := by decide +kernel
theorem d_Md_rankAll_164 : decode prog_9_method_29_code 164 = .ok (.iaload, 1) := by decide +kernel
theorem d_Md_rankAll_165 : decode prog_9_method_29_code 165 = .ok (.iconst 1, 1) := by decide +kernel
theorem d_Md_rankAll_166 : decode prog_9_method_29_code 166 = .ok (.iadd, 1) := by decide +kernel
theorem d_Md_rankAll_167 : decode prog_9_method_29_code 167 = .ok (.iastore, 1) := by decide +kernel
theorem d_Md_rankAll_168 : decode prog_9_method_29_code 168 = .ok (.iinc 2 1, 3) := by decide +kernel
theorem d_Md_rankAll_171 : decode prog_9_method_29_code 171 = .ok (.goto (-61), 3) := by decide +kernel
theorem d_Md_rankAll_174 : decode prog_9_method_29_code 174 = .ok (.return_, 1) := by decide +kernel
abbrev y_Md_rankAll : MethodName := ⟨"LoadCyclesModel", "rankAll", "(I)V"⟩
theorem mi_Md_rankAll : miV y_Md_rankAll prog_9_method_29_code 4 none 1 := ⟨wd_951, wd_45, wd_72, wd_952, by decide, by decide, by decide +kernel⟩
def L_Md_rankAll_110 (x1 : Int32) (K : Sg → Prop) : Nat → Int32 → Sg → Prop
  | 0, _, _ => False
  | n + 1, v2, σ =>
    (((256 : Int32) ≤ v2 → K σ) ∧ (¬ (256 : Int32) ≤ v2 → (vp_in v2 256 ∧ (((σ 58 v2.toNatClampNeg) = (-9 : Int32) → L_Md_rankAll_110 x1 K n (v2 + (1 : Int32)) σ) ∧ (¬ (σ 58 v2.toNatClampNeg) = (-9 : Int32) → (vp_in (((256 : Int32) * x1) + v2) 5120 ∧ (vp_in (σ 61 (((256 : Int32) * x1) + v2).toNatClampNeg) 256 ∧ (∀ y3_145 : Int32, y3_145 = (σ 57 (σ 61 (((256 : Int32) * x1) + v2).toNatClampNeg).toNatClampNeg) → (vp_in y3_145 257 ∧ (vp_in v2 256 ∧ (∀ τ157 : Sg, τ157 = s2 σ 59 v2.toNatClampNeg (σ 60 y3_145.toNatClampNeg) → (vp_in y3_145 257 ∧ (vp_in y3_145 257 ∧ (∀ τ167 : Sg, τ167 = s2 τ157 60 y3_145.toNatClampNeg ((τ157 60 y3_145.toNatClampNeg) + (1 : Int32)) → L_Md_rankAll_110 x1 K n (v2 + (1 : Int32)) τ167))))))))))))))
theorem t_Md_rankAll_110 {X : Bx} {Y : Yx} {x1 : Int32} {K : Sg → Prop}  (hY : YD Y) (C : Cx X Y prog_9_method_29_code 4 "LoadCyclesModel" 0 0) (hr : (xh X).sig.returnType = none)  : ∀ (n : Nat) (v2 : Int32) (σ : Sg), L_Md_rankAll_110 x1 K n v2 σ → St X Y 4 (QV X Y K) 110 [(0, .ref (ya Y 43)), (1, .int x1), (2, .int v2)] [] σ := by
  intro n
  induction n with
  | zero => intro v2 σ h; exact h.elim
  | succ n ih =>
    intro v2 σ h
    unfold L_Md_rankAll_110 at h
    refine q_iload_n (pc := 110) C d_Md_rankAll_110 rfl 2 rfl ?_
    refine q_sipush (pc := 111) (v := 256) C d_Md_rankAll_111 (by decide) ?_
    obtain ⟨h10, h11⟩ := h
    refine q_icmp_ge (pc := 114) 174 C d_Md_rankAll_114 (by decide) (fun hc => ?_) (fun hc => ?_)
    · have h := h10 hc
      exact q_vret (pc := 174) C hr d_Md_rankAll_174 h
    have h := h11 hc
    refine q_aload_n (pc := 117) C d_Md_rankAll_117 rfl 0 rfl ?_
    refine q_get (pc := 118) (c := 43) (ci := 7) (k := 22) (v := .ref (ya Y 58)) C rfl (by decide) (by decide) wd_755 rfl d_Md_rankAll_118 ?_
    refine q_iload_n (pc := 121) C d_Md_rankAll_121 rfl 2 rfl ?_
    obtain ⟨h1, h⟩ := h
    refine q_iald (pc := 122) (c := 58) C ⟨rfl, rfl⟩ h1 d_Md_rankAll_122 ?_
    refine q_bipush (pc := 123) (v := -9) C d_Md_rankAll_123 (by decide) ?_
    obtain ⟨h8, h9⟩ := h
    refine q_icmp_eq (pc := 125) 168 C d_Md_rankAll_125 (by decide) (fun hc => ?_) (fun hc => ?_)
    · have h := h8 hc
      refine q_iinc (pc := 168) (v2 + (1 : Int32)) [(2, .int (v2 + (1 : Int32))), (0, .ref (ya Y 43)), (1, .int x1)] C d_Md_rankAll_168 2 rfl rfl (by decide) rfl ?_
      refine q_goto (pc := 171) 110 C d_Md_rankAll_171 (by decide) ?_
      refine q_sub [(0, .ref (ya Y 43)), (1, .int x1), (2, .int (v2 + (1 : Int32)))] [1, 2, 0] rfl ?_
      exact ih (v2 + (1 : Int32)) σ h
    have h := h9 hc
    refine q_aload_n (pc := 128) C d_Md_rankAll_128 rfl 0 rfl ?_
    refine q_get (pc := 129) (c := 43) (ci := 7) (k := 21) (v := .ref (ya Y 57)) C rfl (by decide) (by decide) wd_754 rfl d_Md_rankAll_129 ?_
    refine q_aload_n (pc := 132) C d_Md_rankAll_132 rfl 0 rfl ?_
    refine q_get (pc := 133) (c := 43) (ci := 7) (k := 25) (v := .ref (ya Y 61)) C rfl (by decide) (by decide) wd_758 rfl d_Md_rankAll_133 ?_
    refine q_sipush (pc := 136) (v := 256) C d_Md_rankAll_136 (by decide) ?_
    refine q_iload_n (pc := 139) C d_Md_rankAll_139 rfl 1 rfl ?_
    refine q_imul (pc := 140) C d_Md_rankAll_140 ?_
    refine q_iload_n (pc := 141) C d_Md_rankAll_141 rfl 2 rfl ?_
    refine q_iadd (pc := 142) C d_Md_rankAll_142 ?_
    obtain ⟨h2, h⟩ := h
    refine q_iald (pc := 143) (c := 61) C ⟨rfl, rfl⟩ h2 d_Md_rankAll_143 ?_
    obtain ⟨h3, h⟩ := h
    refine q_iald (pc := 144) (c := 57) C ⟨rfl, rfl⟩ h3 d_Md_rankAll_144 ?_
    refine q_nmi (fun y3_145 ey3_145 => ?_)
    replace h := h y3_145 ey3_145
    refine q_istore_n (pc := 145) [(3, .int y3_145), (0, .ref (ya Y 43)), (1, .int x1), (2, .int v2)] C d_Md_rankAll_145 rfl (by decide) rfl ?_
    refine q_aload_n (pc := 146) C d_Md_rankAll_146 rfl 1 rfl ?_
    refine q_get (pc := 147) (c := 43) (ci := 7) (k := 23) (v := .ref (ya Y 59)) C rfl (by decide) (by decide) wd_756 rfl d_Md_rankAll_147 ?_
    refine q_iload_n (pc := 150) C d_Md_rankAll_150 rfl 3 rfl ?_
    refine q_aload_n (pc := 151) C d_Md_rankAll_151 rfl 1 rfl ?_
    refine q_get (pc := 152) (c := 43) (ci := 7) (k := 24) (v := .ref (ya Y 60)) C rfl (by decide) (by decide) wd_757 rfl d_Md_rankAll_152 ?_
    refine q_iload_n (pc := 155) C d_Md_rankAll_155 rfl 0 rfl ?_
    obtain ⟨h4, h⟩ := h
    refine q_iald (pc := 156) (c := 60) C ⟨rfl, rfl⟩ h4 d_Md_rankAll_156 ?_
    obtain ⟨h5, h⟩ := h
    refine q_iast (pc := 157) (c := 59) C ⟨rfl, rfl⟩ h5 d_Md_rankAll_157 ?_
    refine q_nms (fun τ157 eτ157 => ?_)
    replace h := h τ157 eτ157
    refine q_aload_n (pc := 158) C d_Md_rankAll_158 rfl 1 rfl ?_
    refine q_get (pc := 159) (c := 43) (ci := 7) (k := 24) (v := .ref (ya Y 60)) C rfl (by decide) (by decide) wd_757 rfl d_Md_rankAll_159 ?_
    refine q_iload_n (pc := 162) C d_Md_rankAll_162 rfl 0 rfl ?_
    refine q_dup2 (pc := 163) C d_Md_rankAll_163 rfl rfl ?_
    obtain ⟨h6, h⟩ := h
    refine q_iald (pc := 164) (c := 60) C ⟨rfl, rfl⟩ h6 d_Md_rankAll_164 ?_
    refine q_iconst (pc := 165) (v := 1) C d_Md_rankAll_165 (by decide) ?_
    refine q_iadd (pc := 166) C d_Md_rankAll_166 ?_
    obtain ⟨h7, h⟩ := h
    refine q_iast (pc := 167) (c := 60) C ⟨rfl, rfl⟩ h7 d_Md_rankAll_167 ?_
    refine q_nms (fun τ167 eτ167 => ?_)
    replace h := h τ167 eτ167
    refine q_iinc (pc := 168) (v2 + (1 : Int32)) [(2, .int (v2 + (1 : Int32))), (3, .int y3_145), (0, .ref (ya Y 43)), (1, .int x1)] C d_Md_rankAll_168 3 rfl rfl (by decide) rfl ?_
    refine q_goto (pc := 171) 110 C d_Md_rankAll_171 (by decide) ?_
    refine q_sub [(0, .ref (ya Y 43)), (1, .int x1), (2, .int (v2 + (1 : Int32)))] [2, 3, 0] rfl ?_
    exact ih (v2 + (1 : Int32)) τ167 h
def L_Md_rankAll_78 (x1 : Int32) (K : Sg → Prop) : Nat → Int32 → Sg → Prop
  | 0, _, _ => False
  | n + 1, v2, σ =>
    (((256 : Int32) ≤ v2 → (∃ n12 : Nat, L_Md_rankAll_110 x1 K n12 (0 : Int32) σ)) ∧ (¬ (256 : Int32) ≤ v2 → (vp_in (v2 + (1 : Int32)) 257 ∧ (vp_in v2 257 ∧ (vp_in (v2 + (1 : Int32)) 257 ∧ (∀ τ101 : Sg, τ101 = s2 σ 60 (v2 + (1 : Int32)).toNatClampNeg ((σ 60 (v2 + (1 : Int32)).toNatClampNeg) + (σ 60 v2.toNatClampNeg)) → L_Md_rankAll_78 x1 K n (v2 + (1 : Int32)) τ101))))))
theorem t_Md_rankAll_78 {X : Bx} {Y : Yx} {x1 : Int32} {K : Sg → Prop}  (hY : YD Y) (C : Cx X Y prog_9_method_29_code 4 "LoadCyclesModel" 0 0) (hr : (xh X).sig.returnType = none)  : ∀ (n : Nat) (v2 : Int32) (σ : Sg), L_Md_rankAll_78 x1 K n v2 σ → St X Y 4 (QV X Y K) 78 [(0, .ref (ya Y 43)), (1, .int x1), (2, .int v2)] [] σ := by
  intro n
  induction n with
  | zero => intro v2 σ h; exact h.elim
  | succ n ih =>
    intro v2 σ h
    unfold L_Md_rankAll_78 at h
    refine q_iload_n (pc := 78) C d_Md_rankAll_78 rfl 2 rfl ?_
    refine q_sipush (pc := 79) (v := 256) C d_Md_rankAll_79 (by decide) ?_
    obtain ⟨h16, h17⟩ := h
    refine q_icmp_ge (pc := 82) 108 C d_Md_rankAll_82 (by decide) (fun hc => ?_) (fun hc => ?_)
    · have h := h16 hc
      refine q_iconst (pc := 108) (v := 0) C d_Md_rankAll_108 (by decide) ?_
      refine q_istore_n (pc := 109) [(2, .int (0 : Int32)), (0, .ref (ya Y 43)), (1, .int x1)] C d_Md_rankAll_109 rfl (by decide) rfl ?_
      obtain ⟨n12, h⟩ := h
      refine q_sub [(0, .ref (ya Y 43)), (1, .int x1), (2, .int (0 : Int32))] [1, 2, 0] rfl ?_
      exact t_Md_rankAll_110 hY C hr n12 (0 : Int32) σ h
    have h := h17 hc
    refine q_aload_n (pc := 85) C d_Md_rankAll_85 rfl 0 rfl ?_
    refine q_get (pc := 86) (c := 43) (ci := 7) (k := 24) (v := .ref (ya Y 60)) C rfl (by decide) (by decide) wd_757 rfl d_Md_rankAll_86 ?_
    refine q_iload_n (pc := 89) C d_Md_rankAll_89 rfl 2 rfl ?_
    refine q_iconst (pc := 90) (v := 1) C d_Md_rankAll_90 (by decide) ?_
    refine q_iadd (pc := 91) C d_Md_rankAll_91 ?_
    refine q_dup2 (pc := 92) C d_Md_rankAll_92 rfl rfl ?_
    obtain ⟨h13, h⟩ := h
    refine q_iald (pc := 93) (c := 60) C ⟨rfl, rfl⟩ h13 d_Md_rankAll_93 ?_
    refine q_aload_n (pc := 94) C d_Md_rankAll_94 rfl 0 rfl ?_
    refine q_get (pc := 95) (c := 43) (ci := 7) (k := 24) (v := .ref (ya Y 60)) C rfl (by decide) (by decide) wd_757 rfl d_Md_rankAll_95 ?_
    refine q_iload_n (pc := 98) C d_Md_rankAll_98 rfl 2 rfl ?_
    obtain ⟨h14, h⟩ := h
    refine q_iald (pc := 99) (c := 60) C ⟨rfl, rfl⟩ h14 d_Md_rankAll_99 ?_
    refine q_iadd (pc := 100) C d_Md_rankAll_100 ?_
    obtain ⟨h15, h⟩ := h
    refine q_iast (pc := 101) (c := 60) C ⟨rfl, rfl⟩ h15 d_Md_rankAll_101 ?_
    refine q_nms (fun τ101 eτ101 => ?_)
    replace h := h τ101 eτ101
    refine q_iinc (pc := 102) (v2 + (1 : Int32)) [(2, .int (v2 + (1 : Int32))), (0, .ref (ya Y 43)), (1, .int x1)] C d_Md_rankAll_102 2 rfl rfl (by decide) rfl ?_
    refine q_goto (pc := 105) 78 C d_Md_rankAll_105 (by decide) ?_
    refine q_sub [(0, .ref (ya Y 43)), (1, .int x1), (2, .int (v2 + (1 : Int32)))] [1, 2, 0] rfl ?_
    exact ih (v2 + (1 : Int32)) τ101 h
def L_Md_rankAll_24 (x1 : Int32) (K : Sg → Prop) : Nat → Int32 → Sg → Prop
  | 0, _, _ => False
  | n + 1, v2, σ =>
    (((256 : Int32) ≤ v2 → (∃ n18 : Nat, L_Md_rankAll_78 x1 K n18 (0 : Int32) σ)) ∧ (¬ (256 : Int32) ≤ v2 → (vp_in v2 256 ∧ (((σ 58 v2.toNatClampNeg) = (-9 : Int32) → L_Md_rankAll_24 x1 K n (v2 + (1 : Int32)) σ) ∧ (¬ (σ 58 v2.toNatClampNeg) = (-9 : Int32) → (vp_in (((256 : Int32) * x1) + v2) 5120 ∧ (vp_in (σ 61 (((256 : Int32) * x1) + v2).toNatClampNeg) 256 ∧ (vp_in ((σ 57 (σ 61 (((256 : Int32) * x1) + v2).toNatClampNeg).toNatClampNeg) + (1 : Int32)) 257 ∧ (vp_in ((σ 57 (σ 61 (((256 : Int32) * x1) + v2).toNatClampNeg).toNatClampNeg) + (1 : Int32)) 257 ∧ (∀ τ69 : Sg, τ69 = s2 σ 60 ((σ 57 (σ 61 (((256 : Int32) * x1) + v2).toNatClampNeg).toNatClampNeg) + (1 : Int32)).toNatClampNeg ((σ 60 ((σ 57 (σ 61 (((256 : Int32) * x1) + v2).toNatClampNeg).toNatClampNeg) + (1 : Int32)).toNatClampNeg) + (1 : Int32)) → L_Md_rankAll_24 x1 K n (v2 + (1 : Int32)) τ69))))))))))
theorem t_Md_rankAll_24 {X : Bx} {Y : Yx} {x1 : Int32} {K : Sg → Prop}  (hY : YD Y) (C : Cx X Y prog_9_method_29_code 4 "LoadCyclesModel" 0 0) (hr : (xh X).sig.returnType = none)  : ∀ (n : Nat) (v2 : Int32) (σ : Sg), L_Md_rankAll_24 x1 K n v2 σ → St X Y 4 (QV X Y K) 24 [(0, .ref (ya Y 43)), (1, .int x1), (2, .int v2)] [] σ := by
  intro n
  induction n with
  | zero => intro v2 σ h; exact h.elim
  | succ n ih =>
    intro v2 σ h
    unfold L_Md_rankAll_24 at h
    refine q_iload_n (pc := 24) C d_Md_rankAll_24 rfl 2 rfl ?_
    refine q_sipush (pc := 25) (v := 256) C d_Md_rankAll_25 (by decide) ?_
    obtain ⟨h26, h27⟩ := h
    refine q_icmp_ge (pc := 28) 76 C d_Md_rankAll_28 (by decide) (fun hc => ?_) (fun hc => ?_)
    · have h := h26 hc
      refine q_iconst (pc := 76) (v := 0) C d_Md_rankAll_76 (by decide) ?_
      refine q_istore_n (pc := 77) [(2, .int (0 : Int32)), (0, .ref (ya Y 43)), (1, .int x1)] C d_Md_rankAll_77 rfl (by decide) rfl ?_
      obtain ⟨n18, h⟩ := h
      refine q_sub [(0, .ref (ya Y 43)), (1, .int x1), (2, .int (0 : Int32))] [1, 2, 0] rfl ?_
      exact t_Md_rankAll_78 hY C hr n18 (0 : Int32) σ h
    have h := h27 hc
    refine q_aload_n (pc := 31) C d_Md_rankAll_31 rfl 0 rfl ?_
    refine q_get (pc := 32) (c := 43) (ci := 7) (k := 22) (v := .ref (ya Y 58)) C rfl (by decide) (by decide) wd_755 rfl d_Md_rankAll_32 ?_
    refine q_iload_n (pc := 35) C d_Md_rankAll_35 rfl 2 rfl ?_
    obtain ⟨h19, h⟩ := h
    refine q_iald (pc := 36) (c := 58) C ⟨rfl, rfl⟩ h19 d_Md_rankAll_36 ?_
    refine q_bipush (pc := 37) (v := -9) C d_Md_rankAll_37 (by decide) ?_
    obtain ⟨h24, h25⟩ := h
    refine q_icmp_eq (pc := 39) 70 C d_Md_rankAll_39 (by decide) (fun hc => ?_) (fun hc => ?_)
    · have h := h24 hc
      refine q_iinc (pc := 70) (v2 + (1 : Int32)) [(2, .int (v2 + (1 : Int32))), (0, .ref (ya Y 43)), (1, .int x1)] C d_Md_rankAll_70 2 rfl rfl (by decide) rfl ?_
      refine q_goto (pc := 73) 24 C d_Md_rankAll_73 (by decide) ?_
      refine q_sub [(0, .ref (ya Y 43)), (1, .int x1), (2, .int (v2 + (1 : Int32)))] [1, 2, 0] rfl ?_
      exact ih (v2 + (1 : Int32)) σ h
    have h := h25 hc
    refine q_aload_n (pc := 42) C d_Md_rankAll_42 rfl 0 rfl ?_
    refine q_get (pc := 43) (c := 43) (ci := 7) (k := 24) (v := .ref (ya Y 60)) C rfl (by decide) (by decide) wd_757 rfl d_Md_rankAll_43 ?_
    refine q_aload_n (pc := 46) C d_Md_rankAll_46 rfl 0 rfl ?_
    refine q_get (pc := 47) (c := 43) (ci := 7) (k := 21) (v := .ref (ya Y 57)) C rfl (by decide) (by decide) wd_754 rfl d_Md_rankAll_47 ?_
    refine q_aload_n (pc := 50) C d_Md_rankAll_50 rfl 0 rfl ?_
    refine q_get (pc := 51) (c := 43) (ci := 7) (k := 25) (v := .ref (ya Y 61)) C rfl (by decide) (by decide) wd_758 rfl d_Md_rankAll_51 ?_
    refine q_sipush (pc := 54) (v := 256) C d_Md_rankAll_54 (by decide) ?_
    refine q_iload_n (pc := 57) C d_Md_rankAll_57 rfl 1 rfl ?_
    refine q_imul (pc := 58) C d_Md_rankAll_58 ?_
    refine q_iload_n (pc := 59) C d_Md_rankAll_59 rfl 2 rfl ?_
    refine q_iadd (pc := 60) C d_Md_rankAll_60 ?_
    obtain ⟨h20, h⟩ := h
    refine q_iald (pc := 61) (c := 61) C ⟨rfl, rfl⟩ h20 d_Md_rankAll_61 ?_
    obtain ⟨h21, h⟩ := h
    refine q_iald (pc := 62) (c := 57) C ⟨rfl, rfl⟩ h21 d_Md_rankAll_62 ?_
    refine q_iconst (pc := 63) (v := 1) C d_Md_rankAll_63 (by decide) ?_
    refine q_iadd (pc := 64) C d_Md_rankAll_64 ?_
    refine q_dup2 (pc := 65) C d_Md_rankAll_65 rfl rfl ?_
    obtain ⟨h22, h⟩ := h
    refine q_iald (pc := 66) (c := 60) C ⟨rfl, rfl⟩ h22 d_Md_rankAll_66 ?_
    refine q_iconst (pc := 67) (v := 1) C d_Md_rankAll_67 (by decide) ?_
    refine q_iadd (pc := 68) C d_Md_rankAll_68 ?_
    obtain ⟨h23, h⟩ := h
    refine q_iast (pc := 69) (c := 60) C ⟨rfl, rfl⟩ h23 d_Md_rankAll_69 ?_
    refine q_nms (fun τ69 eτ69 => ?_)
    replace h := h τ69 eτ69
    refine q_iinc (pc := 70) (v2 + (1 : Int32)) [(2, .int (v2 + (1 : Int32))), (0, .ref (ya Y 43)), (1, .int x1)] C d_Md_rankAll_70 2 rfl rfl (by decide) rfl ?_
    refine q_goto (pc := 73) 24 C d_Md_rankAll_73 (by decide) ?_
    refine q_sub [(0, .ref (ya Y 43)), (1, .int x1), (2, .int (v2 + (1 : Int32)))] [1, 2, 0] rfl ?_
    exact ih (v2 + (1 : Int32)) τ69 h
def L_Md_rankAll_2 (x1 : Int32) (K : Sg → Prop) : Nat → Int32 → Sg → Prop
  | 0, _, _ => False
  | n + 1, v2, σ =>
    (((256 : Int32) < v2 → (∃ n28 : Nat, L_Md_rankAll_24 x1 K n28 (0 : Int32) σ)) ∧ (¬ (256 : Int32) < v2 → (vp_in v2 257 ∧ (∀ τ15 : Sg, τ15 = s2 σ 60 v2.toNatClampNeg (0 : Int32) → L_Md_rankAll_2 x1 K n (v2 + (1 : Int32)) τ15))))
theorem t_Md_rankAll_2 {X : Bx} {Y : Yx} {x1 : Int32} {K : Sg → Prop}  (hY : YD Y) (C : Cx X Y prog_9_method_29_code 4 "LoadCyclesModel" 0 0) (hr : (xh X).sig.returnType = none)  : ∀ (n : Nat) (v2 : Int32) (σ : Sg), L_Md_rankAll_2 x1 K n v2 σ → St X Y 4 (QV X Y K) 2 [(0, .ref (ya Y 43)), (1, .int x1), (2, .int v2)] [] σ := by
  intro n
  induction n with
  | zero => intro v2 σ h; exact h.elim
  | succ n ih =>
    intro v2 σ h
    unfold L_Md_rankAll_2 at h
    refine q_iload_n (pc := 2) C d_Md_rankAll_2 rfl 2 rfl ?_
    refine q_sipush (pc := 3) (v := 256) C d_Md_rankAll_3 (by decide) ?_
    obtain ⟨h30, h31⟩ := h
    refine q_icmp_gt (pc := 6) 22 C d_Md_rankAll_6 (by decide) (fun hc => ?_) (fun hc => ?_)
    · have h := h30 hc
      refine q_iconst (pc := 22) (v := 0) C d_Md_rankAll_22 (by decide) ?_
      refine q_istore_n (pc := 23) [(2, .int (0 : Int32)), (0, .ref (ya Y 43)), (1, .int x1)] C d_Md_rankAll_23 rfl (by decide) rfl ?_
      obtain ⟨n28, h⟩ := h
      refine q_sub [(0, .ref (ya Y 43)), (1, .int x1), (2, .int (0 : Int32))] [1, 2, 0] rfl ?_
      exact t_Md_rankAll_24 hY C hr n28 (0 : Int32) σ h
    have h := h31 hc
    refine q_aload_n (pc := 9) C d_Md_rankAll_9 rfl 0 rfl ?_
    refine q_get (pc := 10) (c := 43) (ci := 7) (k := 24) (v := .ref (ya Y 60)) C rfl (by decide) (by decide) wd_757 rfl d_Md_rankAll_10 ?_
    refine q_iload_n (pc := 13) C d_Md_rankAll_13 rfl 2 rfl ?_
    refine q_iconst (pc := 14) (v := 0) C d_Md_rankAll_14 (by decide) ?_
    obtain ⟨h29, h⟩ := h
    refine q_iast (pc := 15) (c := 60) C ⟨rfl, rfl⟩ h29 d_Md_rankAll_15 ?_
    refine q_nms (fun τ15 eτ15 => ?_)
    replace h := h τ15 eτ15
    refine q_iinc (pc := 16) (v2 + (1 : Int32)) [(2, .int (v2 + (1 : Int32))), (0, .ref (ya Y 43)), (1, .int x1)] C d_Md_rankAll_16 2 rfl rfl (by decide) rfl ?_
    refine q_goto (pc := 19) 2 C d_Md_rankAll_19 (by decide) ?_
    refine q_sub [(0, .ref (ya Y 43)), (1, .int x1), (2, .int (v2 + (1 : Int32)))] [1, 2, 0] rfl ?_
    exact ih (v2 + (1 : Int32)) τ15 h
def w_Md_rankAll (x1 : Int32) (σ : Sg) (K : Sg → Prop) : Prop :=
  (∃ n32 : Nat, L_Md_rankAll_2 x1 K n32 (0 : Int32) σ)
set_option maxHeartbeats 4000000 in
theorem m_Md_rankAll {Y : Yx} {x1 : Int32} {σ : Sg} {K : Sg → Prop} (hY : YD Y)  (h : w_Md_rankAll x1 σ K) : MetV Y y_Md_rankAll prog_9_method_29_code 4 0 0 [.ref (ya Y 43), .int x1] σ K := by
  refine met_V [(0, .ref (ya Y 43)), (1, .int x1)] hY (by decide) (Nat.le_of_ble_eq_true rfl) rfl (fun X C hr => ?_)
  unfold w_Md_rankAll at h
  refine q_iconst (pc := 0) (v := 0) C d_Md_rankAll_0 (by decide) ?_
  refine q_istore_n (pc := 1) [(2, .int (0 : Int32)), (0, .ref (ya Y 43)), (1, .int x1)] C d_Md_rankAll_1 rfl (by decide) rfl ?_
  obtain ⟨n32, h⟩ := h
  refine q_sub [(0, .ref (ya Y 43)), (1, .int x1), (2, .int (0 : Int32))] [1, 2, 0] rfl ?_
  exact t_Md_rankAll_2 hY C hr n32 (0 : Int32) σ h
theorem d_Md_walkBack_0 : decode prog_9_method_31_code 0 = .ok (.iconst 0, 1) := by decide +kernel
theorem d_Md_walkBack_1 : decode prog_9_method_31_code 1 = .ok (.istore_n 1, 1) := by decide +kernel
theorem d_Md_walkBack_2 : decode prog_9_method_31_code 2 = .ok (.iconst 0, 1) := by decide +kernel
theorem d_Md_walkBack_3 : decode prog_9_method_31_code 3 = .ok (.istore_n 2, 1) := by decide +kernel
theorem d_Md_walkBack_4 : decode prog_9_method_31_code 4 = .ok (.iload_n 2, 1) := by decide +kernel
theorem d_Md_walkBack_5 : decode prog_9_method_31_code 5 = .ok (.sipush 256, 3) := by decide +kernel
theorem d_Md_walkBack_8 : decode prog_9_method_31_code 8 = .ok (.if_icmp .ge 77, 3) := by decide +kernel
theorem d_Md_walkBack_11 : decode prog_9_method_31_code 11 = .ok (.aload_n 0, 1) := by decide +kernel
theorem d_Md_walkBack_12 : decode prog_9_method_31_code 12 = .ok (.getfield 46, 3) := by decide +kernel
theorem d_Md_walkBack_15 : decode prog_9_method_31_code 15 = .ok (.iload_n 2, 1) := by decide +kernel
theorem d_Md_walkBack_16 : decode prog_9_method_31_code 16 = .ok (.iaload, 1) := by decide +kernel
theorem d_Md_walkBack_17 : decode prog_9_method_31_code 17 = .ok (.aload_n 0, 1) := by decide +kernel
theorem d_Md_walkBack_18 : decode prog_9_method_31_code 18 = .ok (.getfield 46, 3) := by decide +kernel
theorem d_Md_walkBack_21 : decode prog_9_method_31_code 21 = .ok (.iload_n 1, 1) := by decide +kernel
theorem d_Md_walkBack_22 : decode prog_9_method_31_code 22 = .ok (.iaload, 1) := by decide +kernel
theorem d_Md_walkBack_23 : decode prog_9_method_31_code 23 = .ok (.if_icmp .lt 33, 3) := by decide +kernel
theorem d_Md_walkBack_26 : decode prog_9_method_31_code 26 = .ok (.aload_n 0, 1) := by decide +kernel
theorem d_Md_walkBack_27 : decode prog_9_method_31_code 27 = .ok (.getfield 46, 3) := by decide +kernel
theorem d_Md_walkBack_30 : decode prog_9_method_31_code 30 = .ok (.iload_n 2, 1) := by decide +kernel
theorem d_Md_walkBack_31 : decode prog_9_method_31_code 31 = .ok (.iaload, 1) := by decide +kernel
theorem d_Md_walkBack_32 : decode prog_9_method_31_code 32 = .ok (.aload_n 0, 1) := by decide +kernel
theorem d_Md_walkBack_33 : decode prog_9_method_31_code 33 = .ok (.getfield 46, 3) := by decide +kernel
theorem d_Md_walkBack_36 : decode prog_9_method_31_code 36 = .ok (.iload_n 1, 1) := by decide +kernel
theorem d_Md_walkBack_37 : decode prog_9_method_31_code 37 = .ok (.iaload, 1) := by decide +kernel
theorem d_Md_walkBack_38 : decode prog_9_method_31_code 38 = .ok (.if_icmp .ne 22, 3) := by decide +kernel
theorem d_Md_walkBack_41 : decode prog_9_method_31_code 41 = .ok (.aload_n 0, 1) := by decide +kernel
theorem d_Md_walkBack_42 : decode prog_9_method_31_code 42 = .ok (.getfield 49, 3) := by decide +kernel
theorem d_Md_walkBack_45 : decode prog_9_method_31_code 45 = .ok (.iload_n 2, 1) := by decide +kernel
theorem d_Md_walkBack_46 : decode prog_9_method_31_code 46 = .ok (.iaload, 1) := by decide +kernel
theorem d_Md_walkBack_47 : decode prog_9_method_31_code 47 = .ok (.aload_n 0, 1) := by decide +kernel
theorem d_Md_walkBack_48 : decode prog_9_method_31_code 48 = .ok (.getfield 49, 3) := by decide +kernel
theorem d_Md_walkBack_51 : decode prog_9_method_31_code 51 = .ok (.iload_n 1, 1) := by decide +kernel
theorem d_Md_walkBack_52 : decode prog_9_method_31_code 52 = .ok (.iaload, 1) := by decide +kernel
theorem d_Md_walkBack_53 : decode prog_9_method_31_code 53 = .ok (.if_icmp .ge 7, 3) := by decide +kernel
theorem d_Md_walkBack_56 : decode prog_9_method_31_code 56 = .ok (.iconst 1, 1) := by decide +kernel
theorem d_Md_walkBack_57 : decode prog_9_method_31_code 57 = .ok (.goto 4, 3) := by decide +kernel
theorem d_Md_walkBack_60 : decode prog_9_method_31_code 60 = .ok (.iconst 0, 1) := by decide +kernel
theorem d_Md_walkBack_61 : decode prog_9_method_31_code 61 = .ok (.istore_n 3, 1) := by decide +kernel
theorem d_Md_walkBack_62 : decode prog_9_method_31_code 62 = .ok (.aload_n 0, 1) := by decide +kernel
theorem d_Md_walkBack_63 : decode prog_9_method_31_code 63 = .ok (.getfield 46, 3) := by decide +kernel
theorem d_Md_walkBack_66 : decode prog_9_method_31_code 66 = .ok (.iload_n 2, 1) := by decide +kernel
theorem d_Md_walkBack_67 : decode prog_9_method_31_code 67 = .ok (.iaload, 1) := by decide +kernel
theorem d_Md_walkBack_68 : decode prog_9_method_31_code 68 = .ok (.bipush (-9), 2) := by decide +kernel
theorem d_Md_walkBack_70 : decode prog_9_method_31_code 70 = .ok (.if_icmp .eq 9, 3) := by decide +kernel
theorem d_Md_walkBack_73 : decode prog_9_method_31_code 73 = .ok (.iload_n 3, 1) := by decide +kernel
theorem d_Md_walkBack_74 : decode prog_9_method_31_code 74 = .ok (.ifCond .eq 5, 3) := by decide +kernel
theorem d_Md_walkBack_77 : decode prog_9_method_31_code 77 = .ok (.iload_n 2, 1) := by decide +kernel
theorem d_Md_walkBack_78 : decode prog_9_method_31_code 78 = .ok (.istore_n 1, 1) := by decide +kernel
theorem d_Md_walkBack_79 : decode prog_9_method_31_code 79 = .ok (.iinc 2 1, 3) := by decide +kernel
theorem d_Md_walkBack_82 : decode prog_9_method_31_code 82 = .ok (.goto (-78), 3) := by decide +kernel
theorem d_Md_walkBack_85 : decode prog_9_method_31_code 85 = .ok (.aload_n 0, 1) := by decide +kernel
theorem d_Md_walkBack_86 : decode prog_9_method_31_code 86 = .ok (.getfield 96, 3) := by decide +kernel
theorem d_Md_walkBack_89 : decode prog_9_method_31_code 89 = .ok (.iconst 1, 1) := by decide +kernel
theorem d_Md_walkBack_90 : decode prog_9_method_31_code 90 = .ok (.isub, 1) := by decide +kernel
theorem d_Md_walkBack_91 : decode prog_9_method_31_code 91 = .ok (.istore_n 2, 1) := by decide +kernel
theorem d_Md_walkBack_92 : decode prog_9_method_31_code 92 = .ok (.iload_n 2, 1) := by decide +kernel
theorem d_Md_walkBack_93 : decode prog_9_method_31_code 93 = .ok (.ifCond .lt 29, 3) := by decide +kernel
theorem d_Md_walkBack_96 : decode prog_9_method_31_code 96 = .ok (.aload_n 0, 1) := by decide +kernel
theorem d_Md_walkBack_97 : decode prog_9_method_31_code 97 = .ok (.getfield 64, 3) := by decide +kernel
theorem d_Md_walkBack_100 : decode prog_9_method_31_code 100 = .ok (.iload_n 2, 1) := by decide +kernel
theorem d_Md_walkBack_101 : decode prog_9_method_31_code 101 = .ok (.iload_n 1, 1) := by decide +kernel
theorem d_Md_walkBack_102 : decode prog_9_method_31_code 102 = .ok (.iastore, 1) := by decide +kernel
theorem d_Md_walkBack_103 : decode prog_9_method_31_code 103 = .ok (.aload_n 0, 1) := by decide +kernel
theorem d_Md_walkBack_104 : decode prog_9_method_31_code 104 = .ok (.getfield 61, 3) := by decide +kernel
theorem d_Md_walkBack_107 : decode prog_9_method_31_code 107 = .ok (.sipush 256, 3) := by decide +kernel
theorem d_Md_walkBack_110 : decode prog_9_method_31_code 110 = .ok (.iload_n 2, 1) := by decide +kernel
theorem d_Md_walkBack_111 : decode prog_9_method_31_code 111 = .ok (.imul, 1) := by decide +kernel
theorem d_Md_walkBack_112 : decode prog_9_method_31_code 112 = .ok (.iload_n 1, 1) := by decide +kernel
theorem d_Md_walkBack_113 : decode prog_9_method_31_code 113 = .ok (.iadd, 1) := by decide +kernel
theorem d_Md_walkBack_114 : decode prog_9_method_31_code 114 = .ok (.iaload, 1) := by decide +kernel
theorem d_Md_walkBack_115 : decode prog_9_method_31_code 115 = .ok (.istore_n 1, 1) := by decide +kernel
theorem d_Md_walkBack_116 : decode prog_9_method_31_code 116 = .ok (.iinc 2 (-1), 3) := by decide +kernel
theorem d_Md_walkBack_119 : decode prog_9_method_31_code 119 = .ok (.goto (-27), 3) := by decide +kernel
theorem d_Md_walkBack_122 : decode prog_9_method_31_code 122 = .ok (.return_, 1) := by decide +kernel
abbrev y_Md_walkBack : MethodName := ⟨"LoadCyclesModel", "walkBack", "()V"⟩
theorem mi_Md_walkBack : miV y_Md_walkBack prog_9_method_31_code 4 none 0 := ⟨wd_955, wd_46, wd_72, wd_956, by decide, by decide, by decide +kernel⟩
def L_Md_walkBack_92 (K : Sg → Prop) : Nat → Int32 → Int32 → Sg → Prop
  | 0, _, _, _ => False
  | n + 1, v1, v2, σ =>
    ((v2 < 0 → K σ) ∧ (¬ v2 < 0 → (vp_in v2 20 ∧ (∀ τ102 : Sg, τ102 = s2 σ 62 v2.toNatClampNeg v1 → (vp_in (((256 : Int32) * v2) + v1) 5120 ∧ (∀ y1_115 : Int32, y1_115 = (τ102 61 (((256 : Int32) * v2) + v1).toNatClampNeg) → L_Md_walkBack_92 K n y1_115 (v2 + (-1 : Int32)) τ102))))))
theorem t_Md_walkBack_92 {X : Bx} {Y : Yx}  {K : Sg → Prop}  (hY : YD Y) (C : Cx X Y prog_9_method_31_code 4 "LoadCyclesModel" 0 0) (hr : (xh X).sig.returnType = none)  : ∀ (n : Nat) (v1 : Int32) (v2 : Int32) (σ : Sg), L_Md_walkBack_92 K n v1 v2 σ → St X Y 4 (QV X Y K) 92 [(0, .ref (ya Y 43)), (1, .int v1), (2, .int v2)] [] σ := by
  intro n
  induction n with
  | zero => intro v1 v2 σ h; exact h.elim
  | succ n ih =>
    intro v1 v2 σ h
    unfold L_Md_walkBack_92 at h
    refine q_iload_n (pc := 92) C d_Md_walkBack_92 rfl 2 rfl ?_
    obtain ⟨h3, h4⟩ := h
    refine q_if_lt (pc := 93) 122 C d_Md_walkBack_93 (by decide) (fun hc => ?_) (fun hc => ?_)
    · have h := h3 hc
      exact q_vret (pc := 122) C hr d_Md_walkBack_122 h
    have h := h4 hc
    refine q_aload_n (pc := 96) C d_Md_walkBack_96 rfl 0 rfl ?_
    refine q_get (pc := 97) (c := 43) (ci := 7) (k := 26) (v := .ref (ya Y 62)) C rfl (by decide) (by decide) wd_759 rfl d_Md_walkBack_97 ?_
    refine q_iload_n (pc := 100) C d_Md_walkBack_100 rfl 2 rfl ?_
    refine q_iload_n (pc := 101) C d_Md_walkBack_101 rfl 1 rfl ?_
    obtain ⟨h1, h⟩ := h
    refine q_iast (pc := 102) (c := 62) C ⟨rfl, rfl⟩ h1 d_Md_walkBack_102 ?_
    refine q_nms (fun τ102 eτ102 => ?_)
    replace h := h τ102 eτ102
    refine q_aload_n (pc := 103) C d_Md_walkBack_103 rfl 0 rfl ?_
    refine q_get (pc := 104) (c := 43) (ci := 7) (k := 25) (v := .ref (ya Y 61)) C rfl (by decide) (by decide) wd_758 rfl d_Md_walkBack_104 ?_
    refine q_sipush (pc := 107) (v := 256) C d_Md_walkBack_107 (by decide) ?_
    refine q_iload_n (pc := 110) C d_Md_walkBack_110 rfl 2 rfl ?_
    refine q_imul (pc := 111) C d_Md_walkBack_111 ?_
    refine q_iload_n (pc := 112) C d_Md_walkBack_112 rfl 1 rfl ?_
    refine q_iadd (pc := 113) C d_Md_walkBack_113 ?_
    obtain ⟨h2, h⟩ := h
    refine q_iald (pc := 114) (c := 61) C ⟨rfl, rfl⟩ h2 d_Md_walkBack_114 ?_
    refine q_nmi (fun y1_115 ey1_115 => ?_)
    replace h := h y1_115 ey1_115
    refine q_istore_n (pc := 115) [(1, .int y1_115), (0, .ref (ya Y 43)), (2, .int v2)] C d_Md_walkBack_115 rfl (by decide) rfl ?_
    refine q_iinc (pc := 116) (v2 + (-1 : Int32)) [(2, .int (v2 + (-1 : Int32))), (1, .int y1_115), (0, .ref (ya Y 43))] C d_Md_walkBack_116 2 rfl rfl (by decide) rfl ?_
    refine q_goto (pc := 119) 92 C d_Md_walkBack_119 (by decide) ?_
    refine q_sub [(0, .ref (ya Y 43)), (1, .int y1_115), (2, .int (v2 + (-1 : Int32)))] [2, 1, 0] rfl ?_
    exact ih y1_115 (v2 + (-1 : Int32)) τ102 h
def B_Md_walkBack_61 (K : Sg → Prop) (r4 : Int32 → Int32 → Sg → Prop) (v1 : Int32) (v2 : Int32) (vs0 : Int32) (σ : Sg) : Prop :=
  (vp_in v2 256 ∧ (((σ 56 v2.toNatClampNeg) = (-9 : Int32) → r4 v1 (v2 + (1 : Int32)) σ) ∧ (¬ (σ 56 v2.toNatClampNeg) = (-9 : Int32) → ((vs0 = 0 → r4 v1 (v2 + (1 : Int32)) σ) ∧ (¬ vs0 = 0 → r4 v2 (v2 + (1 : Int32)) σ)))))
theorem t_Md_walkBack_61 {X : Bx} {Y : Yx} {v1 : Int32} {v2 : Int32} {vs0 : Int32} {K : Sg → Prop} {r4 : Int32 → Int32 → Sg → Prop} (hY : YD Y) (C : Cx X Y prog_9_method_31_code 4 "LoadCyclesModel" 0 0) (hr : (xh X).sig.returnType = none)  (H4 : ∀ (v1 : Int32) (v2 : Int32) (σ : Sg), r4 v1 v2 σ → St X Y 4 (QV X Y K) 4 [(0, .ref (ya Y 43)), (1, .int v1), (2, .int v2)] [] σ)  {σ : Sg} (h : B_Md_walkBack_61 K r4 v1 v2 vs0 σ) : St X Y 4 (QV X Y K) 61 [(0, .ref (ya Y 43)), (1, .int v1), (2, .int v2)] [.int vs0] σ := by
  unfold B_Md_walkBack_61 at h
  refine q_istore_n (pc := 61) [(3, .int vs0), (0, .ref (ya Y 43)), (1, .int v1), (2, .int v2)] C d_Md_walkBack_61 rfl (by decide) rfl ?_
  refine q_aload_n (pc := 62) C d_Md_walkBack_62 rfl 1 rfl ?_
  refine q_get (pc := 63) (c := 43) (ci := 7) (k := 20) (v := .ref (ya Y 56)) C rfl (by decide) (by decide) wd_753 rfl d_Md_walkBack_63 ?_
  refine q_iload_n (pc := 66) C d_Md_walkBack_66 rfl 3 rfl ?_
  obtain ⟨h8, h⟩ := h
  refine q_iald (pc := 67) (c := 56) C ⟨rfl, rfl⟩ h8 d_Md_walkBack_67 ?_
  refine q_bipush (pc := 68) (v := -9) C d_Md_walkBack_68 (by decide) ?_
  obtain ⟨h11, h12⟩ := h
  refine q_icmp_eq (pc := 70) 79 C d_Md_walkBack_70 (by decide) (fun hc => ?_) (fun hc => ?_)
  · have h := h11 hc
    refine q_iinc (pc := 79) (v2 + (1 : Int32)) [(2, .int (v2 + (1 : Int32))), (3, .int vs0), (0, .ref (ya Y 43)), (1, .int v1)] C d_Md_walkBack_79 3 rfl rfl (by decide) rfl ?_
    refine q_goto (pc := 82) 4 C d_Md_walkBack_82 (by decide) ?_
    refine q_sub [(0, .ref (ya Y 43)), (1, .int v1), (2, .int (v2 + (1 : Int32)))] [2, 3, 0] rfl ?_
    exact H4 v1 (v2 + (1 : Int32)) σ h
  have h := h12 hc
  refine q_iload_n (pc := 73) C d_Md_walkBack_73 rfl 0 rfl ?_
  obtain ⟨h9, h10⟩ := h
  refine q_if_eq (pc := 74) 79 C d_Md_walkBack_74 (by decide) (fun hc => ?_) (fun hc => ?_)
  · have h := h9 hc
    refine q_iinc (pc := 79) (v2 + (1 : Int32)) [(2, .int (v2 + (1 : Int32))), (3, .int vs0), (0, .ref (ya Y 43)), (1, .int v1)] C d_Md_walkBack_79 3 rfl rfl (by decide) rfl ?_
    refine q_goto (pc := 82) 4 C d_Md_walkBack_82 (by decide) ?_
    refine q_sub [(0, .ref (ya Y 43)), (1, .int v1), (2, .int (v2 + (1 : Int32)))] [2, 3, 0] rfl ?_
    exact H4 v1 (v2 + (1 : Int32)) σ h
  have h := h10 hc
  refine q_iload_n (pc := 77) C d_Md_walkBack_77 rfl 3 rfl ?_
  refine q_istore_n (pc := 78) [(1, .int v2), (3, .int vs0), (0, .ref (ya Y 43)), (2, .int v2)] C d_Md_walkBack_78 rfl (by decide) rfl ?_
  refine q_iinc (pc := 79) (v2 + (1 : Int32)) [(2, .int (v2 + (1 : Int32))), (1, .int v2), (3, .int vs0), (0, .ref (ya Y 43))] C d_Md_walkBack_79 3 rfl rfl (by decide) rfl ?_
  refine q_goto (pc := 82) 4 C d_Md_walkBack_82 (by decide) ?_
  refine q_sub [(0, .ref (ya Y 43)), (1, .int v2), (2, .int (v2 + (1 : Int32)))] [3, 1, 0] rfl ?_
  exact H4 v2 (v2 + (1 : Int32)) σ h
def B_Md_walkBack_56 (K : Sg → Prop) (r4 : Int32 → Int32 → Sg → Prop) (v1 : Int32) (v2 : Int32) (σ : Sg) : Prop :=
  B_Md_walkBack_61 K r4 v1 v2 (1 : Int32) σ
theorem t_Md_walkBack_56 {X : Bx} {Y : Yx} {v1 : Int32} {v2 : Int32} {K : Sg → Prop} {r4 : Int32 → Int32 → Sg → Prop} (hY : YD Y) (C : Cx X Y prog_9_method_31_code 4 "LoadCyclesModel" 0 0) (hr : (xh X).sig.returnType = none)  (H4 : ∀ (v1 : Int32) (v2 : Int32) (σ : Sg), r4 v1 v2 σ → St X Y 4 (QV X Y K) 4 [(0, .ref (ya Y 43)), (1, .int v1), (2, .int v2)] [] σ)  {σ : Sg} (h : B_Md_walkBack_56 K r4 v1 v2 σ) : St X Y 4 (QV X Y K) 56 [(0, .ref (ya Y 43)), (1, .int v1), (2, .int v2)] [] σ := by
  unfold B_Md_walkBack_56 at h
  refine q_iconst (pc := 56) (v := 1) C d_Md_walkBack_56 (by decide) ?_
  refine q_goto (pc := 57) 61 C d_Md_walkBack_57 (by decide) ?_
  exact t_Md_walkBack_61 hY C hr H4 h
def B_Md_walkBack_60 (K : Sg → Prop) (r4 : Int32 → Int32 → Sg → Prop) (v1 : Int32) (v2 : Int32) (σ : Sg) : Prop :=
  B_Md_walkBack_61 K r4 v1 v2 (0 : Int32) σ
theorem t_Md_walkBack_60 {X : Bx} {Y : Yx} {v1 : Int32} {v2 : Int32} {K : Sg → Prop} {r4 : Int32 → Int32 → Sg → Prop} (hY : YD Y) (C : Cx X Y prog_9_method_31_code 4 "LoadCyclesModel" 0 0) (hr : (xh X).sig.returnType = none)  (H4 : ∀ (v1 : Int32) (v2 : Int32) (σ : Sg), r4 v1 v2 σ → St X Y 4 (QV X Y K) 4 [(0, .ref (ya Y 43)), (1, .int v1), (2, .int v2)] [] σ)  {σ : Sg} (h : B_Md_walkBack_60 K r4 v1 v2 σ) : St X Y 4 (QV X Y K) 60 [(0, .ref (ya Y 43)), (1, .int v1), (2, .int v2)] [] σ := by
  unfold B_Md_walkBack_60 at h
  refine q_iconst (pc := 60) (v := 0) C d_Md_walkBack_60 (by decide) ?_
  exact t_Md_walkBack_61 hY C hr H4 h
def L_Md_walkBack_4 (K : Sg → Prop) : Nat → Int32 → Int32 → Sg → Prop
  | 0, _, _, _ => False
  | n + 1, v1, v2, σ =>
    (((256 : Int32) ≤ v2 → (∀ y2_91 : Int32, y2_91 = ((σ 43 9) - (1 : Int32)) → (∃ n5 : Nat, L_Md_walkBack_92 K n5 v1 y2_91 σ))) ∧ (¬ (256 : Int32) ≤ v2 → (vp_in v2 256 ∧ (vp_in v1 256 ∧ (((σ 56 v2.toNatClampNeg) < (σ 56 v1.toNatClampNeg) → B_Md_walkBack_56 K (fun a0 a1 a2 => L_Md_walkBack_4 K n a0 a1 a2) v1 v2 σ) ∧ (¬ (σ 56 v2.toNatClampNeg) < (σ 56 v1.toNatClampNeg) → (vp_in v2 256 ∧ (vp_in v1 256 ∧ ((¬ (σ 56 v2.toNatClampNeg) = (σ 56 v1.toNatClampNeg) → B_Md_walkBack_60 K (fun a0 a1 a2 => L_Md_walkBack_4 K n a0 a1 a2) v1 v2 σ) ∧ ((σ 56 v2.toNatClampNeg) = (σ 56 v1.toNatClampNeg) → (vp_in v2 256 ∧ (vp_in v1 256 ∧ (((σ 57 v1.toNatClampNeg) ≤ (σ 57 v2.toNatClampNeg) → B_Md_walkBack_60 K (fun a0 a1 a2 => L_Md_walkBack_4 K n a0 a1 a2) v1 v2 σ) ∧ (¬ (σ 57 v1.toNatClampNeg) ≤ (σ 57 v2.toNatClampNeg) → B_Md_walkBack_56 K (fun a0 a1 a2 => L_Md_walkBack_4 K n a0 a1 a2) v1 v2 σ))))))))))))))
theorem t_Md_walkBack_4 {X : Bx} {Y : Yx}  {K : Sg → Prop}  (hY : YD Y) (C : Cx X Y prog_9_method_31_code 4 "LoadCyclesModel" 0 0) (hr : (xh X).sig.returnType = none)  : ∀ (n : Nat) (v1 : Int32) (v2 : Int32) (σ : Sg), L_Md_walkBack_4 K n v1 v2 σ → St X Y 4 (QV X Y K) 4 [(0, .ref (ya Y 43)), (1, .int v1), (2, .int v2)] [] σ := by
  intro n
  induction n with
  | zero => intro v1 v2 σ h; exact h.elim
  | succ n ih =>
    intro v1 v2 σ h
    unfold L_Md_walkBack_4 at h
    refine q_iload_n (pc := 4) C d_Md_walkBack_4 rfl 2 rfl ?_
    refine q_sipush (pc := 5) (v := 256) C d_Md_walkBack_5 (by decide) ?_
    obtain ⟨h23, h24⟩ := h
    refine q_icmp_ge (pc := 8) 85 C d_Md_walkBack_8 (by decide) (fun hc => ?_) (fun hc => ?_)
    · have h := h23 hc
      refine q_aload_n (pc := 85) C d_Md_walkBack_85 rfl 0 rfl ?_
      refine q_get (pc := 86) (c := 43) (ci := 7) (k := 9) (v := .int (σ 43 9)) C rfl (by decide) (by decide) wd_742 rfl d_Md_walkBack_86 ?_
      refine q_iconst (pc := 89) (v := 1) C d_Md_walkBack_89 (by decide) ?_
      refine q_isub (pc := 90) C d_Md_walkBack_90 ?_
      refine q_nmi (fun y2_91 ey2_91 => ?_)
      replace h := h y2_91 ey2_91
      refine q_istore_n (pc := 91) [(2, .int y2_91), (0, .ref (ya Y 43)), (1, .int v1)] C d_Md_walkBack_91 rfl (by decide) rfl ?_
      obtain ⟨n5, h⟩ := h
      refine q_sub [(0, .ref (ya Y 43)), (1, .int v1), (2, .int y2_91)] [1, 2, 0] rfl ?_
      exact t_Md_walkBack_92 hY C hr n5 v1 y2_91 σ h
    have h := h24 hc
    refine q_aload_n (pc := 11) C d_Md_walkBack_11 rfl 0 rfl ?_
    refine q_get (pc := 12) (c := 43) (ci := 7) (k := 20) (v := .ref (ya Y 56)) C rfl (by decide) (by decide) wd_753 rfl d_Md_walkBack_12 ?_
    refine q_iload_n (pc := 15) C d_Md_walkBack_15 rfl 2 rfl ?_
    obtain ⟨h6, h⟩ := h
    refine q_iald (pc := 16) (c := 56) C ⟨rfl, rfl⟩ h6 d_Md_walkBack_16 ?_
    refine q_aload_n (pc := 17) C d_Md_walkBack_17 rfl 0 rfl ?_
    refine q_get (pc := 18) (c := 43) (ci := 7) (k := 20) (v := .ref (ya Y 56)) C rfl (by decide) (by decide) wd_753 rfl d_Md_walkBack_18 ?_
    refine q_iload_n (pc := 21) C d_Md_walkBack_21 rfl 1 rfl ?_
    obtain ⟨h7, h⟩ := h
    refine q_iald (pc := 22) (c := 56) C ⟨rfl, rfl⟩ h7 d_Md_walkBack_22 ?_
    obtain ⟨h21, h22⟩ := h
    refine q_icmp_lt (pc := 23) 56 C d_Md_walkBack_23 (by decide) (fun hc => ?_) (fun hc => ?_)
    · have h := h21 hc
      exact t_Md_walkBack_56 hY C hr ih h
    have h := h22 hc
    refine q_aload_n (pc := 26) C d_Md_walkBack_26 rfl 0 rfl ?_
    refine q_get (pc := 27) (c := 43) (ci := 7) (k := 20) (v := .ref (ya Y 56)) C rfl (by decide) (by decide) wd_753 rfl d_Md_walkBack_27 ?_
    refine q_iload_n (pc := 30) C d_Md_walkBack_30 rfl 2 rfl ?_
    obtain ⟨h13, h⟩ := h
    refine q_iald (pc := 31) (c := 56) C ⟨rfl, rfl⟩ h13 d_Md_walkBack_31 ?_
    refine q_aload_n (pc := 32) C d_Md_walkBack_32 rfl 0 rfl ?_
    refine q_get (pc := 33) (c := 43) (ci := 7) (k := 20) (v := .ref (ya Y 56)) C rfl (by decide) (by decide) wd_753 rfl d_Md_walkBack_33 ?_
    refine q_iload_n (pc := 36) C d_Md_walkBack_36 rfl 1 rfl ?_
    obtain ⟨h14, h⟩ := h
    refine q_iald (pc := 37) (c := 56) C ⟨rfl, rfl⟩ h14 d_Md_walkBack_37 ?_
    obtain ⟨h19, h20⟩ := h
    refine q_icmp_ne (pc := 38) 60 C d_Md_walkBack_38 (by decide) (fun hc => ?_) (fun hc => ?_)
    · have h := h19 hc
      exact t_Md_walkBack_60 hY C hr ih h
    have h := h20 hc
    refine q_aload_n (pc := 41) C d_Md_walkBack_41 rfl 0 rfl ?_
    refine q_get (pc := 42) (c := 43) (ci := 7) (k := 21) (v := .ref (ya Y 57)) C rfl (by decide) (by decide) wd_754 rfl d_Md_walkBack_42 ?_
    refine q_iload_n (pc := 45) C d_Md_walkBack_45 rfl 2 rfl ?_
    obtain ⟨h15, h⟩ := h
    refine q_iald (pc := 46) (c := 57) C ⟨rfl, rfl⟩ h15 d_Md_walkBack_46 ?_
    refine q_aload_n (pc := 47) C d_Md_walkBack_47 rfl 0 rfl ?_
    refine q_get (pc := 48) (c := 43) (ci := 7) (k := 21) (v := .ref (ya Y 57)) C rfl (by decide) (by decide) wd_754 rfl d_Md_walkBack_48 ?_
    refine q_iload_n (pc := 51) C d_Md_walkBack_51 rfl 1 rfl ?_
    obtain ⟨h16, h⟩ := h
    refine q_iald (pc := 52) (c := 57) C ⟨rfl, rfl⟩ h16 d_Md_walkBack_52 ?_
    obtain ⟨h17, h18⟩ := h
    refine q_icmp_ge (pc := 53) 60 C d_Md_walkBack_53 (by decide) (fun hc => ?_) (fun hc => ?_)
    · have h := h17 hc
      exact t_Md_walkBack_60 hY C hr ih h
    have h := h18 hc
    exact t_Md_walkBack_56 hY C hr ih h
def w_Md_walkBack  (σ : Sg) (K : Sg → Prop) : Prop :=
  (∃ n25 : Nat, L_Md_walkBack_4 K n25 (0 : Int32) (0 : Int32) σ)
set_option maxHeartbeats 4000000 in
theorem m_Md_walkBack {Y : Yx}  {σ : Sg} {K : Sg → Prop} (hY : YD Y)  (h : w_Md_walkBack σ K) : MetV Y y_Md_walkBack prog_9_method_31_code 4 0 0 [.ref (ya Y 43)] σ K := by
  refine met_V [(0, .ref (ya Y 43))] hY (by decide) (Nat.le_of_ble_eq_true rfl) rfl (fun X C hr => ?_)
  unfold w_Md_walkBack at h
  refine q_iconst (pc := 0) (v := 0) C d_Md_walkBack_0 (by decide) ?_
  refine q_istore_n (pc := 1) [(1, .int (0 : Int32)), (0, .ref (ya Y 43))] C d_Md_walkBack_1 rfl (by decide) rfl ?_
  refine q_iconst (pc := 2) (v := 0) C d_Md_walkBack_2 (by decide) ?_
  refine q_istore_n (pc := 3) [(2, .int (0 : Int32)), (1, .int (0 : Int32)), (0, .ref (ya Y 43))] C d_Md_walkBack_3 rfl (by decide) rfl ?_
  obtain ⟨n25, h⟩ := h
  refine q_sub [(0, .ref (ya Y 43)), (1, .int (0 : Int32)), (2, .int (0 : Int32))] [2, 1, 0] rfl ?_
  exact t_Md_walkBack_4 hY C hr n25 (0 : Int32) (0 : Int32) σ h
theorem d_Md_findBest_0 : decode prog_9_method_30_code 0 = .ok (.aload_n 0, 1) := by decide +kernel
theorem d_Md_findBest_1 : decode prog_9_method_30_code 1 = .ok (.getfield 143, 3) := by decide +kernel
theorem d_Md_findBest_4 : decode prog_9_method_30_code 4 = .ok (.ifCond .eq 4, 3) := by decide +kernel
theorem d_Md_findBest_7 : decode prog_9_method_30_code 7 = .ok (.return_, 1) := by decide +kernel
theorem d_Md_findBest_8 : decode prog_9_method_30_code 8 = .ok (.aload_n 0, 1) := by decide +kernel
theorem d_Md_findBest_9 : decode prog_9_method_30_code 9 = .ok (.iconst 1, 1) := by decide +kernel
theorem d_Md_findBest_10 : decode prog_9_method_30_code 10 = .ok (.putfield 143, 3) := by decide +kernel
theorem d_Md_findBest_13 : decode prog_9_method_30_code 13 = .ok (.aload_n 0, 1) := by decide +kernel
theorem d_Md_findBest_14 : decode prog_9_method_30_code 14 = .ok (.invokevirtual 188, 3) := by decide +kernel
theorem d_Md_findBest_17 : decode prog_9_method_30_code 17 = .ok (.iconst 0, 1) := by decide +kernel
theorem d_Md_findBest_18 : decode prog_9_method_30_code 18 = .ok (.istore_n 1, 1) := by decide +kernel
theorem d_Md_findBest_19 : decode prog_9_method_30_code 19 = .ok (.iload_n 1, 1) := by decide +kernel
theorem d_Md_findBest_20 : decode prog_9_method_30_code 20 = .ok (.aload_n 0, 1) := by decide +kernel
theorem d_Md_findBest_21 : decode prog_9_method_30_code 21 = .ok (.getfield 96, 3) := by decide +kernel
theorem d_Md_findBest_24 : decode prog_9_method_30_code 24 = .ok (.if_icmp .ge 108, 3) := by decide +kernel
theorem d_Md_findBest_27 : decode prog_9_method_30_code 27 = .ok (.iconst 0, 1) := by decide +kernel
theorem d_Md_findBest_28 : decode prog_9_method_30_code 28 = .ok (.istore_n 2, 1) := by decide +kernel
theorem d_Md_findBest_29 : decode prog_9_method_30_code 29 = .ok (.iload_n 2, 1) := by decide +kernel
theorem d_Md_findBest_30 : decode prog_9_method_30_code 30 = .ok (.sipush 256, 3) := by decide +kernel
theorem d_Md_findBest_33 : decode prog_9_method_30_code 33 = .ok (.if_icmp .ge 17, 3) := by decide +kernel
theorem d_Md_findBest_36 : decode prog_9_method_30_code 36 = .ok (.aload_n 0, 1) := by decide +kernel
theorem d_Md_findBest_37 : decode prog_9_method_30_code 37 = .ok (.getfield 52, 3) := by decide +kernel
theorem d_Md_findBest_40 : decode prog_9_method_30_code 40 = .ok (.iload_n 2, 1) := by decide +kernel
theorem d_Md_findBest_41 : decode prog_9_method_30_code 41 = .ok (.bipush (-9), 2) := by decide +kernel
theorem d_Md_findBest_43 : decode prog_9_method_30_code 43 = .ok (.iastore, 1) := by decide +kernel
theorem d_Md_findBest_44 : decode prog_9_method_30_code 44 = .ok (.iinc 2 1, 3) := by decide +kernel
theorem d_Md_findBest_47 : decode prog_9_method_30_code 47 = .ok (.goto (-18), 3) := by decide +kernel
theorem d_Md_findBest_50 : decode prog_9_method_30_code 50 = .ok (.iconst 0, 1) := by decide +kernel
theorem d_Md_findBest_51 : decode prog_9_method_30_code 51 = .ok (.istore_n 2, 1) := by decide +kernel
theorem d_Md_findBest_52 : decode prog_9_method_30_code 52 = .ok (.iload_n 2, 1) := by decide +kernel
theorem d_Md_findBest_53 : decode prog_9_method_30_code 53 = .ok (.sipush 256, 3) := by decide +kernel
theorem d_Md_findBest_56 : decode prog_9_method_30_code 56 = .ok (.if_icmp .ge 26, 3) := by decide +kernel
theorem d_Md_findBest_59 : decode prog_9_method_30_code 59 = .ok (.aload_n 0, 1) := by decide +kernel
theorem d_Md_findBest_60 : decode prog_9_method_30_code 60 = .ok (.getfield 46, 3) := by decide +kernel
theorem d_Md_findBest_63 : decode prog_9_method_30_code 63 = .ok (.iload_n 2, 1) := by decide +kernel
theorem d_Md_findBest_64 : decode prog_9_method_30_code 64 = .ok (.iaload, 1) := by decide +kernel
theorem d_Md_findBest_65 : decode prog_9_method_30_code 65 = .ok (.bipush (-9), 2) := by decide +kernel
theorem d_Md_findBest_67 : decode prog_9_method_30_code 67 = .ok (.if_icmp .eq 9, 3) := by decide +kernel
theorem d_Md_findBest_70 : decode prog_9_method_30_code 70 = .ok (.aload_n 0, 1) := by decide +kernel
theorem d_Md_findBest_71 : decode prog_9_method_30_code 71 = .ok (.iload_n 2, 1) := by decide +kernel
theorem d_Md_findBest_72 : decode prog_9_method_30_code 72 = .ok (.iload_n 1, 1) := by decide +kernel
theorem d_Md_findBest_73 : decode prog_9_method_30_code 73 = .ok (.invokevirtual 191, 3) := by decide +kernel
theorem d_Md_findBest_76 : decode prog_9_method_30_code 76 = .ok (.iinc 2 1, 3) := by decide +kernel
theorem d_Md_findBest_79 : decode prog_9_method_30_code 79 = .ok (.goto (-27), 3) := by decide +kernel
theorem d_Md_findBest_82 : decode prog_9_method_30_code 82 = .ok (.aload_n 0, 1) := by decide +kernel
theorem d_Md_findBest_83 : decode prog_9_method_30_code 83 = .ok (.iload_n 1, 1) := by decide +kernel
theorem d_Md_findBest_84 : decode prog_9_method_30_code 84 = .ok (.invokevirtual 195, 3) := by decide +kernel
theorem d_Md_findBest_87 : decode prog_9_method_30_code 87 = .ok (.iconst 0, 1) := by decide +kernel
theorem d_Md_findBest_88 : decode prog_9_method_30_code 88 = .ok (.istore_n 2, 1) := by decide +kernel
theorem d_Md_findBest_89 : decode prog_9_method_30_code 89 = .ok (.iload_n 2, 1) := by decide +kernel
theorem d_Md_findBest_90 : decode prog_9_method_30_code 90 = .ok (.sipush 256, 3) := by decide +kernel
theorem d_Md_findBest_93 : decode prog_9_method_30_code 93 = .ok (.if_icmp .ge 33, 3) := by decide +kernel
theorem d_Md_findBest_96 : decode prog_9_method_30_code 96 = .ok (.aload_n 0, 1) := by decide +kernel
theorem d_Md_findBest_97 : decode prog_9_method_30_code 97 = .ok (.getfield 46, 3) := by decide +kernel
theorem d_Md_findBest_100 : decode prog_9_method_30_code 100 = .ok (.iload_n 2, 1) := by decide +kernel
theorem d_Md_findBest_101 : decode prog_9_method_30_code 101 = .ok (.aload_n 0, 1) := by decide +kernel
theorem d_Md_findBest_102 : decode prog_9_method_30_code 102 = .ok (.getfield 52, 3) := by decide +kernel
theorem d_Md_findBest_105 : decode prog_9_method_30_code 105 = .ok (.iload_n 2, 1) := by decide +kernel
theorem d_Md_findBest_106 : decode prog_9_method_30_code 106 = .ok (.iaload, 1) := by decide +kernel
theorem d_Md_findBest_107 : decode prog_9_method_30_code 107 = .ok (.iastore, 1) := by decide +kernel
theorem d_Md_findBest_108 : decode prog_9_method_30_code 108 = .ok (.aload_n 0, 1) := by decide +kernel
theorem d_Md_findBest_109 : decode prog_9_method_30_code 109 = .ok (.getfield 49, 3) := by decide +kernel
theorem d_Md_findBest_112 : decode prog_9_method_30_code 112 = .ok (.iload_n 2, 1) := by decide +kernel
theorem d_Md_findBest_113 : decode prog_9_method_30_code 113 = .ok (.aload_n 0, 1) := by decide +kernel
theorem d_Md_findBest_114 : decode prog_9_method_30_code 114 = .ok (.getfield 55, 3) := by decide +kernel
theorem d_Md_findBest_117 : decode prog_9_method_30_code 117 = .ok (.iload_n 2, 1) := by decide +kernel
theorem d_Md_findBest_118 : decode prog_9_method_30_code 118 = .ok (.iaload, 1) := by decide +kernel
theorem d_Md_findBest_119 : decode prog_9_method_30_code 119 = .ok (.iastore, 1) := by decide +kernel
theorem d_Md_findBest_120 : decode prog_9_method_30_code 120 = .ok (.iinc 2 1, 3) := by decide +kernel
theorem d_Md_findBest_123 : decode prog_9_method_30_code 123 = .ok (.goto (-34), 3) := by decide +kernel
theorem d_Md_findBest_126 : decode prog_9_method_30_code 126 = .ok (.iinc 1 1, 3) := by decide +kernel
theorem d_Md_findBest_129 : decode prog_9_method_30_code 129 = .ok (.goto (-110), 3) := by decide +kernel
theorem d_Md_findBest_132 : decode prog_9_method_30_code 132 = .ok (.aload_n 0, 1) := by decide +kernel
theorem d_Md_findBest_133 : decode prog_9_method_30_code 133 = .ok (.invokevirtual 199, 3) := by decide +kernel
theorem d_Md_findBest_136 : decode prog_9_method_30_code 136 = .ok (.return_, 1) := by decide +kernel
abbrev y_Md_findBest : MethodName := ⟨"LoadCyclesModel", "findBest", "()V"⟩
theorem mi_Md_findBest : miV y_Md_findBest prog_9_method_30_code 3 none 0 := ⟨wd_921, wd_39, wd_72, wd_922, by decide, by decide, by decide +kernel⟩
def L_Md_findBest_89 (v1 : Int32) (K : Sg → Prop) (r19 : Int32 → Sg → Prop) : Nat → Int32 → Sg → Prop
  | 0, _, _ => False
  | n + 1, v2, σ =>
    (((256 : Int32) ≤ v2 → r19 (v1 + (1 : Int32)) σ) ∧ (¬ (256 : Int32) ≤ v2 → (vp_in v2 256 ∧ (vp_in v2 256 ∧ (∀ τ107 : Sg, τ107 = s2 σ 56 v2.toNatClampNeg (σ 58 v2.toNatClampNeg) → (vp_in v2 256 ∧ (vp_in v2 256 ∧ (∀ τ119 : Sg, τ119 = s2 τ107 57 v2.toNatClampNeg (τ107 59 v2.toNatClampNeg) → L_Md_findBest_89 v1 K r19 n (v2 + (1 : Int32)) τ119))))))))
theorem t_Md_findBest_89 {X : Bx} {Y : Yx} {v1 : Int32} {K : Sg → Prop} {r19 : Int32 → Sg → Prop} (hY : YD Y) (C : Cx X Y prog_9_method_30_code 3 "LoadCyclesModel" 3 69) (hr : (xh X).sig.returnType = none)  (H19 : ∀ (v1 : Int32) (σ : Sg), r19 v1 σ → St X Y 3 (QV X Y K) 19 [(0, .ref (ya Y 43)), (1, .int v1)] [] σ) : ∀ (n : Nat) (v2 : Int32) (σ : Sg), L_Md_findBest_89 v1 K r19 n v2 σ → St X Y 3 (QV X Y K) 89 [(0, .ref (ya Y 43)), (1, .int v1), (2, .int v2)] [] σ := by
  intro n
  induction n with
  | zero => intro v2 σ h; exact h.elim
  | succ n ih =>
    intro v2 σ h
    unfold L_Md_findBest_89 at h
    refine q_iload_n (pc := 89) C d_Md_findBest_89 rfl 2 rfl ?_
    refine q_sipush (pc := 90) (v := 256) C d_Md_findBest_90 (by decide) ?_
    obtain ⟨h5, h6⟩ := h
    refine q_icmp_ge (pc := 93) 126 C d_Md_findBest_93 (by decide) (fun hc => ?_) (fun hc => ?_)
    · have h := h5 hc
      refine q_iinc (pc := 126) (v1 + (1 : Int32)) [(1, .int (v1 + (1 : Int32))), (0, .ref (ya Y 43)), (2, .int v2)] C d_Md_findBest_126 1 rfl rfl (by decide) rfl ?_
      refine q_goto (pc := 129) 19 C d_Md_findBest_129 (by decide) ?_
      refine q_sub [(0, .ref (ya Y 43)), (1, .int (v1 + (1 : Int32)))] [1, 0] rfl ?_
      exact H19 (v1 + (1 : Int32)) σ h
    have h := h6 hc
    refine q_aload_n (pc := 96) C d_Md_findBest_96 rfl 0 rfl ?_
    refine q_get (pc := 97) (c := 43) (ci := 7) (k := 20) (v := .ref (ya Y 56)) C rfl (by decide) (by decide) wd_753 rfl d_Md_findBest_97 ?_
    refine q_iload_n (pc := 100) C d_Md_findBest_100 rfl 2 rfl ?_
    refine q_aload_n (pc := 101) C d_Md_findBest_101 rfl 0 rfl ?_
    refine q_get (pc := 102) (c := 43) (ci := 7) (k := 22) (v := .ref (ya Y 58)) C rfl (by decide) (by decide) wd_755 rfl d_Md_findBest_102 ?_
    refine q_iload_n (pc := 105) C d_Md_findBest_105 rfl 2 rfl ?_
    obtain ⟨h1, h⟩ := h
    refine q_iald (pc := 106) (c := 58) C ⟨rfl, rfl⟩ h1 d_Md_findBest_106 ?_
    obtain ⟨h2, h⟩ := h
    refine q_iast (pc := 107) (c := 56) C ⟨rfl, rfl⟩ h2 d_Md_findBest_107 ?_
    refine q_nms (fun τ107 eτ107 => ?_)
    replace h := h τ107 eτ107
    refine q_aload_n (pc := 108) C d_Md_findBest_108 rfl 0 rfl ?_
    refine q_get (pc := 109) (c := 43) (ci := 7) (k := 21) (v := .ref (ya Y 57)) C rfl (by decide) (by decide) wd_754 rfl d_Md_findBest_109 ?_
    refine q_iload_n (pc := 112) C d_Md_findBest_112 rfl 2 rfl ?_
    refine q_aload_n (pc := 113) C d_Md_findBest_113 rfl 0 rfl ?_
    refine q_get (pc := 114) (c := 43) (ci := 7) (k := 23) (v := .ref (ya Y 59)) C rfl (by decide) (by decide) wd_756 rfl d_Md_findBest_114 ?_
    refine q_iload_n (pc := 117) C d_Md_findBest_117 rfl 2 rfl ?_
    obtain ⟨h3, h⟩ := h
    refine q_iald (pc := 118) (c := 59) C ⟨rfl, rfl⟩ h3 d_Md_findBest_118 ?_
    obtain ⟨h4, h⟩ := h
    refine q_iast (pc := 119) (c := 57) C ⟨rfl, rfl⟩ h4 d_Md_findBest_119 ?_
    refine q_nms (fun τ119 eτ119 => ?_)
    replace h := h τ119 eτ119
    refine q_iinc (pc := 120) (v2 + (1 : Int32)) [(2, .int (v2 + (1 : Int32))), (0, .ref (ya Y 43)), (1, .int v1)] C d_Md_findBest_120 2 rfl rfl (by decide) rfl ?_
    refine q_goto (pc := 123) 89 C d_Md_findBest_123 (by decide) ?_
    refine q_sub [(0, .ref (ya Y 43)), (1, .int v1), (2, .int (v2 + (1 : Int32)))] [1, 2, 0] rfl ?_
    exact ih (v2 + (1 : Int32)) τ119 h
def L_Md_findBest_52 (v1 : Int32) (K : Sg → Prop) (r19 : Int32 → Sg → Prop) : Nat → Int32 → Sg → Prop
  | 0, _, _ => False
  | n + 1, v2, σ =>
    (((256 : Int32) ≤ v2 → w_Md_rankAll v1 σ (fun τ84 => (∃ n7 : Nat, L_Md_findBest_89 v1 K r19 n7 (0 : Int32) τ84))) ∧ (¬ (256 : Int32) ≤ v2 → (vp_in v2 256 ∧ (((σ 56 v2.toNatClampNeg) = (-9 : Int32) → L_Md_findBest_52 v1 K r19 n (v2 + (1 : Int32)) σ) ∧ (¬ (σ 56 v2.toNatClampNeg) = (-9 : Int32) → w_Md_goFrom v2 v1 σ (fun τ73 => L_Md_findBest_52 v1 K r19 n (v2 + (1 : Int32)) τ73))))))
theorem t_Md_findBest_52 {X : Bx} {Y : Yx} {v1 : Int32} {K : Sg → Prop} {r19 : Int32 → Sg → Prop} (hY : YD Y) (C : Cx X Y prog_9_method_30_code 3 "LoadCyclesModel" 3 69) (hr : (xh X).sig.returnType = none)  (H19 : ∀ (v1 : Int32) (σ : Sg), r19 v1 σ → St X Y 3 (QV X Y K) 19 [(0, .ref (ya Y 43)), (1, .int v1)] [] σ) : ∀ (n : Nat) (v2 : Int32) (σ : Sg), L_Md_findBest_52 v1 K r19 n v2 σ → St X Y 3 (QV X Y K) 52 [(0, .ref (ya Y 43)), (1, .int v1), (2, .int v2)] [] σ := by
  intro n
  induction n with
  | zero => intro v2 σ h; exact h.elim
  | succ n ih =>
    intro v2 σ h
    unfold L_Md_findBest_52 at h
    refine q_iload_n (pc := 52) C d_Md_findBest_52 rfl 2 rfl ?_
    refine q_sipush (pc := 53) (v := 256) C d_Md_findBest_53 (by decide) ?_
    obtain ⟨h11, h12⟩ := h
    refine q_icmp_ge (pc := 56) 82 C d_Md_findBest_56 (by decide) (fun hc => ?_) (fun hc => ?_)
    · have h := h11 hc
      refine q_aload_n (pc := 82) C d_Md_findBest_82 rfl 0 rfl ?_
      refine q_iload_n (pc := 83) C d_Md_findBest_83 rfl 1 rfl ?_
      refine q_callVV (pc := 84) (st := []) (d := 43) C (m_Md_rankAll hY h) mi_Md_rankAll rfl (by decide) rfl wd_949 rfl rfl (Nat.le_of_ble_eq_true rfl) (by decide) (by decide) d_Md_findBest_84 (fun τ84 h => ?_)
      refine q_iconst (pc := 87) (v := 0) C d_Md_findBest_87 (by decide) ?_
      refine q_istore_n (pc := 88) [(2, .int (0 : Int32)), (0, .ref (ya Y 43)), (1, .int v1)] C d_Md_findBest_88 rfl (by decide) rfl ?_
      obtain ⟨n7, h⟩ := h
      refine q_sub [(0, .ref (ya Y 43)), (1, .int v1), (2, .int (0 : Int32))] [1, 2, 0] rfl ?_
      exact t_Md_findBest_89 hY C hr H19 n7 (0 : Int32) τ84 h
    have h := h12 hc
    refine q_aload_n (pc := 59) C d_Md_findBest_59 rfl 0 rfl ?_
    refine q_get (pc := 60) (c := 43) (ci := 7) (k := 20) (v := .ref (ya Y 56)) C rfl (by decide) (by decide) wd_753 rfl d_Md_findBest_60 ?_
    refine q_iload_n (pc := 63) C d_Md_findBest_63 rfl 2 rfl ?_
    obtain ⟨h8, h⟩ := h
    refine q_iald (pc := 64) (c := 56) C ⟨rfl, rfl⟩ h8 d_Md_findBest_64 ?_
    refine q_bipush (pc := 65) (v := -9) C d_Md_findBest_65 (by decide) ?_
    obtain ⟨h9, h10⟩ := h
    refine q_icmp_eq (pc := 67) 76 C d_Md_findBest_67 (by decide) (fun hc => ?_) (fun hc => ?_)
    · have h := h9 hc
      refine q_iinc (pc := 76) (v2 + (1 : Int32)) [(2, .int (v2 + (1 : Int32))), (0, .ref (ya Y 43)), (1, .int v1)] C d_Md_findBest_76 2 rfl rfl (by decide) rfl ?_
      refine q_goto (pc := 79) 52 C d_Md_findBest_79 (by decide) ?_
      refine q_sub [(0, .ref (ya Y 43)), (1, .int v1), (2, .int (v2 + (1 : Int32)))] [1, 2, 0] rfl ?_
      exact ih (v2 + (1 : Int32)) σ h
    have h := h10 hc
    refine q_aload_n (pc := 70) C d_Md_findBest_70 rfl 0 rfl ?_
    refine q_iload_n (pc := 71) C d_Md_findBest_71 rfl 2 rfl ?_
    refine q_iload_n (pc := 72) C d_Md_findBest_72 rfl 1 rfl ?_
    refine q_callVV (pc := 73) (st := []) (d := 43) C (m_Md_goFrom hY h) mi_Md_goFrom rfl (by decide) rfl wd_938 rfl rfl (Nat.le_of_ble_eq_true rfl) (by decide) (by decide) d_Md_findBest_73 (fun τ73 h => ?_)
    refine q_iinc (pc := 76) (v2 + (1 : Int32)) [(2, .int (v2 + (1 : Int32))), (0, .ref (ya Y 43)), (1, .int v1)] C d_Md_findBest_76 2 rfl rfl (by decide) rfl ?_
    refine q_goto (pc := 79) 52 C d_Md_findBest_79 (by decide) ?_
    refine q_sub [(0, .ref (ya Y 43)), (1, .int v1), (2, .int (v2 + (1 : Int32)))] [1, 2, 0] rfl ?_
    exact ih (v2 + (1 : Int32)) τ73 h
def L_Md_findBest_29 (v1 : Int32) (K : Sg → Prop) (r19 : Int32 → Sg → Prop) : Nat → Int32 → Sg → Prop
  | 0, _, _ => False
  | n + 1, v2, σ =>
    (((256 : Int32) ≤ v2 → (∃ n13 : Nat, L_Md_findBest_52 v1 K r19 n13 (0 : Int32) σ)) ∧ (¬ (256 : Int32) ≤ v2 → (vp_in v2 256 ∧ (∀ τ43 : Sg, τ43 = s2 σ 58 v2.toNatClampNeg (-9 : Int32) → L_Md_findBest_29 v1 K r19 n (v2 + (1 : Int32)) τ43))))
theorem t_Md_findBest_29 {X : Bx} {Y : Yx} {v1 : Int32} {K : Sg → Prop} {r19 : Int32 → Sg → Prop} (hY : YD Y) (C : Cx X Y prog_9_method_30_code 3 "LoadCyclesModel" 3 69) (hr : (xh X).sig.returnType = none)  (H19 : ∀ (v1 : Int32) (σ : Sg), r19 v1 σ → St X Y 3 (QV X Y K) 19 [(0, .ref (ya Y 43)), (1, .int v1)] [] σ) : ∀ (n : Nat) (v2 : Int32) (σ : Sg), L_Md_findBest_29 v1 K r19 n v2 σ → St X Y 3 (QV X Y K) 29 [(0, .ref (ya Y 43)), (1, .int v1), (2, .int v2)] [] σ := by
  intro n
  induction n with
  | zero => intro v2 σ h; exact h.elim
  | succ n ih =>
    intro v2 σ h
    unfold L_Md_findBest_29 at h
    refine q_iload_n (pc := 29) C d_Md_findBest_29 rfl 2 rfl ?_
    refine q_sipush (pc := 30) (v := 256) C d_Md_findBest_30 (by decide) ?_
    obtain ⟨h15, h16⟩ := h
    refine q_icmp_ge (pc := 33) 50 C d_Md_findBest_33 (by decide) (fun hc => ?_) (fun hc => ?_)
    · have h := h15 hc
      refine q_iconst (pc := 50) (v := 0) C d_Md_findBest_50 (by decide) ?_
      refine q_istore_n (pc := 51) [(2, .int (0 : Int32)), (0, .ref (ya Y 43)), (1, .int v1)] C d_Md_findBest_51 rfl (by decide) rfl ?_
      obtain ⟨n13, h⟩ := h
      refine q_sub [(0, .ref (ya Y 43)), (1, .int v1), (2, .int (0 : Int32))] [1, 2, 0] rfl ?_
      exact t_Md_findBest_52 hY C hr H19 n13 (0 : Int32) σ h
    have h := h16 hc
    refine q_aload_n (pc := 36) C d_Md_findBest_36 rfl 0 rfl ?_
    refine q_get (pc := 37) (c := 43) (ci := 7) (k := 22) (v := .ref (ya Y 58)) C rfl (by decide) (by decide) wd_755 rfl d_Md_findBest_37 ?_
    refine q_iload_n (pc := 40) C d_Md_findBest_40 rfl 2 rfl ?_
    refine q_bipush (pc := 41) (v := -9) C d_Md_findBest_41 (by decide) ?_
    obtain ⟨h14, h⟩ := h
    refine q_iast (pc := 43) (c := 58) C ⟨rfl, rfl⟩ h14 d_Md_findBest_43 ?_
    refine q_nms (fun τ43 eτ43 => ?_)
    replace h := h τ43 eτ43
    refine q_iinc (pc := 44) (v2 + (1 : Int32)) [(2, .int (v2 + (1 : Int32))), (0, .ref (ya Y 43)), (1, .int v1)] C d_Md_findBest_44 2 rfl rfl (by decide) rfl ?_
    refine q_goto (pc := 47) 29 C d_Md_findBest_47 (by decide) ?_
    refine q_sub [(0, .ref (ya Y 43)), (1, .int v1), (2, .int (v2 + (1 : Int32)))] [1, 2, 0] rfl ?_
    exact ih (v2 + (1 : Int32)) τ43 h
def L_Md_findBest_19 (K : Sg → Prop) : Nat → Int32 → Sg → Prop
  | 0, _, _ => False
  | n + 1, v1, σ =>
    (((σ 43 9) ≤ v1 → w_Md_walkBack σ (fun τ133 => K τ133)) ∧ (¬ (σ 43 9) ≤ v1 → (∃ n17 : Nat, L_Md_findBest_29 v1 K (fun a0 a1 => L_Md_findBest_19 K n a0 a1) n17 (0 : Int32) σ)))
theorem t_Md_findBest_19 {X : Bx} {Y : Yx}  {K : Sg → Prop}  (hY : YD Y) (C : Cx X Y prog_9_method_30_code 3 "LoadCyclesModel" 3 69) (hr : (xh X).sig.returnType = none)  : ∀ (n : Nat) (v1 : Int32) (σ : Sg), L_Md_findBest_19 K n v1 σ → St X Y 3 (QV X Y K) 19 [(0, .ref (ya Y 43)), (1, .int v1)] [] σ := by
  intro n
  induction n with
  | zero => intro v1 σ h; exact h.elim
  | succ n ih =>
    intro v1 σ h
    unfold L_Md_findBest_19 at h
    refine q_iload_n (pc := 19) C d_Md_findBest_19 rfl 1 rfl ?_
    refine q_aload_n (pc := 20) C d_Md_findBest_20 rfl 0 rfl ?_
    refine q_get (pc := 21) (c := 43) (ci := 7) (k := 9) (v := .int (σ 43 9)) C rfl (by decide) (by decide) wd_742 rfl d_Md_findBest_21 ?_
    obtain ⟨h18, h19⟩ := h
    refine q_icmp_ge (pc := 24) 132 C d_Md_findBest_24 (by decide) (fun hc => ?_) (fun hc => ?_)
    · have h := h18 hc
      refine q_aload_n (pc := 132) C d_Md_findBest_132 rfl 0 rfl ?_
      refine q_callVV (pc := 133) (st := []) (d := 43) C (m_Md_walkBack hY h) mi_Md_walkBack rfl (by decide) rfl wd_953 rfl rfl (Nat.le_of_ble_eq_true rfl) (by decide) (by decide) d_Md_findBest_133 (fun τ133 h => ?_)
      exact q_vret (pc := 136) C hr d_Md_findBest_136 h
    have h := h19 hc
    refine q_iconst (pc := 27) (v := 0) C d_Md_findBest_27 (by decide) ?_
    refine q_istore_n (pc := 28) [(2, .int (0 : Int32)), (0, .ref (ya Y 43)), (1, .int v1)] C d_Md_findBest_28 rfl (by decide) rfl ?_
    obtain ⟨n17, h⟩ := h
    refine q_sub [(0, .ref (ya Y 43)), (1, .int v1), (2, .int (0 : Int32))] [1, 2, 0] rfl ?_
    exact t_Md_findBest_29 hY C hr ih n17 (0 : Int32) σ h
def w_Md_findBest  (σ : Sg) (K : Sg → Prop) : Prop :=
  (((σ 43 17) = 0 → (∀ τ10 : Sg, τ10 = s2 σ 43 17 (1 : Int32) → w_Md_prepare τ10 (fun τ14 => (∃ n20 : Nat, L_Md_findBest_19 K n20 (0 : Int32) τ14)))) ∧ (¬ (σ 43 17) = 0 → K σ))
set_option maxHeartbeats 4000000 in
theorem m_Md_findBest {Y : Yx}  {σ : Sg} {K : Sg → Prop} (hY : YD Y)  (h : w_Md_findBest σ K) : MetV Y y_Md_findBest prog_9_method_30_code 3 3 69 [.ref (ya Y 43)] σ K := by
  refine met_V [(0, .ref (ya Y 43))] hY (by decide) (Nat.le_of_ble_eq_true rfl) rfl (fun X C hr => ?_)
  unfold w_Md_findBest at h
  refine q_aload_n (pc := 0) C d_Md_findBest_0 rfl 0 rfl ?_
  refine q_get (pc := 1) (c := 43) (ci := 7) (k := 17) (v := .int (σ 43 17)) C rfl (by decide) (by decide) wd_750 rfl d_Md_findBest_1 ?_
  obtain ⟨h21, h22⟩ := h
  refine q_if_eq (pc := 4) 8 C d_Md_findBest_4 (by decide) (fun hc => ?_) (fun hc => ?_)
  · have h := h21 hc
    refine q_aload_n (pc := 8) C d_Md_findBest_8 rfl 0 rfl ?_
    refine q_iconst (pc := 9) (v := 1) C d_Md_findBest_9 (by decide) ?_
    refine q_put (pc := 10) (c := 43) (ci := 7) (k := 17) C rfl (by decide) (by decide) wd_750 rfl rfl rfl fs_7_17 d_Md_findBest_10 ?_
    refine q_nms (fun τ10 eτ10 => ?_)
    replace h := h τ10 eτ10
    refine q_aload_n (pc := 13) C d_Md_findBest_13 rfl 0 rfl ?_
    refine q_callVV (pc := 14) (st := []) (d := 43) C (m_Md_prepare hY h) mi_Md_prepare rfl (by decide) rfl wd_923 rfl rfl (Nat.le_of_ble_eq_true rfl) (by decide) (by decide) d_Md_findBest_14 (fun τ14 h => ?_)
    refine q_iconst (pc := 17) (v := 0) C d_Md_findBest_17 (by decide) ?_
    refine q_istore_n (pc := 18) [(1, .int (0 : Int32)), (0, .ref (ya Y 43))] C d_Md_findBest_18 rfl (by decide) rfl ?_
    obtain ⟨n20, h⟩ := h
    refine q_sub [(0, .ref (ya Y 43)), (1, .int (0 : Int32))] [1, 0] rfl ?_
    exact t_Md_findBest_19 hY C hr n20 (0 : Int32) τ14 h
  have h := h22 hc
  exact q_vret (pc := 7) C hr d_Md_findBest_7 h
theorem d_Md_at_0 : decode prog_9_method_38_code 0 = .ok (.aload_n 0, 1) := by decide +kernel
theorem d_Md_at_1 : decode prog_9_method_38_code 1 = .ok (.iload_n 1, 1) := by decide +kernel
theorem d_Md_at_2 : decode prog_9_method_38_code 2 = .ok (.invokevirtual 166, 3) := by decide +kernel
theorem d_Md_at_5 : decode prog_9_method_38_code 5 = .ok (.ifCond .eq 11, 3) := by decide +kernel
theorem d_Md_at_8 : decode prog_9_method_38_code 8 = .ok (.aload_n 0, 1) := by decide +kernel
theorem d_Md_at_9 : decode prog_9_method_38_code 9 = .ok (.iload_n 2, 1) := by decide +kernel
theorem d_Md_at_10 : decode prog_9_method_38_code 10 = .ok (.invokevirtual 147, 3) := by decide +kernel
theorem d_Md_at_13 : decode prog_9_method_38_code 13 = .ok (.ifCond .ne 5, 3) := by decide +kernel
theorem d_Md_at_16 : decode prog_9_method_38_code 16 = .ok (.iconst (-1), 1) := by decide +kernel
theorem d_Md_at_17 : decode prog_9_method_38_code 17 = .ok (.ireturn, 1) := by decide +kernel
theorem d_Md_at_18 : decode prog_9_method_38_code 18 = .ok (.aload_n 0, 1) := by decide +kernel
theorem d_Md_at_19 : decode prog_9_method_38_code 19 = .ok (.invokevirtual 202, 3) := by decide +kernel
theorem d_Md_at_22 : decode prog_9_method_38_code 22 = .ok (.aload_n 0, 1) := by decide +kernel
theorem d_Md_at_23 : decode prog_9_method_38_code 23 = .ok (.getfield 64, 3) := by decide +kernel
theorem d_Md_at_26 : decode prog_9_method_38_code 26 = .ok (.iload_n 1, 1) := by decide +kernel
theorem d_Md_at_27 : decode prog_9_method_38_code 27 = .ok (.iaload, 1) := by decide +kernel
theorem d_Md_at_28 : decode prog_9_method_38_code 28 = .ok (.iload_n 2, 1) := by decide +kernel
theorem d_Md_at_29 : decode prog_9_method_38_code 29 = .ok (.invokestatic 172, 3) := by decide +kernel
theorem d_Md_at_32 : decode prog_9_method_38_code 32 = .ok (.ireturn, 1) := by decide +kernel
abbrev y_Md_at : MethodName := ⟨"LoadCyclesModel", "at", "(II)I"⟩
theorem mi_Md_at : miV y_Md_at prog_9_method_38_code 3 (some .int) 2 := ⟨wd_916, wd_917, wd_72, wd_918, by decide, by decide, by decide +kernel⟩
def w_Md_at (x1 : Int32) (x2 : Int32) (σ : Sg) (K : Int32 → Sg → Prop) : Prop :=
  w_Md_isTime x1 σ (fun u2 => ((u2 = 0 → K (-1 : Int32) σ) ∧ (¬ u2 = 0 → w_Md_isAppliance x2 σ (fun u10 => ((¬ u10 = 0 → w_Md_findBest σ (fun τ19 => (vp_in x1 20 ∧ w_Md_digit (τ19 62 x1.toNatClampNeg) x2 τ19 (fun u29 => K u29 τ19)))) ∧ (u10 = 0 → K (-1 : Int32) σ))))))
set_option maxHeartbeats 4000000 in
theorem m_Md_at {Y : Yx} {x1 : Int32} {x2 : Int32} {σ : Sg} {K : Int32 → Sg → Prop} (hY : YD Y)  (h : w_Md_at x1 x2 σ K) : MetI Y y_Md_at prog_9_method_38_code 3 (.int) 4 91 [.ref (ya Y 43), .int x1, .int x2] σ K := by
  refine met_I [(0, .ref (ya Y 43)), (1, .int x1), (2, .int x2)] hY (by decide) (Nat.le_of_ble_eq_true rfl) rfl (fun X C hr => ?_)
  unfold w_Md_at at h
  refine q_aload_n (pc := 0) C d_Md_at_0 rfl 0 rfl ?_
  refine q_iload_n (pc := 1) C d_Md_at_1 rfl 1 rfl ?_
  refine q_callVIr (pc := 2) (st := []) (d := 43) C (m_Md_isTime hY h) mi_Md_isTime rfl (by decide) rfl wd_903 rfl rfl (Nat.le_of_ble_eq_true rfl) (by decide) (by decide) d_Md_at_2 (fun u2 h => ?_)
  obtain ⟨h4, h5⟩ := h
  refine q_if_eq (pc := 5) 16 C d_Md_at_5 (by decide) (fun hc => ?_) (fun hc => ?_)
  · have h := h4 hc
    refine q_iconst (pc := 16) (v := -1) C d_Md_at_16 (by decide) ?_
    exact q_iret (pc := 17) C hr d_Md_at_17 h
  have h := h5 hc
  refine q_aload_n (pc := 8) C d_Md_at_8 rfl 0 rfl ?_
  refine q_iload_n (pc := 9) C d_Md_at_9 rfl 2 rfl ?_
  refine q_callVIr (pc := 10) (st := []) (d := 43) C (m_Md_isAppliance hY h) mi_Md_isAppliance rfl (by decide) rfl wd_877 rfl rfl (Nat.le_of_ble_eq_true rfl) (by decide) (by decide) d_Md_at_10 (fun u10 h => ?_)
  obtain ⟨h2, h3⟩ := h
  refine q_if_ne (pc := 13) 18 C d_Md_at_13 (by decide) (fun hc => ?_) (fun hc => ?_)
  · have h := h2 hc
    refine q_aload_n (pc := 18) C d_Md_at_18 rfl 0 rfl ?_
    refine q_callVV (pc := 19) (st := []) (d := 43) C (m_Md_findBest hY h) mi_Md_findBest rfl (by decide) rfl wd_919 rfl rfl (Nat.le_of_ble_eq_true rfl) (by decide) (by decide) d_Md_at_19 (fun τ19 h => ?_)
    refine q_aload_n (pc := 22) C d_Md_at_22 rfl 0 rfl ?_
    refine q_get (pc := 23) (c := 43) (ci := 7) (k := 26) (v := .ref (ya Y 62)) C rfl (by decide) (by decide) wd_759 rfl d_Md_at_23 ?_
    refine q_iload_n (pc := 26) C d_Md_at_26 rfl 1 rfl ?_
    obtain ⟨h1, h⟩ := h
    refine q_iald (pc := 27) (c := 62) C ⟨rfl, rfl⟩ h1 d_Md_at_27 ?_
    refine q_iload_n (pc := 28) C d_Md_at_28 rfl 2 rfl ?_
    refine q_callSIr (pc := 29) (st := []) C (m_Md_digit hY h) mi_Md_digit wd_931 rfl rfl (Nat.le_of_ble_eq_true rfl) (by decide) (by decide) d_Md_at_29 (fun u29 h => ?_)
    exact q_iret (pc := 32) C hr d_Md_at_32 h
  have h := h3 hc
  refine q_iconst (pc := 16) (v := -1) C d_Md_at_16 (by decide) ?_
  exact q_iret (pc := 17) C hr d_Md_at_17 h
