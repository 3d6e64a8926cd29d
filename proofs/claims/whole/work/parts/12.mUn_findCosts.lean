theorem d_Un_findCosts_0 : decode prog_7_method_6_code 0 = .ok (.aload_n 0, 1) := by decide +kernel
theorem d_Un_findCosts_1 : decode prog_7_method_6_code 1 = .ok (.getfield 21, 3) := by decide +kernel
theorem d_Un_findCosts_4 : decode prog_7_method_6_code 4 = .ok (.iconst 0, 1) := by decide +kernel
theorem d_Un_findCosts_5 : decode prog_7_method_6_code 5 = .ok (.invokestatic 80, 3) := by decide +kernel
theorem d_Un_findCosts_8 : decode prog_7_method_6_code 8 = .ok (.aload_n 1, 1) := by decide +kernel
theorem d_Un_findCosts_9 : decode prog_7_method_6_code 9 = .ok (.getfield 39, 3) := by decide +kernel
theorem d_Un_findCosts_12 : decode prog_7_method_6_code 12 = .ok (.iconst 1, 1) := by decide +kernel
theorem d_Un_findCosts_13 : decode prog_7_method_6_code 13 = .ok (.isub, 1) := by decide +kernel
theorem d_Un_findCosts_14 : decode prog_7_method_6_code 14 = .ok (.istore_n 2, 1) := by decide +kernel
theorem d_Un_findCosts_15 : decode prog_7_method_6_code 15 = .ok (.iload_n 2, 1) := by decide +kernel
theorem d_Un_findCosts_16 : decode prog_7_method_6_code 16 = .ok (.ifCond .lt 126, 3) := by decide +kernel
theorem d_Un_findCosts_19 : decode prog_7_method_6_code 19 = .ok (.aload_n 1, 1) := by decide +kernel
theorem d_Un_findCosts_20 : decode prog_7_method_6_code 20 = .ok (.getfield 86, 3) := by decide +kernel
theorem d_Un_findCosts_23 : decode prog_7_method_6_code 23 = .ok (.iload_n 2, 1) := by decide +kernel
theorem d_Un_findCosts_24 : decode prog_7_method_6_code 24 = .ok (.iaload, 1) := by decide +kernel
theorem d_Un_findCosts_25 : decode prog_7_method_6_code 25 = .ok (.aload_n 1, 1) := by decide +kernel
theorem d_Un_findCosts_26 : decode prog_7_method_6_code 26 = .ok (.getfield 89, 3) := by decide +kernel
theorem d_Un_findCosts_29 : decode prog_7_method_6_code 29 = .ok (.isub, 1) := by decide +kernel
theorem d_Un_findCosts_30 : decode prog_7_method_6_code 30 = .ok (.istore_n 3, 1) := by decide +kernel
theorem d_Un_findCosts_31 : decode prog_7_method_6_code 31 = .ok (.iconst 0, 1) := by decide +kernel
theorem d_Un_findCosts_32 : decode prog_7_method_6_code 32 = .ok (.istore 4, 2) := by decide +kernel
theorem d_Un_findCosts_34 : decode prog_7_method_6_code 34 = .ok (.iload 4, 2) := by decide +kernel
theorem d_Un_findCosts_36 : decode prog_7_method_6_code 36 = .ok (.aload_n 0, 1) := by decide +kernel
theorem d_Un_findCosts_37 : decode prog_7_method_6_code 37 = .ok (.getfield 59, 3) := by decide +kernel
theorem d_Un_findCosts_40 : decode prog_7_method_6_code 40 = .ok (.if_icmp .ge 51, 3) := by decide +kernel
theorem d_Un_findCosts_43 : decode prog_7_method_6_code 43 = .ok (.iload_n 3, 1) := by decide +kernel
theorem d_Un_findCosts_44 : decode prog_7_method_6_code 44 = .ok (.aload_n 0, 1) := by decide +kernel
theorem d_Un_findCosts_45 : decode prog_7_method_6_code 45 = .ok (.getfield 9, 3) := by decide +kernel
theorem d_Un_findCosts_48 : decode prog_7_method_6_code 48 = .ok (.iload 4, 2) := by decide +kernel
theorem d_Un_findCosts_50 : decode prog_7_method_6_code 50 = .ok (.iaload, 1) := by decide +kernel
theorem d_Un_findCosts_51 : decode prog_7_method_6_code 51 = .ok (.isub, 1) := by decide +kernel
theorem d_Un_findCosts_52 : decode prog_7_method_6_code 52 = .ok (.istore 5, 2) := by decide +kernel
theorem d_Un_findCosts_54 : decode prog_7_method_6_code 54 = .ok (.aload_n 0, 1) := by decide +kernel
theorem d_Un_findCosts_55 : decode prog_7_method_6_code 55 = .ok (.getfield 21, 3) := by decide +kernel
theorem d_Un_findCosts_58 : decode prog_7_method_6_code 58 = .ok (.iload 4, 2) := by decide +kernel
theorem d_Un_findCosts_60 : decode prog_7_method_6_code 60 = .ok (.iload 5, 2) := by decide +kernel
theorem d_Un_findCosts_62 : decode prog_7_method_6_code 62 = .ok (.ifCond .ge 8, 3) := by decide +kernel
theorem d_Un_findCosts_65 : decode prog_7_method_6_code 65 = .ok (.ldc 92, 2) := by decide +kernel
theorem d_Un_findCosts_67 : decode prog_7_method_6_code 67 = .ok (.goto 17, 3) := by decide +kernel
theorem d_Un_findCosts_70 : decode prog_7_method_6_code 70 = .ok (.iload 5, 2) := by decide +kernel
theorem d_Un_findCosts_72 : decode prog_7_method_6_code 72 = .ok (.sipush 1000, 3) := by decide +kernel
theorem d_Un_findCosts_75 : decode prog_7_method_6_code 75 = .ok (.imul, 1) := by decide +kernel
theorem d_Un_findCosts_76 : decode prog_7_method_6_code 76 = .ok (.aload_n 0, 1) := by decide +kernel
theorem d_Un_findCosts_77 : decode prog_7_method_6_code 77 = .ok (.getfield 21, 3) := by decide +kernel
theorem d_Un_findCosts_80 : decode prog_7_method_6_code 80 = .ok (.iload 4, 2) := by decide +kernel
theorem d_Un_findCosts_82 : decode prog_7_method_6_code 82 = .ok (.iaload, 1) := by decide +kernel
theorem d_Un_findCosts_83 : decode prog_7_method_6_code 83 = .ok (.iadd, 1) := by decide +kernel
theorem d_Un_findCosts_84 : decode prog_7_method_6_code 84 = .ok (.iastore, 1) := by decide +kernel
theorem d_Un_findCosts_85 : decode prog_7_method_6_code 85 = .ok (.iinc 4 1, 3) := by decide +kernel
theorem d_Un_findCosts_88 : decode prog_7_method_6_code 88 = .ok (.goto (-54), 3) := by decide +kernel
theorem d_Un_findCosts_91 : decode prog_7_method_6_code 91 = .ok (.aload_n 0, 1) := by decide +kernel
theorem d_Un_findCosts_92 : decode prog_7_method_6_code 92 = .ok (.getfield 21, 3) := by decide +kernel
theorem d_Un_findCosts_95 : decode prog_7_method_6_code 95 = .ok (.iconst 0, 1) := by decide +kernel
theorem d_Un_findCosts_96 : decode prog_7_method_6_code 96 = .ok (.aload_n 0, 1) := by decide +kernel
theorem d_Un_findCosts_97 : decode prog_7_method_6_code 97 = .ok (.getfield 18, 3) := by decide +kernel
theorem d_Un_findCosts_100 : decode prog_7_method_6_code 100 = .ok (.iload_n 2, 1) := by decide +kernel
theorem d_Un_findCosts_101 : decode prog_7_method_6_code 101 = .ok (.sipush 256, 3) := by decide +kernel
theorem d_Un_findCosts_104 : decode prog_7_method_6_code 104 = .ok (.imul, 1) := by decide +kernel
theorem d_Un_findCosts_105 : decode prog_7_method_6_code 105 = .ok (.aload_n 0, 1) := by decide +kernel
theorem d_Un_findCosts_106 : decode prog_7_method_6_code 106 = .ok (.getfield 59, 3) := by decide +kernel
theorem d_Un_findCosts_109 : decode prog_7_method_6_code 109 = .ok (.invokestatic 93, 3) := by decide +kernel
theorem d_Un_findCosts_112 : decode prog_7_method_6_code 112 = .ok (.iconst 0, 1) := by decide +kernel
theorem d_Un_findCosts_113 : decode prog_7_method_6_code 113 = .ok (.istore 4, 2) := by decide +kernel
theorem d_Un_findCosts_115 : decode prog_7_method_6_code 115 = .ok (.iload 4, 2) := by decide +kernel
theorem d_Un_findCosts_117 : decode prog_7_method_6_code 117 = .ok (.aload_n 1, 1) := by decide +kernel
theorem d_Un_findCosts_118 : decode prog_7_method_6_code 118 = .ok (.getfield 52, 3) := by decide +kernel
theorem d_Un_findCosts_121 : decode prog_7_method_6_code 121 = .ok (.if_icmp .ge 15, 3) := by decide +kernel
theorem d_Un_findCosts_124 : decode prog_7_method_6_code 124 = .ok (.aload_n 0, 1) := by decide +kernel
theorem d_Un_findCosts_125 : decode prog_7_method_6_code 125 = .ok (.iload 4, 2) := by decide +kernel
theorem d_Un_findCosts_127 : decode prog_7_method_6_code 127 = .ok (.invokevirtual 99, 3) := by decide +kernel
theorem d_Un_findCosts_130 : decode prog_7_method_6_code 130 = .ok (.iinc 4 1, 3) := by decide +kernel
theorem d_Un_findCosts_133 : decode prog_7_method_6_code 133 = .ok (.goto (-18), 3) := by decide +kernel
theorem d_Un_findCosts_136 : decode prog_7_method_6_code 136 = .ok (.iinc 2 (-1), 3) := by decide +kernel
theorem d_Un_findCosts_139 : decode prog_7_method_6_code 139 = .ok (.goto (-124), 3) := by decide +kernel
theorem d_Un_findCosts_142 : decode prog_7_method_6_code 142 = .ok (.return_, 1) := by decide +kernel
abbrev y_Un_findCosts : MethodName := ⟨"LoadCycles$Unmixer", "findCosts", "(LLoadCycles$House;)V"⟩
theorem mi_Un_findCosts : miV y_Un_findCosts prog_7_method_6_code 6 none 1 := ⟨wd_448, wd_12, wd_68, wd_449, by decide, by decide, by decide +kernel⟩
def L_Un_findCosts_115 (o1 : Nat) (v2 : Int32) (K : Sg → Prop) (r15 : Int32 → Sg → Prop) : Nat → Int32 → Sg → Prop
  | 0, _, _ => False
  | n + 1, v4, σ =>
    (((σ o1 4) ≤ v4 → r15 (v2 + (-1 : Int32)) σ) ∧ (¬ (σ o1 4) ≤ v4 → w_Un_letGoOn v4 σ (fun τ127 => L_Un_findCosts_115 o1 v2 K r15 n (v4 + (1 : Int32)) τ127)))
theorem t_Un_findCosts_115 {X : Bx} {Y : Yx} {o1 : Nat} {v2 : Int32} {K : Sg → Prop} {r15 : Int32 → Sg → Prop} (hY : YD Y) (C : Cx X Y prog_7_method_6_code 6 "LoadCycles$Unmixer" 2 60) (hr : (xh X).sig.returnType = none) (ho1 : kd o1 = 2) (H15 : ∀ (v2 : Int32) (σ : Sg), r15 v2 σ → St X Y 6 (QV X Y K) 15 [(0, .ref (ya Y 22)), (1, .ref (ya Y o1)), (2, .int v2)] [] σ) : ∀ (n : Nat) (v4 : Int32) (σ : Sg), L_Un_findCosts_115 o1 v2 K r15 n v4 σ → St X Y 6 (QV X Y K) 115 [(0, .ref (ya Y 22)), (1, .ref (ya Y o1)), (2, .int v2), (4, .int v4)] [] σ := by
  intro n
  induction n with
  | zero => intro v4 σ h; exact h.elim
  | succ n ih =>
    intro v4 σ h
    unfold L_Un_findCosts_115 at h
    refine q_iload (pc := 115) C d_Un_findCosts_115 3 rfl ?_
    refine q_aload_n (pc := 117) C d_Un_findCosts_117 rfl 1 rfl ?_
    refine q_get (pc := 118) (c := o1) (ci := 2) (k := 4) (v := .int (σ o1 4)) C ho1 (by decide) (by decide) wd_101 rfl d_Un_findCosts_118 ?_
    obtain ⟨h5, h6⟩ := h
    refine q_icmp_ge (pc := 121) 136 C d_Un_findCosts_121 (by decide) (fun hc => ?_) (fun hc => ?_)
    · have h := h5 hc
      refine q_iinc (pc := 136) (v2 + (-1 : Int32)) [(2, .int (v2 + (-1 : Int32))), (0, .ref (ya Y 22)), (1, .ref (ya Y o1)), (4, .int v4)] C d_Un_findCosts_136 2 rfl rfl (by decide) rfl ?_
      refine q_goto (pc := 139) 15 C d_Un_findCosts_139 (by decide) ?_
      refine q_sub [(0, .ref (ya Y 22)), (1, .ref (ya Y o1)), (2, .int (v2 + (-1 : Int32)))] [1, 2, 0] rfl ?_
      exact H15 (v2 + (-1 : Int32)) σ h
    have h := h6 hc
    refine q_aload_n (pc := 124) C d_Un_findCosts_124 rfl 0 rfl ?_
    refine q_iload (pc := 125) C d_Un_findCosts_125 3 rfl ?_
    refine q_callVV (pc := 127) (st := []) (d := 22) C (m_Un_letGoOn hY h) mi_Un_letGoOn rfl (by decide) rfl wd_455 rfl rfl (Nat.le_of_ble_eq_true rfl) (by decide) (by decide) d_Un_findCosts_127 (fun τ127 h => ?_)
    refine q_iinc (pc := 130) (v4 + (1 : Int32)) [(4, .int (v4 + (1 : Int32))), (0, .ref (ya Y 22)), (1, .ref (ya Y o1)), (2, .int v2)] C d_Un_findCosts_130 3 rfl rfl (by decide) rfl ?_
    refine q_goto (pc := 133) 115 C d_Un_findCosts_133 (by decide) ?_
    refine q_sub [(0, .ref (ya Y 22)), (1, .ref (ya Y o1)), (2, .int v2), (4, .int (v4 + (1 : Int32)))] [1, 2, 3, 0] rfl ?_
    exact ih (v4 + (1 : Int32)) τ127 h
def B_Un_findCosts_84 (o1 : Nat) (K : Sg → Prop) (r15 : Int32 → Sg → Prop) (r34 : Int32 → Sg → Prop) (v2 : Int32) (v3 : Int32) (v4 : Int32) (vs0 : Int32) (vs1 : Int32) (cs2 : Nat) (σ : Sg) : Prop :=
  (vp_in vs1 256 ∧ (∀ τ84 : Sg, τ84 = s2 σ cs2 vs1.toNatClampNeg vs0 → r34 (v4 + (1 : Int32)) τ84))
theorem t_Un_findCosts_84 {X : Bx} {Y : Yx} {o1 : Nat} {v2 : Int32} {v3 : Int32} {v4 : Int32} {vs0 : Int32} {vs1 : Int32} {cs2 : Nat} {K : Sg → Prop} {r15 : Int32 → Sg → Prop} {r34 : Int32 → Sg → Prop} (hY : YD Y) (C : Cx X Y prog_7_method_6_code 6 "LoadCycles$Unmixer" 2 60) (hr : (xh X).sig.returnType = none) (ho1 : kd o1 = 2) (hkcs2 : ia cs2 256) (H15 : ∀ (v2 : Int32) (σ : Sg), r15 v2 σ → St X Y 6 (QV X Y K) 15 [(0, .ref (ya Y 22)), (1, .ref (ya Y o1)), (2, .int v2)] [] σ) (H34 : ∀ (v4 : Int32) (σ : Sg), r34 v4 σ → St X Y 6 (QV X Y K) 34 [(0, .ref (ya Y 22)), (1, .ref (ya Y o1)), (2, .int v2), (3, .int v3), (4, .int v4)] [] σ)  {σ : Sg} (h : B_Un_findCosts_84 o1 K r15 r34 v2 v3 v4 vs0 vs1 cs2 σ) : St X Y 6 (QV X Y K) 84 [(0, .ref (ya Y 22)), (1, .ref (ya Y o1)), (2, .int v2), (3, .int v3), (4, .int v4)] [.int vs0, .int vs1, .ref (ya Y cs2)] σ := by
  unfold B_Un_findCosts_84 at h
  obtain ⟨h12, h⟩ := h
  refine q_iast (pc := 84) (c := cs2) C hkcs2 h12 d_Un_findCosts_84 ?_
  refine q_nms (fun τ84 eτ84 => ?_)
  replace h := h τ84 eτ84
  refine q_iinc (pc := 85) (v4 + (1 : Int32)) [(4, .int (v4 + (1 : Int32))), (0, .ref (ya Y 22)), (1, .ref (ya Y o1)), (2, .int v2), (3, .int v3)] C d_Un_findCosts_85 4 rfl rfl (by decide) rfl ?_
  refine q_goto (pc := 88) 34 C d_Un_findCosts_88 (by decide) ?_
  refine q_sub [(0, .ref (ya Y 22)), (1, .ref (ya Y o1)), (2, .int v2), (3, .int v3), (4, .int (v4 + (1 : Int32)))] [1, 2, 3, 4, 0] rfl ?_
  exact H34 (v4 + (1 : Int32)) τ84 h
def L_Un_findCosts_34 (o1 : Nat) (v2 : Int32) (v3 : Int32) (K : Sg → Prop) (r15 : Int32 → Sg → Prop) : Nat → Int32 → Sg → Prop
  | 0, _, _ => False
  | n + 1, v4, σ =>
    (((σ 22 5) ≤ v4 → (ia (σ 22 3).toNatClampNeg 256 ∧ (cpk (0 : Int32) (v2 * (256 : Int32)) (σ 22 5) 256 5120 ∧ (∀ τ109 : Sg, τ109 = s1 σ 25 (va_cpy (σ (σ 22 3).toNatClampNeg) (σ 25) (0 : Int32).toNatClampNeg (v2 * (256 : Int32)).toNatClampNeg (σ 22 5).toNatClampNeg) → (∃ n7 : Nat, L_Un_findCosts_115 o1 v2 K r15 n7 (0 : Int32) τ109))))) ∧ (¬ (σ 22 5) ≤ v4 → (vp_in v4 256 ∧ (∀ y5_52 : Int32, y5_52 = (v3 - (σ 23 v4.toNatClampNeg)) → (ia (σ 22 3).toNatClampNeg 256 ∧ ((0 ≤ y5_52 → (ia (σ 22 3).toNatClampNeg 256 ∧ (vp_in v4 256 ∧ B_Un_findCosts_84 o1 K r15 (fun a0 a1 => L_Un_findCosts_34 o1 v2 v3 K r15 n a0 a1) v2 v3 v4 ((y5_52 * (1000 : Int32)) + (σ (σ 22 3).toNatClampNeg v4.toNatClampNeg)) v4 (σ 22 3).toNatClampNeg σ))) ∧ (¬ 0 ≤ y5_52 → B_Un_findCosts_84 o1 K r15 (fun a0 a1 => L_Un_findCosts_34 o1 v2 v3 K r15 n a0 a1) v2 v3 v4 (536870912 : Int32) v4 (σ 22 3).toNatClampNeg σ)))))))
theorem t_Un_findCosts_34 {X : Bx} {Y : Yx} {o1 : Nat} {v2 : Int32} {v3 : Int32} {K : Sg → Prop} {r15 : Int32 → Sg → Prop} (hY : YD Y) (C : Cx X Y prog_7_method_6_code 6 "LoadCycles$Unmixer" 2 60) (hr : (xh X).sig.returnType = none) (ho1 : kd o1 = 2) (H15 : ∀ (v2 : Int32) (σ : Sg), r15 v2 σ → St X Y 6 (QV X Y K) 15 [(0, .ref (ya Y 22)), (1, .ref (ya Y o1)), (2, .int v2)] [] σ) : ∀ (n : Nat) (v4 : Int32) (σ : Sg), L_Un_findCosts_34 o1 v2 v3 K r15 n v4 σ → St X Y 6 (QV X Y K) 34 [(0, .ref (ya Y 22)), (1, .ref (ya Y o1)), (2, .int v2), (3, .int v3), (4, .int v4)] [] σ := by
  intro n
  induction n with
  | zero => intro v4 σ h; exact h.elim
  | succ n ih =>
    intro v4 σ h
    unfold L_Un_findCosts_34 at h
    refine q_iload (pc := 34) C d_Un_findCosts_34 4 rfl ?_
    refine q_aload_n (pc := 36) C d_Un_findCosts_36 rfl 0 rfl ?_
    refine q_get (pc := 37) (c := 22) (ci := 5) (k := 5) (v := .int (σ 22 5)) C rfl (by decide) (by decide) wd_166 rfl d_Un_findCosts_37 ?_
    obtain ⟨h15, h16⟩ := h
    refine q_icmp_ge (pc := 40) 91 C d_Un_findCosts_40 (by decide) (fun hc => ?_) (fun hc => ?_)
    · have h := h15 hc
      refine q_aload_n (pc := 91) C d_Un_findCosts_91 rfl 0 rfl ?_
      obtain ⟨h3, h⟩ := h
      refine q_get (pc := 92) (c := 22) (ci := 5) (k := 3) (v := .ref (ya Y (σ 22 3).toNatClampNeg)) C rfl (by decide) (by decide) wd_164 rfl d_Un_findCosts_92 ?_
      refine q_iconst (pc := 95) (v := 0) C d_Un_findCosts_95 (by decide) ?_
      refine q_aload_n (pc := 96) C d_Un_findCosts_96 rfl 0 rfl ?_
      refine q_get (pc := 97) (c := 22) (ci := 5) (k := 2) (v := .ref (ya Y 25)) C rfl (by decide) (by decide) wd_163 rfl d_Un_findCosts_97 ?_
      refine q_iload_n (pc := 100) C d_Un_findCosts_100 rfl 2 rfl ?_
      refine q_sipush (pc := 101) (v := 256) C d_Un_findCosts_101 (by decide) ?_
      refine q_imul (pc := 104) C d_Un_findCosts_104 ?_
      refine q_aload_n (pc := 105) C d_Un_findCosts_105 rfl 0 rfl ?_
      refine q_get (pc := 106) (c := 22) (ci := 5) (k := 5) (v := .int (σ 22 5)) C rfl (by decide) (by decide) wd_166 rfl d_Un_findCosts_106 ?_
      obtain ⟨h4, h⟩ := h
      refine q_copy (pc := 109) (c0 := (σ 22 3).toNatClampNeg) (c1 := 25) (st := []) C h3 ⟨rfl, rfl⟩ h4 wd_454 wd_344 wd_343 wd_73 (by decide) (by decide) d_Un_findCosts_109 ?_
      refine q_nms (fun τ109 eτ109 => ?_)
      replace h := h τ109 eτ109
      refine q_iconst (pc := 112) (v := 0) C d_Un_findCosts_112 (by decide) ?_
      refine q_istore (pc := 113) [(4, .int (0 : Int32)), (0, .ref (ya Y 22)), (1, .ref (ya Y o1)), (2, .int v2), (3, .int v3)] C d_Un_findCosts_113 (by decide) rfl ?_
      obtain ⟨n7, h⟩ := h
      refine q_sub [(0, .ref (ya Y 22)), (1, .ref (ya Y o1)), (2, .int v2), (4, .int (0 : Int32))] [1, 2, 3, 0] rfl ?_
      exact t_Un_findCosts_115 hY C hr ho1 H15 n7 (0 : Int32) τ109 h
    have h := h16 hc
    refine q_iload_n (pc := 43) C d_Un_findCosts_43 rfl 3 rfl ?_
    refine q_aload_n (pc := 44) C d_Un_findCosts_44 rfl 0 rfl ?_
    refine q_get (pc := 45) (c := 22) (ci := 5) (k := 0) (v := .ref (ya Y 23)) C rfl (by decide) (by decide) wd_161 rfl d_Un_findCosts_45 ?_
    refine q_iload (pc := 48) C d_Un_findCosts_48 4 rfl ?_
    obtain ⟨h8, h⟩ := h
    refine q_iald (pc := 50) (c := 23) C ⟨rfl, rfl⟩ h8 d_Un_findCosts_50 ?_
    refine q_isub (pc := 51) C d_Un_findCosts_51 ?_
    refine q_nmi (fun y5_52 ey5_52 => ?_)
    replace h := h y5_52 ey5_52
    refine q_istore (pc := 52) [(5, .int y5_52), (0, .ref (ya Y 22)), (1, .ref (ya Y o1)), (2, .int v2), (3, .int v3), (4, .int v4)] C d_Un_findCosts_52 (by decide) rfl ?_
    refine q_aload_n (pc := 54) C d_Un_findCosts_54 rfl 1 rfl ?_
    obtain ⟨h9, h⟩ := h
    refine q_get (pc := 55) (c := 22) (ci := 5) (k := 3) (v := .ref (ya Y (σ 22 3).toNatClampNeg)) C rfl (by decide) (by decide) wd_164 rfl d_Un_findCosts_55 ?_
    refine q_iload (pc := 58) C d_Un_findCosts_58 5 rfl ?_
    refine q_iload (pc := 60) C d_Un_findCosts_60 0 rfl ?_
    obtain ⟨h13, h14⟩ := h
    refine q_if_ge (pc := 62) 70 C d_Un_findCosts_62 (by decide) (fun hc => ?_) (fun hc => ?_)
    · have h := h13 hc
      refine q_iload (pc := 70) C d_Un_findCosts_70 0 rfl ?_
      refine q_sipush (pc := 72) (v := 1000) C d_Un_findCosts_72 (by decide) ?_
      refine q_imul (pc := 75) C d_Un_findCosts_75 ?_
      refine q_aload_n (pc := 76) C d_Un_findCosts_76 rfl 1 rfl ?_
      obtain ⟨h10, h⟩ := h
      refine q_get (pc := 77) (c := 22) (ci := 5) (k := 3) (v := .ref (ya Y (σ 22 3).toNatClampNeg)) C rfl (by decide) (by decide) wd_164 rfl d_Un_findCosts_77 ?_
      refine q_iload (pc := 80) C d_Un_findCosts_80 5 rfl ?_
      obtain ⟨h11, h⟩ := h
      refine q_iald (pc := 82) (c := (σ 22 3).toNatClampNeg) C h10 h11 d_Un_findCosts_82 ?_
      refine q_iadd (pc := 83) C d_Un_findCosts_83 ?_
      refine q_sub [(0, .ref (ya Y 22)), (1, .ref (ya Y o1)), (2, .int v2), (3, .int v3), (4, .int v4)] [1, 2, 3, 4, 5] rfl ?_
      exact t_Un_findCosts_84 hY C hr ho1 h9 H15 ih h
    have h := h14 hc
    refine q_ldc (pc := 65) C wd_453 d_Un_findCosts_65 ?_
    refine q_goto (pc := 67) 84 C d_Un_findCosts_67 (by decide) ?_
    refine q_sub [(0, .ref (ya Y 22)), (1, .ref (ya Y o1)), (2, .int v2), (3, .int v3), (4, .int v4)] [1, 2, 3, 4, 5] rfl ?_
    exact t_Un_findCosts_84 hY C hr ho1 h9 H15 ih h
def L_Un_findCosts_15 (o1 : Nat) (K : Sg → Prop) : Nat → Int32 → Sg → Prop
  | 0, _, _ => False
  | n + 1, v2, σ =>
    ((v2 < 0 → K σ) ∧ (¬ v2 < 0 → (vp_in v2 20 ∧ (∀ y3_30 : Int32, y3_30 = ((σ (o1 + 4) v2.toNatClampNeg) - (σ o1 6)) → (∃ n17 : Nat, L_Un_findCosts_34 o1 v2 y3_30 K (fun a0 a1 => L_Un_findCosts_15 o1 K n a0 a1) n17 (0 : Int32) σ)))))
theorem t_Un_findCosts_15 {X : Bx} {Y : Yx} {o1 : Nat} {K : Sg → Prop}  (hY : YD Y) (C : Cx X Y prog_7_method_6_code 6 "LoadCycles$Unmixer" 2 60) (hr : (xh X).sig.returnType = none) (ho1 : kd o1 = 2) : ∀ (n : Nat) (v2 : Int32) (σ : Sg), L_Un_findCosts_15 o1 K n v2 σ → St X Y 6 (QV X Y K) 15 [(0, .ref (ya Y 22)), (1, .ref (ya Y o1)), (2, .int v2)] [] σ := by
  intro n
  induction n with
  | zero => intro v2 σ h; exact h.elim
  | succ n ih =>
    intro v2 σ h
    unfold L_Un_findCosts_15 at h
    refine q_iload_n (pc := 15) C d_Un_findCosts_15 rfl 2 rfl ?_
    obtain ⟨h18, h19⟩ := h
    refine q_if_lt (pc := 16) 142 C d_Un_findCosts_16 (by decide) (fun hc => ?_) (fun hc => ?_)
    · have h := h18 hc
      exact q_vret (pc := 142) C hr d_Un_findCosts_142 h
    have h := h19 hc
    refine q_aload_n (pc := 19) C d_Un_findCosts_19 rfl 1 rfl ?_
    refine q_get (pc := 20) (c := o1) (ci := 2) (k := 3) (v := .ref (ya Y (o1 + 4))) C ho1 (by decide) (by decide) wd_99 rfl d_Un_findCosts_20 ?_
    refine q_iload_n (pc := 23) C d_Un_findCosts_23 rfl 2 rfl ?_
    obtain ⟨h2, h⟩ := h
    refine q_iald (pc := 24) (c := (o1 + 4)) C (k2_4 ho1) h2 d_Un_findCosts_24 ?_
    refine q_aload_n (pc := 25) C d_Un_findCosts_25 rfl 1 rfl ?_
    refine q_get (pc := 26) (c := o1) (ci := 2) (k := 6) (v := .int (σ o1 6)) C ho1 (by decide) (by decide) wd_111 rfl d_Un_findCosts_26 ?_
    refine q_isub (pc := 29) C d_Un_findCosts_29 ?_
    refine q_nmi (fun y3_30 ey3_30 => ?_)
    replace h := h y3_30 ey3_30
    refine q_istore_n (pc := 30) [(3, .int y3_30), (0, .ref (ya Y 22)), (1, .ref (ya Y o1)), (2, .int v2)] C d_Un_findCosts_30 rfl (by decide) rfl ?_
    refine q_iconst (pc := 31) (v := 0) C d_Un_findCosts_31 (by decide) ?_
    refine q_istore (pc := 32) [(4, .int (0 : Int32)), (3, .int y3_30), (0, .ref (ya Y 22)), (1, .ref (ya Y o1)), (2, .int v2)] C d_Un_findCosts_32 (by decide) rfl ?_
    obtain ⟨n17, h⟩ := h
    refine q_sub [(0, .ref (ya Y 22)), (1, .ref (ya Y o1)), (2, .int v2), (3, .int y3_30), (4, .int (0 : Int32))] [2, 3, 4, 1, 0] rfl ?_
    exact t_Un_findCosts_34 hY C hr ho1 ih n17 (0 : Int32) σ h
def w_Un_findCosts (o1 : Nat) (σ : Sg) (K : Sg → Prop) : Prop :=
  (ia (σ 22 3).toNatClampNeg 256 ∧ w_Ja_fill (σ 22 3).toNatClampNeg (0 : Int32) σ (fun τ5 => (∀ y2_14 : Int32, y2_14 = ((τ5 o1 5) - (1 : Int32)) → (∃ n20 : Nat, L_Un_findCosts_15 o1 K n20 y2_14 τ5))))
set_option maxHeartbeats 4000000 in
theorem m_Un_findCosts {Y : Yx} {o1 : Nat} {σ : Sg} {K : Sg → Prop} (hY : YD Y) (ho1 : kd o1 = 2) (h : w_Un_findCosts o1 σ K) : MetV Y y_Un_findCosts prog_7_method_6_code 6 2 60 [.ref (ya Y 22), .ref (ya Y o1)] σ K := by
  refine met_V [(0, .ref (ya Y 22)), (1, .ref (ya Y o1))] hY (by decide) (Nat.le_of_ble_eq_true rfl) rfl (fun X C hr => ?_)
  unfold w_Un_findCosts at h
  refine q_aload_n (pc := 0) C d_Un_findCosts_0 rfl 0 rfl ?_
  obtain ⟨h1, h⟩ := h
  refine q_get (pc := 1) (c := 22) (ci := 5) (k := 3) (v := .ref (ya Y (σ 22 3).toNatClampNeg)) C rfl (by decide) (by decide) wd_164 rfl d_Un_findCosts_1 ?_
  refine q_iconst (pc := 4) (v := 0) C d_Un_findCosts_4 (by decide) ?_
  refine q_callSV (pc := 5) (st := []) C (m_Ja_fill hY (iaL h1 : ia (σ 22 3).toNatClampNeg (ln (σ 22 3).toNatClampNeg)) h) mi_Ja_fill wd_450 rfl rfl (Nat.le_of_ble_eq_true rfl) (by decide) (by decide) d_Un_findCosts_5 (fun τ5 h => ?_)
  refine q_aload_n (pc := 8) C d_Un_findCosts_8 rfl 1 rfl ?_
  refine q_get (pc := 9) (c := o1) (ci := 2) (k := 5) (v := .int (τ5 o1 5)) C ho1 (by decide) (by decide) wd_104 rfl d_Un_findCosts_9 ?_
  refine q_iconst (pc := 12) (v := 1) C d_Un_findCosts_12 (by decide) ?_
  refine q_isub (pc := 13) C d_Un_findCosts_13 ?_
  refine q_nmi (fun y2_14 ey2_14 => ?_)
  replace h := h y2_14 ey2_14
  refine q_istore_n (pc := 14) [(2, .int y2_14), (0, .ref (ya Y 22)), (1, .ref (ya Y o1))] C d_Un_findCosts_14 rfl (by decide) rfl ?_
  obtain ⟨n20, h⟩ := h
  refine q_sub [(0, .ref (ya Y 22)), (1, .ref (ya Y o1)), (2, .int y2_14)] [1, 2, 0] rfl ?_
  exact t_Un_findCosts_15 hY C hr ho1 n20 y2_14 τ5 h
theorem d_Ho_allValues_0 : decode prog_4_method_14_code 0 = .ok (.iconst 0, 1) := by decide +kernel
theorem d_Ho_allValues_1 : decode prog_4_method_14_code 1 = .ok (.istore_n 1, 1) := by decide +kernel
theorem d_Ho_allValues_2 : decode prog_4_method_14_code 2 = .ok (.iconst 0, 1) := by decide +kernel
theorem d_Ho_allValues_3 : decode prog_4_method_14_code 3 = .ok (.istore_n 2, 1) := by decide +kernel
theorem d_Ho_allValues_4 : decode prog_4_method_14_code 4 = .ok (.iload_n 2, 1) := by decide +kernel
theorem d_Ho_allValues_5 : decode prog_4_method_14_code 5 = .ok (.aload_n 0, 1) := by decide +kernel
theorem d_Ho_allValues_6 : decode prog_4_method_14_code 6 = .ok (.getfield 34, 3) := by decide +kernel
theorem d_Ho_allValues_9 : decode prog_4_method_14_code 9 = .ok (.if_icmp .ge 18, 3) := by decide +kernel
theorem d_Ho_allValues_12 : decode prog_4_method_14_code 12 = .ok (.iload_n 1, 1) := by decide +kernel
theorem d_Ho_allValues_13 : decode prog_4_method_14_code 13 = .ok (.aload_n 0, 1) := by decide +kernel
theorem d_Ho_allValues_14 : decode prog_4_method_14_code 14 = .ok (.getfield 21, 3) := by decide +kernel
theorem d_Ho_allValues_17 : decode prog_4_method_14_code 17 = .ok (.iload_n 2, 1) := by decide +kernel
theorem d_Ho_allValues_18 : decode prog_4_method_14_code 18 = .ok (.iaload, 1) := by decide +kernel
theorem d_Ho_allValues_19 : decode prog_4_method_14_code 19 = .ok (.iadd, 1) := by decide +kernel
theorem d_Ho_allValues_20 : decode prog_4_method_14_code 20 = .ok (.istore_n 1, 1) := by decide +kernel
theorem d_Ho_allValues_21 : decode prog_4_method_14_code 21 = .ok (.iinc 2 1, 3) := by decide +kernel
theorem d_Ho_allValues_24 : decode prog_4_method_14_code 24 = .ok (.goto (-20), 3) := by decide +kernel
theorem d_Ho_allValues_27 : decode prog_4_method_14_code 27 = .ok (.iload_n 1, 1) := by decide +kernel
theorem d_Ho_allValues_28 : decode prog_4_method_14_code 28 = .ok (.ireturn, 1) := by decide +kernel
abbrev y_Ho_allValues : MethodName := ⟨"LoadCycles$House", "allValues", "()I"⟩
theorem mi_Ho_allValues : miV y_Ho_allValues prog_4_method_14_code 3 (some .int) 0 := ⟨wd_468, wd_469, wd_66, wd_470, by decide, by decide, by decide +kernel⟩
def L_Ho_allValues_4 (o : Nat) (σ : Sg) (K : Int32 → Prop) : Nat → Int32 → Int32 → Prop
  | 0, _, _ => False
  | n + 1, v1, v2 =>
    (((σ o 5) ≤ v2 → K v1) ∧ (¬ (σ o 5) ≤ v2 → (vp_in v2 20 ∧ (∀ y1_20 : Int32, y1_20 = (v1 + (σ (o + 4) v2.toNatClampNeg)) → L_Ho_allValues_4 o σ K n y1_20 (v2 + (1 : Int32))))))
theorem t_Ho_allValues_4 {X : Bx} {Y : Yx} {o : Nat} {σ : Sg} {K : Int32 → Prop}  (hY : YD Y) (C : Cx X Y prog_4_method_14_code 3 "LoadCycles$House" 0 0) (hr : (xh X).sig.returnType = some .int) (ho : kd o = 2) : ∀ (n : Nat) (v1 : Int32) (v2 : Int32), L_Ho_allValues_4 o σ K n v1 v2 → St X Y 3 (QI X Y (fun r τ => τ = σ ∧ K r)) 4 [(0, .ref (ya Y o)), (1, .int v1), (2, .int v2)] [] σ := by
  intro n
  induction n with
  | zero => intro v1 v2 h; exact h.elim
  | succ n ih =>
    intro v1 v2 h
    unfold L_Ho_allValues_4 at h
    refine q_iload_n (pc := 4) C d_Ho_allValues_4 rfl 2 rfl ?_
    refine q_aload_n (pc := 5) C d_Ho_allValues_5 rfl 0 rfl ?_
    refine q_get (pc := 6) (c := o) (ci := 2) (k := 5) (v := .int (σ o 5)) C ho (by decide) (by decide) wd_105 rfl d_Ho_allValues_6 ?_
    obtain ⟨h2, h3⟩ := h
    refine q_icmp_ge (pc := 9) 27 C d_Ho_allValues_9 (by decide) (fun hc => ?_) (fun hc => ?_)
    · have h := h2 hc
      refine q_iload_n (pc := 27) C d_Ho_allValues_27 rfl 1 rfl ?_
      exact q_iret (pc := 28) C hr d_Ho_allValues_28 ⟨rfl, h⟩
    have h := h3 hc
    refine q_iload_n (pc := 12) C d_Ho_allValues_12 rfl 1 rfl ?_
    refine q_aload_n (pc := 13) C d_Ho_allValues_13 rfl 0 rfl ?_
    refine q_get (pc := 14) (c := o) (ci := 2) (k := 3) (v := .ref (ya Y (o + 4))) C ho (by decide) (by decide) wd_97 rfl d_Ho_allValues_14 ?_
    refine q_iload_n (pc := 17) C d_Ho_allValues_17 rfl 2 rfl ?_
    obtain ⟨h1, h⟩ := h
    refine q_iald (pc := 18) (c := (o + 4)) C (k2_4 ho) h1 d_Ho_allValues_18 ?_
    refine q_iadd (pc := 19) C d_Ho_allValues_19 ?_
    refine q_nmi (fun y1_20 ey1_20 => ?_)
    replace h := h y1_20 ey1_20
    refine q_istore_n (pc := 20) [(1, .int y1_20), (0, .ref (ya Y o)), (2, .int v2)] C d_Ho_allValues_20 rfl (by decide) rfl ?_
    refine q_iinc (pc := 21) (v2 + (1 : Int32)) [(2, .int (v2 + (1 : Int32))), (1, .int y1_20), (0, .ref (ya Y o))] C d_Ho_allValues_21 2 rfl rfl (by decide) rfl ?_
    refine q_goto (pc := 24) 4 C d_Ho_allValues_24 (by decide) ?_
    refine q_sub [(0, .ref (ya Y o)), (1, .int y1_20), (2, .int (v2 + (1 : Int32)))] [2, 1, 0] rfl ?_
    exact ih y1_20 (v2 + (1 : Int32)) h
def w_Ho_allValues (o : Nat) (σ : Sg) (K : Int32 → Prop) : Prop :=
  (∃ n4 : Nat, L_Ho_allValues_4 o σ K n4 (0 : Int32) (0 : Int32))
set_option maxHeartbeats 4000000 in
theorem m_Ho_allValues {Y : Yx} {o : Nat} {σ : Sg} {K : Int32 → Prop} (hY : YD Y) (ho : kd o = 2) (h : w_Ho_allValues o σ K) : MetI Y y_Ho_allValues prog_4_method_14_code 3 (.int) 0 0 [.ref (ya Y o)] σ (fun r τ => τ = σ ∧ K r) := by
  refine met_I [(0, .ref (ya Y o))] hY (by decide) (Nat.le_of_ble_eq_true rfl) rfl (fun X C hr => ?_)
  unfold w_Ho_allValues at h
  refine q_iconst (pc := 0) (v := 0) C d_Ho_allValues_0 (by decide) ?_
  refine q_istore_n (pc := 1) [(1, .int (0 : Int32)), (0, .ref (ya Y o))] C d_Ho_allValues_1 rfl (by decide) rfl ?_
  refine q_iconst (pc := 2) (v := 0) C d_Ho_allValues_2 (by decide) ?_
  refine q_istore_n (pc := 3) [(2, .int (0 : Int32)), (1, .int (0 : Int32)), (0, .ref (ya Y o))] C d_Ho_allValues_3 rfl (by decide) rfl ?_
  obtain ⟨n4, h⟩ := h
  refine q_sub [(0, .ref (ya Y o)), (1, .int (0 : Int32)), (2, .int (0 : Int32))] [2, 1, 0] rfl ?_
  exact t_Ho_allValues_4 hY C hr ho n4 (0 : Int32) (0 : Int32) h
theorem d_Do_begin_0 : decode prog_2_method_5_code 0 = .ok (.aload_n 0, 1) := by decide +kernel
theorem d_Do_begin_1 : decode prog_2_method_5_code 1 = .ok (.getfield 15, 3) := by decide +kernel
theorem d_Do_begin_4 : decode prog_2_method_5_code 4 = .ok (.iconst 0, 1) := by decide +kernel
theorem d_Do_begin_5 : decode prog_2_method_5_code 5 = .ok (.invokestatic 35, 3) := by decide +kernel
theorem d_Do_begin_8 : decode prog_2_method_5_code 8 = .ok (.aload_n 0, 1) := by decide +kernel
theorem d_Do_begin_9 : decode prog_2_method_5_code 9 = .ok (.iconst 0, 1) := by decide +kernel
theorem d_Do_begin_10 : decode prog_2_method_5_code 10 = .ok (.putfield 32, 3) := by decide +kernel
theorem d_Do_begin_13 : decode prog_2_method_5_code 13 = .ok (.aload_n 0, 1) := by decide +kernel
theorem d_Do_begin_14 : decode prog_2_method_5_code 14 = .ok (.aload_n 1, 1) := by decide +kernel
theorem d_Do_begin_15 : decode prog_2_method_5_code 15 = .ok (.invokevirtual 41, 3) := by decide +kernel
theorem d_Do_begin_18 : decode prog_2_method_5_code 18 = .ok (.aload_n 1, 1) := by decide +kernel
theorem d_Do_begin_19 : decode prog_2_method_5_code 19 = .ok (.getfield 47, 3) := by decide +kernel
theorem d_Do_begin_22 : decode prog_2_method_5_code 22 = .ok (.aload_n 1, 1) := by decide +kernel
theorem d_Do_begin_23 : decode prog_2_method_5_code 23 = .ok (.getfield 50, 3) := by decide +kernel
theorem d_Do_begin_26 : decode prog_2_method_5_code 26 = .ok (.imul, 1) := by decide +kernel
theorem d_Do_begin_27 : decode prog_2_method_5_code 27 = .ok (.isub, 1) := by decide +kernel
theorem d_Do_begin_28 : decode prog_2_method_5_code 28 = .ok (.putfield 22, 3) := by decide +kernel
theorem d_Do_begin_31 : decode prog_2_method_5_code 31 = .ok (.aload_n 0, 1) := by decide +kernel
theorem d_Do_begin_32 : decode prog_2_method_5_code 32 = .ok (.iconst 0, 1) := by decide +kernel
theorem d_Do_begin_33 : decode prog_2_method_5_code 33 = .ok (.putfield 26, 3) := by decide +kernel
theorem d_Do_begin_36 : decode prog_2_method_5_code 36 = .ok (.aload_n 0, 1) := by decide +kernel
theorem d_Do_begin_37 : decode prog_2_method_5_code 37 = .ok (.iconst 0, 1) := by decide +kernel
theorem d_Do_begin_38 : decode prog_2_method_5_code 38 = .ok (.putfield 29, 3) := by decide +kernel
theorem d_Do_begin_41 : decode prog_2_method_5_code 41 = .ok (.return_, 1) := by decide +kernel
abbrev y_Do_begin : MethodName := ⟨"LoadCycles$Doing", "begin", "(LLoadCycles$House;)V"⟩
theorem mi_Do_begin : miV y_Do_begin prog_2_method_5_code 2 none 1 := ⟨wd_463, wd_464, wd_67, wd_465, by decide, by decide, by decide +kernel⟩
def w_Do_begin (o : Nat) (o1 : Nat) (σ : Sg) (K : Sg → Prop) : Prop :=
  w_Ja_fill (o + 2) (0 : Int32) σ (fun τ5 => (∀ τ10 : Sg, τ10 = s2 τ5 o 2 (0 : Int32) → w_Ho_allValues o1 τ10 (fun u15 => (∀ τ28 : Sg, τ28 = s2 τ10 o 3 (u15 - ((τ10 o1 5) * (τ10 o1 6))) → (∀ τ33 : Sg, τ33 = s2 τ28 o 4 (0 : Int32) → (∀ τ38 : Sg, τ38 = s2 τ33 o 5 (0 : Int32) → K τ38))))))
set_option maxHeartbeats 4000000 in
theorem m_Do_begin {Y : Yx} {o : Nat} {o1 : Nat} {σ : Sg} {K : Sg → Prop} (hY : YD Y) (ho : kd o = 0) (ho1 : kd o1 = 2) (h : w_Do_begin o o1 σ K) : MetV Y y_Do_begin prog_2_method_5_code 2 1 23 [.ref (ya Y o), .ref (ya Y o1)] σ K := by
  refine met_V [(0, .ref (ya Y o)), (1, .ref (ya Y o1))] hY (by decide) (Nat.le_of_ble_eq_true rfl) rfl (fun X C hr => ?_)
  unfold w_Do_begin at h
  refine q_aload_n (pc := 0) C d_Do_begin_0 rfl 0 rfl ?_
  refine q_get (pc := 1) (c := o) (ci := 0) (k := 1) (v := .ref (ya Y (o + 2))) C ho (by decide) (by decide) wd_135 rfl d_Do_begin_1 ?_
  refine q_iconst (pc := 4) (v := 0) C d_Do_begin_4 (by decide) ?_
  refine q_callSV (pc := 5) (st := []) C (m_Ja_fill hY (iaL (k0_2 ho) : ia (o + 2) (ln (o + 2))) h) mi_Ja_fill wd_466 rfl rfl (Nat.le_of_ble_eq_true rfl) (by decide) (by decide) d_Do_begin_5 (fun τ5 h => ?_)
  refine q_aload_n (pc := 8) C d_Do_begin_8 rfl 0 rfl ?_
  refine q_iconst (pc := 9) (v := 0) C d_Do_begin_9 (by decide) ?_
  refine q_put (pc := 10) (c := o) (ci := 0) (k := 2) C ho (by decide) (by decide) wd_138 rfl rfl rfl fs_0_2 d_Do_begin_10 ?_
  refine q_nms (fun τ10 eτ10 => ?_)
  replace h := h τ10 eτ10
  refine q_aload_n (pc := 13) C d_Do_begin_13 rfl 0 rfl ?_
  refine q_aload_n (pc := 14) C d_Do_begin_14 rfl 1 rfl ?_
  refine q_callVIr (pc := 15) (st := [.ref (ya Y o)]) (d := o1) C (m_Ho_allValues hY ho1 h) mi_Ho_allValues ho1 (by decide) rfl wd_467 rfl rfl (Nat.le_of_ble_eq_true rfl) (by decide) (by decide) d_Do_begin_15 (fun u15 h => ?_)
  refine q_aload_n (pc := 18) C d_Do_begin_18 rfl 1 rfl ?_
  refine q_get (pc := 19) (c := o1) (ci := 2) (k := 5) (v := .int (τ10 o1 5)) C ho1 (by decide) (by decide) wd_106 rfl d_Do_begin_19 ?_
  refine q_aload_n (pc := 22) C d_Do_begin_22 rfl 1 rfl ?_
  refine q_get (pc := 23) (c := o1) (ci := 2) (k := 6) (v := .int (τ10 o1 6)) C ho1 (by decide) (by decide) wd_109 rfl d_Do_begin_23 ?_
  refine q_imul (pc := 26) C d_Do_begin_26 ?_
  refine q_isub (pc := 27) C d_Do_begin_27 ?_
  refine q_put (pc := 28) (c := o) (ci := 0) (k := 3) C ho (by decide) (by decide) wd_139 rfl rfl rfl fs_0_3 d_Do_begin_28 ?_
  refine q_nms (fun τ28 eτ28 => ?_)
  replace h := h τ28 eτ28
  refine q_aload_n (pc := 31) C d_Do_begin_31 rfl 0 rfl ?_
  refine q_iconst (pc := 32) (v := 0) C d_Do_begin_32 (by decide) ?_
  refine q_put (pc := 33) (c := o) (ci := 0) (k := 4) C ho (by decide) (by decide) wd_140 rfl rfl rfl fs_0_4 d_Do_begin_33 ?_
  refine q_nms (fun τ33 eτ33 => ?_)
  replace h := h τ33 eτ33
  refine q_aload_n (pc := 36) C d_Do_begin_36 rfl 0 rfl ?_
  refine q_iconst (pc := 37) (v := 0) C d_Do_begin_37 (by decide) ?_
  refine q_put (pc := 38) (c := o) (ci := 0) (k := 5) C ho (by decide) (by decide) wd_141 rfl rfl rfl fs_0_5 d_Do_begin_38 ?_
  refine q_nms (fun τ38 eτ38 => ?_)
  replace h := h τ38 eτ38
  exact q_vret (pc := 41) C hr d_Do_begin_41 h
theorem d_Un_mixBehind_0 : decode prog_7_method_9_code 0 = .ok (.iload_n 2, 1) := by decide +kernel
theorem d_Un_mixBehind_1 : decode prog_7_method_9_code 1 = .ok (.istore 4, 2) := by decide +kernel
theorem d_Un_mixBehind_3 : decode prog_7_method_9_code 3 = .ok (.iconst 0, 1) := by decide +kernel
theorem d_Un_mixBehind_4 : decode prog_7_method_9_code 4 = .ok (.istore 5, 2) := by decide +kernel
theorem d_Un_mixBehind_6 : decode prog_7_method_9_code 6 = .ok (.iload 5, 2) := by decide +kernel
theorem d_Un_mixBehind_8 : decode prog_7_method_9_code 8 = .ok (.aload_n 1, 1) := by decide +kernel
theorem d_Un_mixBehind_9 : decode prog_7_method_9_code 9 = .ok (.getfield 52, 3) := by decide +kernel
theorem d_Un_mixBehind_12 : decode prog_7_method_9_code 12 = .ok (.if_icmp .ge 35, 3) := by decide +kernel
theorem d_Un_mixBehind_15 : decode prog_7_method_9_code 15 = .ok (.iload_n 3, 1) := by decide +kernel
theorem d_Un_mixBehind_16 : decode prog_7_method_9_code 16 = .ok (.iload 5, 2) := by decide +kernel
theorem d_Un_mixBehind_18 : decode prog_7_method_9_code 18 = .ok (.ishr, 1) := by decide +kernel
theorem d_Un_mixBehind_19 : decode prog_7_method_9_code 19 = .ok (.iconst 1, 1) := by decide +kernel
theorem d_Un_mixBehind_20 : decode prog_7_method_9_code 20 = .ok (.iand, 1) := by decide +kernel
theorem d_Un_mixBehind_21 : decode prog_7_method_9_code 21 = .ok (.iconst 1, 1) := by decide +kernel
theorem d_Un_mixBehind_22 : decode prog_7_method_9_code 22 = .ok (.if_icmp .ne 19, 3) := by decide +kernel
theorem d_Un_mixBehind_25 : decode prog_7_method_9_code 25 = .ok (.aload_n 0, 1) := by decide +kernel
theorem d_Un_mixBehind_26 : decode prog_7_method_9_code 26 = .ok (.getfield 15, 3) := by decide +kernel
theorem d_Un_mixBehind_29 : decode prog_7_method_9_code 29 = .ok (.iload 5, 2) := by decide +kernel
theorem d_Un_mixBehind_31 : decode prog_7_method_9_code 31 = .ok (.sipush 256, 3) := by decide +kernel
theorem d_Un_mixBehind_34 : decode prog_7_method_9_code 34 = .ok (.imul, 1) := by decide +kernel
theorem d_Un_mixBehind_35 : decode prog_7_method_9_code 35 = .ok (.iload 4, 2) := by decide +kernel
theorem d_Un_mixBehind_37 : decode prog_7_method_9_code 37 = .ok (.iadd, 1) := by decide +kernel
theorem d_Un_mixBehind_38 : decode prog_7_method_9_code 38 = .ok (.iaload, 1) := by decide +kernel
theorem d_Un_mixBehind_39 : decode prog_7_method_9_code 39 = .ok (.istore 4, 2) := by decide +kernel
theorem d_Un_mixBehind_41 : decode prog_7_method_9_code 41 = .ok (.iinc 5 1, 3) := by decide +kernel
theorem d_Un_mixBehind_44 : decode prog_7_method_9_code 44 = .ok (.goto (-38), 3) := by decide +kernel
theorem d_Un_mixBehind_47 : decode prog_7_method_9_code 47 = .ok (.iload 4, 2) := by decide +kernel
theorem d_Un_mixBehind_49 : decode prog_7_method_9_code 49 = .ok (.ireturn, 1) := by decide +kernel
abbrev y_Un_mixBehind : MethodName := ⟨"LoadCycles$Unmixer", "mixBehind", "(LLoadCycles$House;II)I"⟩
theorem mi_Un_mixBehind : miV y_Un_mixBehind prog_7_method_9_code 6 (some .int) 3 := ⟨wd_477, wd_15, wd_68, wd_478, by decide, by decide, by decide +kernel⟩
def L_Un_mixBehind_6 (o1 : Nat) (x2 : Int32) (x3 : Int32) (σ : Sg) (K : Int32 → Prop) : Nat → Int32 → Int32 → Prop
  | 0, _, _ => False
  | n + 1, v4, v5 =>
    (((σ o1 4) ≤ v5 → K v4) ∧ (¬ (σ o1 4) ≤ v5 → ((¬ ((x3 >>> (v5 &&& 31)) &&& (1 : Int32)) = (1 : Int32) → L_Un_mixBehind_6 o1 x2 x3 σ K n v4 (v5 + (1 : Int32))) ∧ (((x3 >>> (v5 &&& 31)) &&& (1 : Int32)) = (1 : Int32) → (vp_in ((v5 * (256 : Int32)) + v4) 1024 ∧ (∀ y4_39 : Int32, y4_39 = (σ 24 ((v5 * (256 : Int32)) + v4).toNatClampNeg) → L_Un_mixBehind_6 o1 x2 x3 σ K n y4_39 (v5 + (1 : Int32))))))))
theorem t_Un_mixBehind_6 {X : Bx} {Y : Yx} {o1 : Nat} {x2 : Int32} {x3 : Int32} {σ : Sg} {K : Int32 → Prop}  (hY : YD Y) (C : Cx X Y prog_7_method_9_code 6 "LoadCycles$Unmixer" 0 0) (hr : (xh X).sig.returnType = some .int) (ho1 : kd o1 = 2) : ∀ (n : Nat) (v4 : Int32) (v5 : Int32), L_Un_mixBehind_6 o1 x2 x3 σ K n v4 v5 → St X Y 6 (QI X Y (fun r τ => τ = σ ∧ K r)) 6 [(0, .ref (ya Y 22)), (1, .ref (ya Y o1)), (3, .int x3), (4, .int v4), (5, .int v5)] [] σ := by
  intro n
  induction n with
  | zero => intro v4 v5 h; exact h.elim
  | succ n ih =>
    intro v4 v5 h
    unfold L_Un_mixBehind_6 at h
    refine q_iload (pc := 6) C d_Un_mixBehind_6 4 rfl ?_
    refine q_aload_n (pc := 8) C d_Un_mixBehind_8 rfl 1 rfl ?_
    refine q_get (pc := 9) (c := o1) (ci := 2) (k := 4) (v := .int (σ o1 4)) C ho1 (by decide) (by decide) wd_101 rfl d_Un_mixBehind_9 ?_
    obtain ⟨h4, h5⟩ := h
    refine q_icmp_ge (pc := 12) 47 C d_Un_mixBehind_12 (by decide) (fun hc => ?_) (fun hc => ?_)
    · have h := h4 hc
      refine q_iload (pc := 47) C d_Un_mixBehind_47 3 rfl ?_
      exact q_iret (pc := 49) C hr d_Un_mixBehind_49 ⟨rfl, h⟩
    have h := h5 hc
    refine q_iload_n (pc := 15) C d_Un_mixBehind_15 rfl 2 rfl ?_
    refine q_iload (pc := 16) C d_Un_mixBehind_16 4 rfl ?_
    refine q_ishr (pc := 18) C d_Un_mixBehind_18 ?_
    refine q_iconst (pc := 19) (v := 1) C d_Un_mixBehind_19 (by decide) ?_
    refine q_iand (pc := 20) C d_Un_mixBehind_20 ?_
    refine q_iconst (pc := 21) (v := 1) C d_Un_mixBehind_21 (by decide) ?_
    obtain ⟨h2, h3⟩ := h
    refine q_icmp_ne (pc := 22) 41 C d_Un_mixBehind_22 (by decide) (fun hc => ?_) (fun hc => ?_)
    · have h := h2 hc
      refine q_iinc (pc := 41) (v5 + (1 : Int32)) [(5, .int (v5 + (1 : Int32))), (0, .ref (ya Y 22)), (1, .ref (ya Y o1)), (3, .int x3), (4, .int v4)] C d_Un_mixBehind_41 4 rfl rfl (by decide) rfl ?_
      refine q_goto (pc := 44) 6 C d_Un_mixBehind_44 (by decide) ?_
      refine q_sub [(0, .ref (ya Y 22)), (1, .ref (ya Y o1)), (3, .int x3), (4, .int v4), (5, .int (v5 + (1 : Int32)))] [1, 2, 3, 4, 0] rfl ?_
      exact ih v4 (v5 + (1 : Int32)) h
    have h := h3 hc
    refine q_aload_n (pc := 25) C d_Un_mixBehind_25 rfl 0 rfl ?_
    refine q_get (pc := 26) (c := 22) (ci := 5) (k := 1) (v := .ref (ya Y 24)) C rfl (by decide) (by decide) wd_162 rfl d_Un_mixBehind_26 ?_
    refine q_iload (pc := 29) C d_Un_mixBehind_29 4 rfl ?_
    refine q_sipush (pc := 31) (v := 256) C d_Un_mixBehind_31 (by decide) ?_
    refine q_imul (pc := 34) C d_Un_mixBehind_34 ?_
    refine q_iload (pc := 35) C d_Un_mixBehind_35 3 rfl ?_
    refine q_iadd (pc := 37) C d_Un_mixBehind_37 ?_
    obtain ⟨h1, h⟩ := h
    refine q_iald (pc := 38) (c := 24) C ⟨rfl, rfl⟩ h1 d_Un_mixBehind_38 ?_
    refine q_nmi (fun y4_39 ey4_39 => ?_)
    replace h := h y4_39 ey4_39
    refine q_istore (pc := 39) [(4, .int y4_39), (0, .ref (ya Y 22)), (1, .ref (ya Y o1)), (3, .int x3), (5, .int v5)] C d_Un_mixBehind_39 (by decide) rfl ?_
    refine q_iinc (pc := 41) (v5 + (1 : Int32)) [(5, .int (v5 + (1 : Int32))), (4, .int y4_39), (0, .ref (ya Y 22)), (1, .ref (ya Y o1)), (3, .int x3)] C d_Un_mixBehind_41 4 rfl rfl (by decide) rfl ?_
    refine q_goto (pc := 44) 6 C d_Un_mixBehind_44 (by decide) ?_
    refine q_sub [(0, .ref (ya Y 22)), (1, .ref (ya Y o1)), (3, .int x3), (4, .int y4_39), (5, .int (v5 + (1 : Int32)))] [2, 3, 4, 1, 0] rfl ?_
    exact ih y4_39 (v5 + (1 : Int32)) h
def w_Un_mixBehind (o1 : Nat) (x2 : Int32) (x3 : Int32) (σ : Sg) (K : Int32 → Prop) : Prop :=
  (∃ n6 : Nat, L_Un_mixBehind_6 o1 x2 x3 σ K n6 x2 (0 : Int32))
set_option maxHeartbeats 4000000 in
theorem m_Un_mixBehind {Y : Yx} {o1 : Nat} {x2 : Int32} {x3 : Int32} {σ : Sg} {K : Int32 → Prop} (hY : YD Y) (ho1 : kd o1 = 2) (h : w_Un_mixBehind o1 x2 x3 σ K) : MetI Y y_Un_mixBehind prog_7_method_9_code 6 (.int) 0 0 [.ref (ya Y 22), .ref (ya Y o1), .int x2, .int x3] σ (fun r τ => τ = σ ∧ K r) := by
  refine met_I [(0, .ref (ya Y 22)), (1, .ref (ya Y o1)), (2, .int x2), (3, .int x3)] hY (by decide) (Nat.le_of_ble_eq_true rfl) rfl (fun X C hr => ?_)
  unfold w_Un_mixBehind at h
  refine q_iload_n (pc := 0) C d_Un_mixBehind_0 rfl 2 rfl ?_
  refine q_istore (pc := 1) [(4, .int x2), (0, .ref (ya Y 22)), (1, .ref (ya Y o1)), (2, .int x2), (3, .int x3)] C d_Un_mixBehind_1 (by decide) rfl ?_
  refine q_iconst (pc := 3) (v := 0) C d_Un_mixBehind_3 (by decide) ?_
  refine q_istore (pc := 4) [(5, .int (0 : Int32)), (4, .int x2), (0, .ref (ya Y 22)), (1, .ref (ya Y o1)), (2, .int x2), (3, .int x3)] C d_Un_mixBehind_4 (by decide) rfl ?_
  obtain ⟨n6, h⟩ := h
  refine q_sub [(0, .ref (ya Y 22)), (1, .ref (ya Y o1)), (3, .int x3), (4, .int x2), (5, .int (0 : Int32))] [2, 3, 5, 1, 0] rfl ?_
  exact t_Un_mixBehind_6 hY C hr ho1 n6 x2 (0 : Int32) h
theorem d_Ji_bitCount_0 : decode prog_10_method_49_code 0 = .ok (.iload_n 0, 1) := by decide +kernel
theorem d_Ji_bitCount_1 : decode prog_10_method_49_code 1 = .ok (.iload_n 0, 1) := by decide +kernel
theorem d_Ji_bitCount_2 : decode prog_10_method_49_code 2 = .ok (.iconst 1, 1) := by decide +kernel
theorem d_Ji_bitCount_3 : decode prog_10_method_49_code 3 = .ok (.iushr, 1) := by decide +kernel
theorem d_Ji_bitCount_4 : decode prog_10_method_49_code 4 = .ok (.ldc_w 265, 3) := by decide +kernel
theorem d_Ji_bitCount_7 : decode prog_10_method_49_code 7 = .ok (.iand, 1) := by decide +kernel
theorem d_Ji_bitCount_8 : decode prog_10_method_49_code 8 = .ok (.isub, 1) := by decide +kernel
theorem d_Ji_bitCount_9 : decode prog_10_method_49_code 9 = .ok (.istore_n 0, 1) := by decide +kernel
theorem d_Ji_bitCount_10 : decode prog_10_method_49_code 10 = .ok (.iload_n 0, 1) := by decide +kernel
theorem d_Ji_bitCount_11 : decode prog_10_method_49_code 11 = .ok (.ldc_w 266, 3) := by decide +kernel
theorem d_Ji_bitCount_14 : decode prog_10_method_49_code 14 = .ok (.iand, 1) := by decide +kernel
theorem d_Ji_bitCount_15 : decode prog_10_method_49_code 15 = .ok (.iload_n 0, 1) := by decide +kernel
theorem d_Ji_bitCount_16 : decode prog_10_method_49_code 16 = .ok (.iconst 2, 1) := by decide +kernel
theorem d_Ji_bitCount_17 : decode prog_10_method_49_code 17 = .ok (.iushr, 1) := by decide +kernel
theorem d_Ji_bitCount_18 : decode prog_10_method_49_code 18 = .ok (.ldc_w 266, 3) := by decide +kernel
theorem d_Ji_bitCount_21 : decode prog_10_method_49_code 21 = .ok (.iand, 1) := by decide +kernel
theorem d_Ji_bitCount_22 : decode prog_10_method_49_code 22 = .ok (.iadd, 1) := by decide +kernel
theorem d_Ji_bitCount_23 : decode prog_10_method_49_code 23 = .ok (.istore_n 0, 1) := by decide +kernel
theorem d_Ji_bitCount_24 : decode prog_10_method_49_code 24 = .ok (.iload_n 0, 1) := by decide +kernel
theorem d_Ji_bitCount_25 : decode prog_10_method_49_code 25 = .ok (.iload_n 0, 1) := by decide +kernel
theorem d_Ji_bitCount_26 : decode prog_10_method_49_code 26 = .ok (.iconst 4, 1) := by decide +kernel
theorem d_Ji_bitCount_27 : decode prog_10_method_49_code 27 = .ok (.iushr, 1) := by decide +kernel
theorem d_Ji_bitCount_28 : decode prog_10_method_49_code 28 = .ok (.iadd, 1) := by decide +kernel
theorem d_Ji_bitCount_29 : decode prog_10_method_49_code 29 = .ok (.ldc_w 267, 3) := by decide +kernel
theorem d_Ji_bitCount_32 : decode prog_10_method_49_code 32 = .ok (.iand, 1) := by decide +kernel
theorem d_Ji_bitCount_33 : decode prog_10_method_49_code 33 = .ok (.istore_n 0, 1) := by decide +kernel
theorem d_Ji_bitCount_34 : decode prog_10_method_49_code 34 = .ok (.iload_n 0, 1) := by decide +kernel
theorem d_Ji_bitCount_35 : decode prog_10_method_49_code 35 = .ok (.iload_n 0, 1) := by decide +kernel
theorem d_Ji_bitCount_36 : decode prog_10_method_49_code 36 = .ok (.bipush 8, 2) := by decide +kernel
theorem d_Ji_bitCount_38 : decode prog_10_method_49_code 38 = .ok (.iushr, 1) := by decide +kernel
theorem d_Ji_bitCount_39 : decode prog_10_method_49_code 39 = .ok (.iadd, 1) := by decide +kernel
theorem d_Ji_bitCount_40 : decode prog_10_method_49_code 40 = .ok (.istore_n 0, 1) := by decide +kernel
theorem d_Ji_bitCount_41 : decode prog_10_method_49_code 41 = .ok (.iload_n 0, 1) := by decide +kernel
theorem d_Ji_bitCount_42 : decode prog_10_method_49_code 42 = .ok (.iload_n 0, 1) := by decide +kernel
theorem d_Ji_bitCount_43 : decode prog_10_method_49_code 43 = .ok (.bipush 16, 2) := by decide +kernel
theorem d_Ji_bitCount_45 : decode prog_10_method_49_code 45 = .ok (.iushr, 1) := by decide +kernel
theorem d_Ji_bitCount_46 : decode prog_10_method_49_code 46 = .ok (.iadd, 1) := by decide +kernel
theorem d_Ji_bitCount_47 : decode prog_10_method_49_code 47 = .ok (.istore_n 0, 1) := by decide +kernel
theorem d_Ji_bitCount_48 : decode prog_10_method_49_code 48 = .ok (.iload_n 0, 1) := by decide +kernel
theorem d_Ji_bitCount_49 : decode prog_10_method_49_code 49 = .ok (.bipush 63, 2) := by decide +kernel
theorem d_Ji_bitCount_51 : decode prog_10_method_49_code 51 = .ok (.iand, 1) := by decide +kernel
theorem d_Ji_bitCount_52 : decode prog_10_method_49_code 52 = .ok (.ireturn, 1) := by decide +kernel
abbrev y_Ji_bitCount : MethodName := ⟨"java/lang/Integer", "bitCount", "(I)I"⟩
theorem mi_Ji_bitCount : miS y_Ji_bitCount prog_10_method_49_code 1 (some .int) 1 := ⟨wd_480, wd_76, wd_481, by decide, by decide, by decide +kernel⟩
def w_Ji_bitCount (x0 : Int32) (σ : Sg) (K : Int32 → Prop) : Prop :=
  (∀ y0_9 : Int32, y0_9 = (x0 - ((x0.toUInt32 >>> ((1 : Int32).toUInt32 &&& Int32.toUInt32 31)).toInt32 &&& (1431655765 : Int32))) → (∀ y0_23 : Int32, y0_23 = ((y0_9 &&& (858993459 : Int32)) + ((y0_9.toUInt32 >>> ((2 : Int32).toUInt32 &&& Int32.toUInt32 31)).toInt32 &&& (858993459 : Int32))) → (∀ y0_33 : Int32, y0_33 = ((y0_23 + (y0_23.toUInt32 >>> ((4 : Int32).toUInt32 &&& Int32.toUInt32 31)).toInt32) &&& (252645135 : Int32)) → (∀ y0_40 : Int32, y0_40 = (y0_33 + (y0_33.toUInt32 >>> ((8 : Int32).toUInt32 &&& Int32.toUInt32 31)).toInt32) → (∀ y0_47 : Int32, y0_47 = (y0_40 + (y0_40.toUInt32 >>> ((16 : Int32).toUInt32 &&& Int32.toUInt32 31)).toInt32) → K (y0_47 &&& (63 : Int32)))))))
set_option maxHeartbeats 4000000 in
theorem m_Ji_bitCount {Y : Yx} {x0 : Int32} {σ : Sg} {K : Int32 → Prop} (hY : YD Y)  (h : w_Ji_bitCount x0 σ K) : MetI Y y_Ji_bitCount prog_10_method_49_code 1 (.int) 0 0 [.int x0] σ (fun r τ => τ = σ ∧ K r) := by
  refine met_I [(0, .int x0)] hY (by decide) (Nat.le_of_ble_eq_true rfl) rfl (fun X C hr => ?_)
  unfold w_Ji_bitCount at h
  refine q_iload_n (pc := 0) C d_Ji_bitCount_0 rfl 0 rfl ?_
  refine q_iload_n (pc := 1) C d_Ji_bitCount_1 rfl 0 rfl ?_
  refine q_iconst (pc := 2) (v := 1) C d_Ji_bitCount_2 (by decide) ?_
  refine q_iushr (pc := 3) C d_Ji_bitCount_3 ?_
  refine q_ldcw (pc := 4) C wd_482 d_Ji_bitCount_4 ?_
  refine q_iand (pc := 7) C d_Ji_bitCount_7 ?_
  refine q_isub (pc := 8) C d_Ji_bitCount_8 ?_
  refine q_nmi (fun y0_9 ey0_9 => ?_)
  replace h := h y0_9 ey0_9
  refine q_istore_n (pc := 9) [(0, .int y0_9)] C d_Ji_bitCount_9 rfl (by decide) rfl ?_
  refine q_iload_n (pc := 10) C d_Ji_bitCount_10 rfl 0 rfl ?_
  refine q_ldcw (pc := 11) C wd_483 d_Ji_bitCount_11 ?_
  refine q_iand (pc := 14) C d_Ji_bitCount_14 ?_
  refine q_iload_n (pc := 15) C d_Ji_bitCount_15 rfl 0 rfl ?_
  refine q_iconst (pc := 16) (v := 2) C d_Ji_bitCount_16 (by decide) ?_
  refine q_iushr (pc := 17) C d_Ji_bitCount_17 ?_
  refine q_ldcw (pc := 18) C wd_483 d_Ji_bitCount_18 ?_
  refine q_iand (pc := 21) C d_Ji_bitCount_21 ?_
  refine q_iadd (pc := 22) C d_Ji_bitCount_22 ?_
  refine q_nmi (fun y0_23 ey0_23 => ?_)
  replace h := h y0_23 ey0_23
  refine q_istore_n (pc := 23) [(0, .int y0_23)] C d_Ji_bitCount_23 rfl (by decide) rfl ?_
  refine q_iload_n (pc := 24) C d_Ji_bitCount_24 rfl 0 rfl ?_
  refine q_iload_n (pc := 25) C d_Ji_bitCount_25 rfl 0 rfl ?_
  refine q_iconst (pc := 26) (v := 4) C d_Ji_bitCount_26 (by decide) ?_
  refine q_iushr (pc := 27) C d_Ji_bitCount_27 ?_
  refine q_iadd (pc := 28) C d_Ji_bitCount_28 ?_
  refine q_ldcw (pc := 29) C wd_484 d_Ji_bitCount_29 ?_
  refine q_iand (pc := 32) C d_Ji_bitCount_32 ?_
  refine q_nmi (fun y0_33 ey0_33 => ?_)
  replace h := h y0_33 ey0_33
  refine q_istore_n (pc := 33) [(0, .int y0_33)] C d_Ji_bitCount_33 rfl (by decide) rfl ?_
  refine q_iload_n (pc := 34) C d_Ji_bitCount_34 rfl 0 rfl ?_
  refine q_iload_n (pc := 35) C d_Ji_bitCount_35 rfl 0 rfl ?_
  refine q_bipush (pc := 36) (v := 8) C d_Ji_bitCount_36 (by decide) ?_
  refine q_iushr (pc := 38) C d_Ji_bitCount_38 ?_
  refine q_iadd (pc := 39) C d_Ji_bitCount_39 ?_
  refine q_nmi (fun y0_40 ey0_40 => ?_)
  replace h := h y0_40 ey0_40
  refine q_istore_n (pc := 40) [(0, .int y0_40)] C d_Ji_bitCount_40 rfl (by decide) rfl ?_
  refine q_iload_n (pc := 41) C d_Ji_bitCount_41 rfl 0 rfl ?_
  refine q_iload_n (pc := 42) C d_Ji_bitCount_42 rfl 0 rfl ?_
  refine q_bipush (pc := 43) (v := 16) C d_Ji_bitCount_43 (by decide) ?_
  refine q_iushr (pc := 45) C d_Ji_bitCount_45 ?_
  refine q_iadd (pc := 46) C d_Ji_bitCount_46 ?_
  refine q_nmi (fun y0_47 ey0_47 => ?_)
  replace h := h y0_47 ey0_47
  refine q_istore_n (pc := 47) [(0, .int y0_47)] C d_Ji_bitCount_47 rfl (by decide) rfl ?_
  refine q_iload_n (pc := 48) C d_Ji_bitCount_48 rfl 0 rfl ?_
  refine q_bipush (pc := 49) (v := 63) C d_Ji_bitCount_49 (by decide) ?_
  refine q_iand (pc := 51) C d_Ji_bitCount_51 ?_
  exact q_iret (pc := 52) C hr d_Ji_bitCount_52 ⟨rfl, h⟩
theorem d_Un_bestSet_0 : decode prog_7_method_8_code 0 = .ok (.iconst 0, 1) := by decide +kernel
theorem d_Un_bestSet_1 : decode prog_7_method_8_code 1 = .ok (.istore 4, 2) := by decide +kernel
theorem d_Un_bestSet_3 : decode prog_7_method_8_code 3 = .ok (.iload_n 3, 1) := by decide +kernel
theorem d_Un_bestSet_4 : decode prog_7_method_8_code 4 = .ok (.istore 5, 2) := by decide +kernel
theorem d_Un_bestSet_6 : decode prog_7_method_8_code 6 = .ok (.aload_n 0, 1) := by decide +kernel
theorem d_Un_bestSet_7 : decode prog_7_method_8_code 7 = .ok (.getfield 18, 3) := by decide +kernel
theorem d_Un_bestSet_10 : decode prog_7_method_8_code 10 = .ok (.iload_n 2, 1) := by decide +kernel
theorem d_Un_bestSet_11 : decode prog_7_method_8_code 11 = .ok (.sipush 256, 3) := by decide +kernel
theorem d_Un_bestSet_14 : decode prog_7_method_8_code 14 = .ok (.imul, 1) := by decide +kernel
theorem d_Un_bestSet_15 : decode prog_7_method_8_code 15 = .ok (.iload_n 3, 1) := by decide +kernel
theorem d_Un_bestSet_16 : decode prog_7_method_8_code 16 = .ok (.iadd, 1) := by decide +kernel
theorem d_Un_bestSet_17 : decode prog_7_method_8_code 17 = .ok (.iaload, 1) := by decide +kernel
theorem d_Un_bestSet_18 : decode prog_7_method_8_code 18 = .ok (.istore 6, 2) := by decide +kernel
theorem d_Un_bestSet_20 : decode prog_7_method_8_code 20 = .ok (.iconst 1, 1) := by decide +kernel
theorem d_Un_bestSet_21 : decode prog_7_method_8_code 21 = .ok (.istore 7, 2) := by decide +kernel
theorem d_Un_bestSet_23 : decode prog_7_method_8_code 23 = .ok (.iload 7, 2) := by decide +kernel
theorem d_Un_bestSet_25 : decode prog_7_method_8_code 25 = .ok (.iconst 1, 1) := by decide +kernel
theorem d_Un_bestSet_26 : decode prog_7_method_8_code 26 = .ok (.aload_n 1, 1) := by decide +kernel
theorem d_Un_bestSet_27 : decode prog_7_method_8_code 27 = .ok (.getfield 52, 3) := by decide +kernel
theorem d_Un_bestSet_30 : decode prog_7_method_8_code 30 = .ok (.ishl, 1) := by decide +kernel
theorem d_Un_bestSet_31 : decode prog_7_method_8_code 31 = .ok (.if_icmp .ge 73, 3) := by decide +kernel
theorem d_Un_bestSet_34 : decode prog_7_method_8_code 34 = .ok (.aload_n 0, 1) := by decide +kernel
theorem d_Un_bestSet_35 : decode prog_7_method_8_code 35 = .ok (.aload_n 1, 1) := by decide +kernel
theorem d_Un_bestSet_36 : decode prog_7_method_8_code 36 = .ok (.iload_n 3, 1) := by decide +kernel
theorem d_Un_bestSet_37 : decode prog_7_method_8_code 37 = .ok (.iload 7, 2) := by decide +kernel
theorem d_Un_bestSet_39 : decode prog_7_method_8_code 39 = .ok (.invokevirtual 49, 3) := by decide +kernel
theorem d_Un_bestSet_42 : decode prog_7_method_8_code 42 = .ok (.istore 8, 2) := by decide +kernel
theorem d_Un_bestSet_44 : decode prog_7_method_8_code 44 = .ok (.aload_n 0, 1) := by decide +kernel
theorem d_Un_bestSet_45 : decode prog_7_method_8_code 45 = .ok (.getfield 18, 3) := by decide +kernel
theorem d_Un_bestSet_48 : decode prog_7_method_8_code 48 = .ok (.iload_n 2, 1) := by decide +kernel
theorem d_Un_bestSet_49 : decode prog_7_method_8_code 49 = .ok (.sipush 256, 3) := by decide +kernel
theorem d_Un_bestSet_52 : decode prog_7_method_8_code 52 = .ok (.imul, 1) := by decide +kernel
theorem d_Un_bestSet_53 : decode prog_7_method_8_code 53 = .ok (.iload 8, 2) := by decide +kernel
theorem d_Un_bestSet_55 : decode prog_7_method_8_code 55 = .ok (.iadd, 1) := by decide +kernel
theorem d_Un_bestSet_56 : decode prog_7_method_8_code 56 = .ok (.iaload, 1) := by decide +kernel
theorem d_Un_bestSet_57 : decode prog_7_method_8_code 57 = .ok (.iload 7, 2) := by decide +kernel
theorem d_Un_bestSet_59 : decode prog_7_method_8_code 59 = .ok (.invokestatic 108, 3) := by decide +kernel
theorem d_Un_bestSet_62 : decode prog_7_method_8_code 62 = .ok (.iadd, 1) := by decide +kernel
theorem d_Un_bestSet_63 : decode prog_7_method_8_code 63 = .ok (.istore 9, 2) := by decide +kernel
theorem d_Un_bestSet_65 : decode prog_7_method_8_code 65 = .ok (.iload 9, 2) := by decide +kernel
theorem d_Un_bestSet_67 : decode prog_7_method_8_code 67 = .ok (.iload 6, 2) := by decide +kernel
theorem d_Un_bestSet_69 : decode prog_7_method_8_code 69 = .ok (.if_icmp .lt 17, 3) := by decide +kernel
theorem d_Un_bestSet_72 : decode prog_7_method_8_code 72 = .ok (.iload 9, 2) := by decide +kernel
theorem d_Un_bestSet_74 : decode prog_7_method_8_code 74 = .ok (.iload 6, 2) := by decide +kernel
theorem d_Un_bestSet_76 : decode prog_7_method_8_code 76 = .ok (.if_icmp .ne 22, 3) := by decide +kernel
theorem d_Un_bestSet_79 : decode prog_7_method_8_code 79 = .ok (.iload 8, 2) := by decide +kernel
theorem d_Un_bestSet_81 : decode prog_7_method_8_code 81 = .ok (.iload 5, 2) := by decide +kernel
theorem d_Un_bestSet_83 : decode prog_7_method_8_code 83 = .ok (.if_icmp .ge 15, 3) := by decide +kernel
theorem d_Un_bestSet_86 : decode prog_7_method_8_code 86 = .ok (.iload 7, 2) := by decide +kernel
theorem d_Un_bestSet_88 : decode prog_7_method_8_code 88 = .ok (.istore 4, 2) := by decide +kernel
theorem d_Un_bestSet_90 : decode prog_7_method_8_code 90 = .ok (.iload 8, 2) := by decide +kernel
theorem d_Un_bestSet_92 : decode prog_7_method_8_code 92 = .ok (.istore 5, 2) := by decide +kernel
theorem d_Un_bestSet_94 : decode prog_7_method_8_code 94 = .ok (.iload 9, 2) := by decide +kernel
theorem d_Un_bestSet_96 : decode prog_7_method_8_code 96 = .ok (.istore 6, 2) := by decide +kernel
theorem d_Un_bestSet_98 : decode prog_7_method_8_code 98 = .ok (.iinc 7 1, 3) := by decide +kernel
theorem d_Un_bestSet_101 : decode prog_7_method_8_code 101 = .ok (.goto (-78), 3) := by decide +kernel
theorem d_Un_bestSet_104 : decode prog_7_method_8_code 104 = .ok (.iload 4, 2) := by decide +kernel
theorem d_Un_bestSet_106 : decode prog_7_method_8_code 106 = .ok (.ireturn, 1) := by decide +kernel
abbrev y_Un_bestSet : MethodName := ⟨"LoadCycles$Unmixer", "bestSet", "(LLoadCycles$House;II)I"⟩
theorem mi_Un_bestSet : miV y_Un_bestSet prog_7_method_8_code 10 (some .int) 3 := ⟨wd_473, wd_14, wd_68, wd_474, by decide, by decide, by decide +kernel⟩
def B_Un_bestSet_86 (o1 : Nat) (x2 : Int32) (x3 : Int32) (σ : Sg) (K : Int32 → Prop) (r23 : Int32 → Int32 → Int32 → Int32 → Prop) (v7 : Int32) (v8 : Int32) (v9 : Int32) : Prop :=
  r23 v7 v8 v9 (v7 + (1 : Int32))
theorem t_Un_bestSet_86 {X : Bx} {Y : Yx} {o1 : Nat} {x2 : Int32} {x3 : Int32} {v7 : Int32} {v8 : Int32} {v9 : Int32} {σ : Sg} {K : Int32 → Prop} {r23 : Int32 → Int32 → Int32 → Int32 → Prop} (hY : YD Y) (C : Cx X Y prog_7_method_8_code 10 "LoadCycles$Unmixer" 1 25) (hr : (xh X).sig.returnType = some .int) (ho1 : kd o1 = 2) (H23 : ∀ (v4 : Int32) (v5 : Int32) (v6 : Int32) (v7 : Int32), r23 v4 v5 v6 v7 → St X Y 10 (QI X Y (fun r τ => τ = σ ∧ K r)) 23 [(0, .ref (ya Y 22)), (1, .ref (ya Y o1)), (2, .int x2), (3, .int x3), (4, .int v4), (5, .int v5), (6, .int v6), (7, .int v7)] [] σ)  (h : B_Un_bestSet_86 o1 x2 x3 σ K r23 v7 v8 v9) : St X Y 10 (QI X Y (fun r τ => τ = σ ∧ K r)) 86 [(0, .ref (ya Y 22)), (1, .ref (ya Y o1)), (2, .int x2), (3, .int x3), (7, .int v7), (8, .int v8), (9, .int v9)] [] σ := by
  unfold B_Un_bestSet_86 at h
  refine q_iload (pc := 86) C d_Un_bestSet_86 4 rfl ?_
  refine q_istore (pc := 88) [(4, .int v7), (0, .ref (ya Y 22)), (1, .ref (ya Y o1)), (2, .int x2), (3, .int x3), (7, .int v7), (8, .int v8), (9, .int v9)] C d_Un_bestSet_88 (by decide) rfl ?_
  refine q_iload (pc := 90) C d_Un_bestSet_90 6 rfl ?_
  refine q_istore (pc := 92) [(5, .int v8), (4, .int v7), (0, .ref (ya Y 22)), (1, .ref (ya Y o1)), (2, .int x2), (3, .int x3), (7, .int v7), (8, .int v8), (9, .int v9)] C d_Un_bestSet_92 (by decide) rfl ?_
  refine q_iload (pc := 94) C d_Un_bestSet_94 8 rfl ?_
  refine q_istore (pc := 96) [(6, .int v9), (5, .int v8), (4, .int v7), (0, .ref (ya Y 22)), (1, .ref (ya Y o1)), (2, .int x2), (3, .int x3), (7, .int v7), (8, .int v8), (9, .int v9)] C d_Un_bestSet_96 (by decide) rfl ?_
  refine q_iinc (pc := 98) (v7 + (1 : Int32)) [(7, .int (v7 + (1 : Int32))), (6, .int v9), (5, .int v8), (4, .int v7), (0, .ref (ya Y 22)), (1, .ref (ya Y o1)), (2, .int x2), (3, .int x3), (8, .int v8), (9, .int v9)] C d_Un_bestSet_98 7 rfl rfl (by decide) rfl ?_
  refine q_goto (pc := 101) 23 C d_Un_bestSet_101 (by decide) ?_
  refine q_sub [(0, .ref (ya Y 22)), (1, .ref (ya Y o1)), (2, .int x2), (3, .int x3), (4, .int v7), (5, .int v8), (6, .int v9), (7, .int (v7 + (1 : Int32)))] [4, 5, 6, 7, 3, 2, 1, 0] rfl ?_
  exact H23 v7 v8 v9 (v7 + (1 : Int32)) h
def L_Un_bestSet_23 (o1 : Nat) (x2 : Int32) (x3 : Int32) (σ : Sg) (K : Int32 → Prop) : Nat → Int32 → Int32 → Int32 → Int32 → Prop
  | 0, _, _, _, _ => False
  | n + 1, v4, v5, v6, v7 =>
    ((((1 : Int32) <<< ((σ o1 4) &&& 31)) ≤ v7 → K v4) ∧ (¬ ((1 : Int32) <<< ((σ o1 4) &&& 31)) ≤ v7 → w_Un_mixBehind o1 x3 v7 σ (fun u39 => (vp_in ((x2 * (256 : Int32)) + u39) 5120 ∧ w_Ji_bitCount v7 σ (fun u59 => (∀ y9_63 : Int32, y9_63 = ((σ 25 ((x2 * (256 : Int32)) + u39).toNatClampNeg) + u59) → ((y9_63 < v6 → B_Un_bestSet_86 o1 x2 x3 σ K (fun a0 a1 a2 a3 => L_Un_bestSet_23 o1 x2 x3 σ K n a0 a1 a2 a3) v7 u39 y9_63) ∧ (¬ y9_63 < v6 → ((¬ y9_63 = v6 → L_Un_bestSet_23 o1 x2 x3 σ K n v4 v5 v6 (v7 + (1 : Int32))) ∧ (y9_63 = v6 → ((v5 ≤ u39 → L_Un_bestSet_23 o1 x2 x3 σ K n v4 v5 v6 (v7 + (1 : Int32))) ∧ (¬ v5 ≤ u39 → B_Un_bestSet_86 o1 x2 x3 σ K (fun a0 a1 a2 a3 => L_Un_bestSet_23 o1 x2 x3 σ K n a0 a1 a2 a3) v7 u39 y9_63))))))))))))
theorem t_Un_bestSet_23 {X : Bx} {Y : Yx} {o1 : Nat} {x2 : Int32} {x3 : Int32} {σ : Sg} {K : Int32 → Prop}  (hY : YD Y) (C : Cx X Y prog_7_method_8_code 10 "LoadCycles$Unmixer" 1 25) (hr : (xh X).sig.returnType = some .int) (ho1 : kd o1 = 2) : ∀ (n : Nat) (v4 : Int32) (v5 : Int32) (v6 : Int32) (v7 : Int32), L_Un_bestSet_23 o1 x2 x3 σ K n v4 v5 v6 v7 → St X Y 10 (QI X Y (fun r τ => τ = σ ∧ K r)) 23 [(0, .ref (ya Y 22)), (1, .ref (ya Y o1)), (2, .int x2), (3, .int x3), (4, .int v4), (5, .int v5), (6, .int v6), (7, .int v7)] [] σ := by
  intro n
  induction n with
  | zero => intro v4 v5 v6 v7 h; exact h.elim
  | succ n ih =>
    intro v4 v5 v6 v7 h
    unfold L_Un_bestSet_23 at h
    refine q_iload (pc := 23) C d_Un_bestSet_23 7 rfl ?_
    refine q_iconst (pc := 25) (v := 1) C d_Un_bestSet_25 (by decide) ?_
    refine q_aload_n (pc := 26) C d_Un_bestSet_26 rfl 1 rfl ?_
    refine q_get (pc := 27) (c := o1) (ci := 2) (k := 4) (v := .int (σ o1 4)) C ho1 (by decide) (by decide) wd_101 rfl d_Un_bestSet_27 ?_
    refine q_ishl (pc := 30) C d_Un_bestSet_30 ?_
    obtain ⟨h9, h10⟩ := h
    refine q_icmp_ge (pc := 31) 104 C d_Un_bestSet_31 (by decide) (fun hc => ?_) (fun hc => ?_)
    · have h := h9 hc
      refine q_iload (pc := 104) C d_Un_bestSet_104 4 rfl ?_
      exact q_iret (pc := 106) C hr d_Un_bestSet_106 ⟨rfl, h⟩
    have h := h10 hc
    refine q_aload_n (pc := 34) C d_Un_bestSet_34 rfl 0 rfl ?_
    refine q_aload_n (pc := 35) C d_Un_bestSet_35 rfl 1 rfl ?_
    refine q_iload_n (pc := 36) C d_Un_bestSet_36 rfl 3 rfl ?_
    refine q_iload (pc := 37) C d_Un_bestSet_37 7 rfl ?_
    refine q_callVIr (pc := 39) (st := []) (d := 22) C (m_Un_mixBehind hY ho1 h) mi_Un_mixBehind rfl (by decide) rfl wd_475 rfl rfl (Nat.le_of_ble_eq_true rfl) (by decide) (by decide) d_Un_bestSet_39 (fun u39 h => ?_)
    refine q_istore (pc := 42) [(8, .int u39), (0, .ref (ya Y 22)), (1, .ref (ya Y o1)), (2, .int x2), (3, .int x3), (4, .int v4), (5, .int v5), (6, .int v6), (7, .int v7)] C d_Un_bestSet_42 (by decide) rfl ?_
    refine q_aload_n (pc := 44) C d_Un_bestSet_44 rfl 1 rfl ?_
    refine q_get (pc := 45) (c := 22) (ci := 5) (k := 2) (v := .ref (ya Y 25)) C rfl (by decide) (by decide) wd_163 rfl d_Un_bestSet_45 ?_
    refine q_iload_n (pc := 48) C d_Un_bestSet_48 rfl 3 rfl ?_
    refine q_sipush (pc := 49) (v := 256) C d_Un_bestSet_49 (by decide) ?_
    refine q_imul (pc := 52) C d_Un_bestSet_52 ?_
    refine q_iload (pc := 53) C d_Un_bestSet_53 0 rfl ?_
    refine q_iadd (pc := 55) C d_Un_bestSet_55 ?_
    obtain ⟨h2, h⟩ := h
    refine q_iald (pc := 56) (c := 25) C ⟨rfl, rfl⟩ h2 d_Un_bestSet_56 ?_
    refine q_iload (pc := 57) C d_Un_bestSet_57 8 rfl ?_
    refine q_callSIr (pc := 59) (st := [.int (σ 25 ((x2 * (256 : Int32)) + u39).toNatClampNeg)]) C (m_Ji_bitCount hY h) mi_Ji_bitCount wd_479 rfl rfl (Nat.le_of_ble_eq_true rfl) (by decide) (by decide) d_Un_bestSet_59 (fun u59 h => ?_)
    refine q_iadd (pc := 62) C d_Un_bestSet_62 ?_
    refine q_nmi (fun y9_63 ey9_63 => ?_)
    replace h := h y9_63 ey9_63
    refine q_istore (pc := 63) [(9, .int y9_63), (8, .int u39), (0, .ref (ya Y 22)), (1, .ref (ya Y o1)), (2, .int x2), (3, .int x3), (4, .int v4), (5, .int v5), (6, .int v6), (7, .int v7)] C d_Un_bestSet_63 (by decide) rfl ?_
    refine q_iload (pc := 65) C d_Un_bestSet_65 0 rfl ?_
    refine q_iload (pc := 67) C d_Un_bestSet_67 8 rfl ?_
    obtain ⟨h7, h8⟩ := h
    refine q_icmp_lt (pc := 69) 86 C d_Un_bestSet_69 (by decide) (fun hc => ?_) (fun hc => ?_)
    · have h := h7 hc
      refine q_sub [(0, .ref (ya Y 22)), (1, .ref (ya Y o1)), (2, .int x2), (3, .int x3), (7, .int v7), (8, .int u39), (9, .int y9_63)] [2, 3, 4, 5, 9, 1, 0] rfl ?_
      exact t_Un_bestSet_86 hY C hr ho1 ih h
    have h := h8 hc
    refine q_iload (pc := 72) C d_Un_bestSet_72 0 rfl ?_
    refine q_iload (pc := 74) C d_Un_bestSet_74 8 rfl ?_
    obtain ⟨h5, h6⟩ := h
    refine q_icmp_ne (pc := 76) 98 C d_Un_bestSet_76 (by decide) (fun hc => ?_) (fun hc => ?_)
    · have h := h5 hc
      refine q_iinc (pc := 98) (v7 + (1 : Int32)) [(7, .int (v7 + (1 : Int32))), (9, .int y9_63), (8, .int u39), (0, .ref (ya Y 22)), (1, .ref (ya Y o1)), (2, .int x2), (3, .int x3), (4, .int v4), (5, .int v5), (6, .int v6)] C d_Un_bestSet_98 9 rfl rfl (by decide) rfl ?_
      refine q_goto (pc := 101) 23 C d_Un_bestSet_101 (by decide) ?_
      refine q_sub [(0, .ref (ya Y 22)), (1, .ref (ya Y o1)), (2, .int x2), (3, .int x3), (4, .int v4), (5, .int v5), (6, .int v6), (7, .int (v7 + (1 : Int32)))] [3, 4, 5, 6, 7, 8, 9, 0] rfl ?_
      exact ih v4 v5 v6 (v7 + (1 : Int32)) h
    have h := h6 hc
    refine q_iload (pc := 79) C d_Un_bestSet_79 1 rfl ?_
    refine q_iload (pc := 81) C d_Un_bestSet_81 7 rfl ?_
    obtain ⟨h3, h4⟩ := h
    refine q_icmp_ge (pc := 83) 98 C d_Un_bestSet_83 (by decide) (fun hc => ?_) (fun hc => ?_)
    · have h := h3 hc
      refine q_iinc (pc := 98) (v7 + (1 : Int32)) [(7, .int (v7 + (1 : Int32))), (9, .int y9_63), (8, .int u39), (0, .ref (ya Y 22)), (1, .ref (ya Y o1)), (2, .int x2), (3, .int x3), (4, .int v4), (5, .int v5), (6, .int v6)] C d_Un_bestSet_98 9 rfl rfl (by decide) rfl ?_
      refine q_goto (pc := 101) 23 C d_Un_bestSet_101 (by decide) ?_
      refine q_sub [(0, .ref (ya Y 22)), (1, .ref (ya Y o1)), (2, .int x2), (3, .int x3), (4, .int v4), (5, .int v5), (6, .int v6), (7, .int (v7 + (1 : Int32)))] [3, 4, 5, 6, 7, 8, 9, 0] rfl ?_
      exact ih v4 v5 v6 (v7 + (1 : Int32)) h
    have h := h4 hc
    refine q_sub [(0, .ref (ya Y 22)), (1, .ref (ya Y o1)), (2, .int x2), (3, .int x3), (7, .int v7), (8, .int u39), (9, .int y9_63)] [2, 3, 4, 5, 9, 1, 0] rfl ?_
    exact t_Un_bestSet_86 hY C hr ho1 ih h
def w_Un_bestSet (o1 : Nat) (x2 : Int32) (x3 : Int32) (σ : Sg) (K : Int32 → Prop) : Prop :=
  (vp_in ((x2 * (256 : Int32)) + x3) 5120 ∧ (∀ y6_18 : Int32, y6_18 = (σ 25 ((x2 * (256 : Int32)) + x3).toNatClampNeg) → (∃ n11 : Nat, L_Un_bestSet_23 o1 x2 x3 σ K n11 (0 : Int32) x3 y6_18 (1 : Int32))))
set_option maxHeartbeats 4000000 in
theorem m_Un_bestSet {Y : Yx} {o1 : Nat} {x2 : Int32} {x3 : Int32} {σ : Sg} {K : Int32 → Prop} (hY : YD Y) (ho1 : kd o1 = 2) (h : w_Un_bestSet o1 x2 x3 σ K) : MetI Y y_Un_bestSet prog_7_method_8_code 10 (.int) 1 25 [.ref (ya Y 22), .ref (ya Y o1), .int x2, .int x3] σ (fun r τ => τ = σ ∧ K r) := by
  refine met_I [(0, .ref (ya Y 22)), (1, .ref (ya Y o1)), (2, .int x2), (3, .int x3)] hY (by decide) (Nat.le_of_ble_eq_true rfl) rfl (fun X C hr => ?_)
  unfold w_Un_bestSet at h
  refine q_iconst (pc := 0) (v := 0) C d_Un_bestSet_0 (by decide) ?_
  refine q_istore (pc := 1) [(4, .int (0 : Int32)), (0, .ref (ya Y 22)), (1, .ref (ya Y o1)), (2, .int x2), (3, .int x3)] C d_Un_bestSet_1 (by decide) rfl ?_
  refine q_iload_n (pc := 3) C d_Un_bestSet_3 rfl 4 rfl ?_
  refine q_istore (pc := 4) [(5, .int x3), (4, .int (0 : Int32)), (0, .ref (ya Y 22)), (1, .ref (ya Y o1)), (2, .int x2), (3, .int x3)] C d_Un_bestSet_4 (by decide) rfl ?_
  refine q_aload_n (pc := 6) C d_Un_bestSet_6 rfl 2 rfl ?_
  refine q_get (pc := 7) (c := 22) (ci := 5) (k := 2) (v := .ref (ya Y 25)) C rfl (by decide) (by decide) wd_163 rfl d_Un_bestSet_7 ?_
  refine q_iload_n (pc := 10) C d_Un_bestSet_10 rfl 4 rfl ?_
  refine q_sipush (pc := 11) (v := 256) C d_Un_bestSet_11 (by decide) ?_
  refine q_imul (pc := 14) C d_Un_bestSet_14 ?_
  refine q_iload_n (pc := 15) C d_Un_bestSet_15 rfl 5 rfl ?_
  refine q_iadd (pc := 16) C d_Un_bestSet_16 ?_
  obtain ⟨h1, h⟩ := h
  refine q_iald (pc := 17) (c := 25) C ⟨rfl, rfl⟩ h1 d_Un_bestSet_17 ?_
  refine q_nmi (fun y6_18 ey6_18 => ?_)
  replace h := h y6_18 ey6_18
  refine q_istore (pc := 18) [(6, .int y6_18), (5, .int x3), (4, .int (0 : Int32)), (0, .ref (ya Y 22)), (1, .ref (ya Y o1)), (2, .int x2), (3, .int x3)] C d_Un_bestSet_18 (by decide) rfl ?_
  refine q_iconst (pc := 20) (v := 1) C d_Un_bestSet_20 (by decide) ?_
  refine q_istore (pc := 21) [(7, .int (1 : Int32)), (6, .int y6_18), (5, .int x3), (4, .int (0 : Int32)), (0, .ref (ya Y 22)), (1, .ref (ya Y o1)), (2, .int x2), (3, .int x3)] C d_Un_bestSet_21 (by decide) rfl ?_
  obtain ⟨n11, h⟩ := h
  refine q_sub [(0, .ref (ya Y 22)), (1, .ref (ya Y o1)), (2, .int x2), (3, .int x3), (4, .int (0 : Int32)), (5, .int x3), (6, .int y6_18), (7, .int (1 : Int32))] [4, 5, 6, 7, 3, 2, 1, 0] rfl ?_
  exact t_Un_bestSet_23 hY C hr ho1 n11 (0 : Int32) x3 y6_18 (1 : Int32) h
theorem d_Do_stateOf_0 : decode prog_2_method_2_code 0 = .ok (.aload_n 0, 1) := by decide +kernel
theorem d_Do_stateOf_1 : decode prog_2_method_2_code 1 = .ok (.getfield 9, 3) := by decide +kernel
theorem d_Do_stateOf_4 : decode prog_2_method_2_code 4 = .ok (.iload_n 1, 1) := by decide +kernel
theorem d_Do_stateOf_5 : decode prog_2_method_2_code 5 = .ok (.iconst 4, 1) := by decide +kernel
theorem d_Do_stateOf_6 : decode prog_2_method_2_code 6 = .ok (.imul, 1) := by decide +kernel
theorem d_Do_stateOf_7 : decode prog_2_method_2_code 7 = .ok (.iload_n 2, 1) := by decide +kernel
theorem d_Do_stateOf_8 : decode prog_2_method_2_code 8 = .ok (.iadd, 1) := by decide +kernel
theorem d_Do_stateOf_9 : decode prog_2_method_2_code 9 = .ok (.iaload, 1) := by decide +kernel
theorem d_Do_stateOf_10 : decode prog_2_method_2_code 10 = .ok (.ireturn, 1) := by decide +kernel
abbrev y_Do_stateOf : MethodName := ⟨"LoadCycles$Doing", "stateOf", "(II)I"⟩
theorem mi_Do_stateOf : miV y_Do_stateOf prog_2_method_2_code 3 (some .int) 2 := ⟨wd_494, wd_495, wd_67, wd_496, by decide, by decide, by decide +kernel⟩
def w_Do_stateOf (o : Nat) (x1 : Int32) (x2 : Int32) (σ : Sg) (K : Int32 → Prop) : Prop :=
  (vp_in ((x1 * (4 : Int32)) + x2) 80 ∧ K (σ (o + 1) ((x1 * (4 : Int32)) + x2).toNatClampNeg))
set_option maxHeartbeats 4000000 in
theorem m_Do_stateOf {Y : Yx} {o : Nat} {x1 : Int32} {x2 : Int32} {σ : Sg} {K : Int32 → Prop} (hY : YD Y) (ho : kd o = 0) (h : w_Do_stateOf o x1 x2 σ K) : MetI Y y_Do_stateOf prog_2_method_2_code 3 (.int) 0 0 [.ref (ya Y o), .int x1, .int x2] σ (fun r τ => τ = σ ∧ K r) := by
  refine met_I [(0, .ref (ya Y o)), (1, .int x1), (2, .int x2)] hY (by decide) (Nat.le_of_ble_eq_true rfl) rfl (fun X C hr => ?_)
  unfold w_Do_stateOf at h
  refine q_aload_n (pc := 0) C d_Do_stateOf_0 rfl 0 rfl ?_
  refine q_get (pc := 1) (c := o) (ci := 0) (k := 0) (v := .ref (ya Y (o + 1))) C ho (by decide) (by decide) wd_134 rfl d_Do_stateOf_1 ?_
  refine q_iload_n (pc := 4) C d_Do_stateOf_4 rfl 1 rfl ?_
  refine q_iconst (pc := 5) (v := 4) C d_Do_stateOf_5 (by decide) ?_
  refine q_imul (pc := 6) C d_Do_stateOf_6 ?_
  refine q_iload_n (pc := 7) C d_Do_stateOf_7 rfl 2 rfl ?_
  refine q_iadd (pc := 8) C d_Do_stateOf_8 ?_
  obtain ⟨h1, h⟩ := h
  refine q_iald (pc := 9) (c := (o + 1)) C (k0_1 ho) h1 d_Do_stateOf_9 ?_
  exact q_iret (pc := 10) C hr d_Do_stateOf_10 ⟨rfl, h⟩
theorem d_Do_stateAhead_0 : decode prog_2_method_3_code 0 = .ok (.iload_n 1, 1) := by decide +kernel
theorem d_Do_stateAhead_1 : decode prog_2_method_3_code 1 = .ok (.ifCond .ne 7, 3) := by decide +kernel
theorem d_Do_stateAhead_4 : decode prog_2_method_3_code 4 = .ok (.iconst 0, 1) := by decide +kernel
theorem d_Do_stateAhead_5 : decode prog_2_method_3_code 5 = .ok (.goto 11, 3) := by decide +kernel
theorem d_Do_stateAhead_8 : decode prog_2_method_3_code 8 = .ok (.aload_n 0, 1) := by decide +kernel
theorem d_Do_stateAhead_9 : decode prog_2_method_3_code 9 = .ok (.iload_n 1, 1) := by decide +kernel
theorem d_Do_stateAhead_10 : decode prog_2_method_3_code 10 = .ok (.iconst 1, 1) := by decide +kernel
theorem d_Do_stateAhead_11 : decode prog_2_method_3_code 11 = .ok (.isub, 1) := by decide +kernel
theorem d_Do_stateAhead_12 : decode prog_2_method_3_code 12 = .ok (.iload_n 2, 1) := by decide +kernel
theorem d_Do_stateAhead_13 : decode prog_2_method_3_code 13 = .ok (.invokevirtual 18, 3) := by decide +kernel
theorem d_Do_stateAhead_16 : decode prog_2_method_3_code 16 = .ok (.ireturn, 1) := by decide +kernel
abbrev y_Do_stateAhead : MethodName := ⟨"LoadCycles$Doing", "stateAhead", "(II)I"⟩
theorem mi_Do_stateAhead : miV y_Do_stateAhead prog_2_method_3_code 3 (some .int) 2 := ⟨wd_490, wd_491, wd_67, wd_492, by decide, by decide, by decide +kernel⟩
def w_Do_stateAhead (o : Nat) (x1 : Int32) (x2 : Int32) (σ : Sg) (K : Int32 → Prop) : Prop :=
  ((¬ x1 = 0 → w_Do_stateOf o (x1 - (1 : Int32)) x2 σ (fun u13 => K u13)) ∧ (x1 = 0 → K (0 : Int32)))
set_option maxHeartbeats 4000000 in
theorem m_Do_stateAhead {Y : Yx} {o : Nat} {x1 : Int32} {x2 : Int32} {σ : Sg} {K : Int32 → Prop} (hY : YD Y) (ho : kd o = 0) (h : w_Do_stateAhead o x1 x2 σ K) : MetI Y y_Do_stateAhead prog_2_method_3_code 3 (.int) 1 22 [.ref (ya Y o), .int x1, .int x2] σ (fun r τ => τ = σ ∧ K r) := by
  refine met_I [(0, .ref (ya Y o)), (1, .int x1), (2, .int x2)] hY (by decide) (Nat.le_of_ble_eq_true rfl) rfl (fun X C hr => ?_)
  unfold w_Do_stateAhead at h
  refine q_iload_n (pc := 0) C d_Do_stateAhead_0 rfl 1 rfl ?_
  obtain ⟨h1, h2⟩ := h
  refine q_if_ne (pc := 1) 8 C d_Do_stateAhead_1 (by decide) (fun hc => ?_) (fun hc => ?_)
  · have h := h1 hc
    refine q_aload_n (pc := 8) C d_Do_stateAhead_8 rfl 0 rfl ?_
    refine q_iload_n (pc := 9) C d_Do_stateAhead_9 rfl 1 rfl ?_
    refine q_iconst (pc := 10) (v := 1) C d_Do_stateAhead_10 (by decide) ?_
    refine q_isub (pc := 11) C d_Do_stateAhead_11 ?_
    refine q_iload_n (pc := 12) C d_Do_stateAhead_12 rfl 2 rfl ?_
    refine q_callVIr (pc := 13) (st := []) (d := o) C (m_Do_stateOf hY ho h) mi_Do_stateOf ho (by decide) rfl wd_493 rfl rfl (Nat.le_of_ble_eq_true rfl) (by decide) (by decide) d_Do_stateAhead_13 (fun u13 h => ?_)
    exact q_iret (pc := 16) C hr d_Do_stateAhead_16 ⟨rfl, h⟩
  have h := h2 hc
  refine q_iconst (pc := 4) (v := 0) C d_Do_stateAhead_4 (by decide) ?_
  refine q_goto (pc := 5) 16 C d_Do_stateAhead_5 (by decide) ?_
  exact q_iret (pc := 16) C hr d_Do_stateAhead_16 ⟨rfl, h⟩
theorem d_Do_add_0 : decode prog_2_method_6_code 0 = .ok (.aload_n 0, 1) := by decide +kernel
theorem d_Do_add_1 : decode prog_2_method_6_code 1 = .ok (.iload_n 2, 1) := by decide +kernel
theorem d_Do_add_2 : decode prog_2_method_6_code 2 = .ok (.iload_n 3, 1) := by decide +kernel
theorem d_Do_add_3 : decode prog_2_method_6_code 3 = .ok (.invokevirtual 53, 3) := by decide +kernel
theorem d_Do_add_6 : decode prog_2_method_6_code 6 = .ok (.istore 5, 2) := by decide +kernel
theorem d_Do_add_8 : decode prog_2_method_6_code 8 = .ok (.iload 4, 2) := by decide +kernel
theorem d_Do_add_10 : decode prog_2_method_6_code 10 = .ok (.ifCond .eq 13, 3) := by decide +kernel
theorem d_Do_add_13 : decode prog_2_method_6_code 13 = .ok (.aload_n 1, 1) := by decide +kernel
theorem d_Do_add_14 : decode prog_2_method_6_code 14 = .ok (.iload_n 3, 1) := by decide +kernel
theorem d_Do_add_15 : decode prog_2_method_6_code 15 = .ok (.iload 5, 2) := by decide +kernel
theorem d_Do_add_17 : decode prog_2_method_6_code 17 = .ok (.invokevirtual 56, 3) := by decide +kernel
theorem d_Do_add_20 : decode prog_2_method_6_code 20 = .ok (.goto 5, 3) := by decide +kernel
theorem d_Do_add_23 : decode prog_2_method_6_code 23 = .ok (.iload 5, 2) := by decide +kernel
theorem d_Do_add_25 : decode prog_2_method_6_code 25 = .ok (.istore 6, 2) := by decide +kernel
theorem d_Do_add_27 : decode prog_2_method_6_code 27 = .ok (.aload_n 1, 1) := by decide +kernel
theorem d_Do_add_28 : decode prog_2_method_6_code 28 = .ok (.iload_n 3, 1) := by decide +kernel
theorem d_Do_add_29 : decode prog_2_method_6_code 29 = .ok (.iload 6, 2) := by decide +kernel
theorem d_Do_add_31 : decode prog_2_method_6_code 31 = .ok (.invokevirtual 59, 3) := by decide +kernel
theorem d_Do_add_34 : decode prog_2_method_6_code 34 = .ok (.istore 7, 2) := by decide +kernel
theorem d_Do_add_36 : decode prog_2_method_6_code 36 = .ok (.aload_n 0, 1) := by decide +kernel
theorem d_Do_add_37 : decode prog_2_method_6_code 37 = .ok (.getfield 9, 3) := by decide +kernel
theorem d_Do_add_40 : decode prog_2_method_6_code 40 = .ok (.iload_n 2, 1) := by decide +kernel
theorem d_Do_add_41 : decode prog_2_method_6_code 41 = .ok (.iconst 4, 1) := by decide +kernel
theorem d_Do_add_42 : decode prog_2_method_6_code 42 = .ok (.imul, 1) := by decide +kernel
theorem d_Do_add_43 : decode prog_2_method_6_code 43 = .ok (.iload_n 3, 1) := by decide +kernel
theorem d_Do_add_44 : decode prog_2_method_6_code 44 = .ok (.iadd, 1) := by decide +kernel
theorem d_Do_add_45 : decode prog_2_method_6_code 45 = .ok (.iload 6, 2) := by decide +kernel
theorem d_Do_add_47 : decode prog_2_method_6_code 47 = .ok (.iastore, 1) := by decide +kernel
theorem d_Do_add_48 : decode prog_2_method_6_code 48 = .ok (.aload_n 0, 1) := by decide +kernel
theorem d_Do_add_49 : decode prog_2_method_6_code 49 = .ok (.getfield 15, 3) := by decide +kernel
theorem d_Do_add_52 : decode prog_2_method_6_code 52 = .ok (.iload_n 3, 1) := by decide +kernel
theorem d_Do_add_53 : decode prog_2_method_6_code 53 = .ok (.dup2, 1) := by decide +kernel
theorem d_Do_add_54 : decode prog_2_method_6_code 54 = .ok (.iaload, 1) := by decide +kernel
theorem d_Do_add_55 : decode prog_2_method_6_code 55 = .ok (.iload 7, 2) := by decide +kernel
theorem d_Do_add_57 : decode prog_2_method_6_code 57 = .ok (.iadd, 1) := by decide +kernel
theorem d_Do_add_58 : decode prog_2_method_6_code 58 = .ok (.iastore, 1) := by decide +kernel
theorem d_Do_add_59 : decode prog_2_method_6_code 59 = .ok (.aload_n 0, 1) := by decide +kernel
theorem d_Do_add_60 : decode prog_2_method_6_code 60 = .ok (.dup, 1) := by decide +kernel
theorem d_Do_add_61 : decode prog_2_method_6_code 61 = .ok (.getfield 32, 3) := by decide +kernel
theorem d_Do_add_64 : decode prog_2_method_6_code 64 = .ok (.iload 7, 2) := by decide +kernel
theorem d_Do_add_66 : decode prog_2_method_6_code 66 = .ok (.iadd, 1) := by decide +kernel
theorem d_Do_add_67 : decode prog_2_method_6_code 67 = .ok (.putfield 32, 3) := by decide +kernel
theorem d_Do_add_70 : decode prog_2_method_6_code 70 = .ok (.aload_n 0, 1) := by decide +kernel
theorem d_Do_add_71 : decode prog_2_method_6_code 71 = .ok (.dup, 1) := by decide +kernel
theorem d_Do_add_72 : decode prog_2_method_6_code 72 = .ok (.getfield 22, 3) := by decide +kernel
theorem d_Do_add_75 : decode prog_2_method_6_code 75 = .ok (.iload 7, 2) := by decide +kernel
theorem d_Do_add_77 : decode prog_2_method_6_code 77 = .ok (.isub, 1) := by decide +kernel
theorem d_Do_add_78 : decode prog_2_method_6_code 78 = .ok (.putfield 22, 3) := by decide +kernel
theorem d_Do_add_81 : decode prog_2_method_6_code 81 = .ok (.iload 4, 2) := by decide +kernel
theorem d_Do_add_83 : decode prog_2_method_6_code 83 = .ok (.ifCond .eq 32, 3) := by decide +kernel
theorem d_Do_add_86 : decode prog_2_method_6_code 86 = .ok (.aload_n 0, 1) := by decide +kernel
theorem d_Do_add_87 : decode prog_2_method_6_code 87 = .ok (.dup, 1) := by decide +kernel
theorem d_Do_add_88 : decode prog_2_method_6_code 88 = .ok (.getfield 26, 3) := by decide +kernel
theorem d_Do_add_91 : decode prog_2_method_6_code 91 = .ok (.iconst 1, 1) := by decide +kernel
theorem d_Do_add_92 : decode prog_2_method_6_code 92 = .ok (.iadd, 1) := by decide +kernel
theorem d_Do_add_93 : decode prog_2_method_6_code 93 = .ok (.putfield 26, 3) := by decide +kernel
theorem d_Do_add_96 : decode prog_2_method_6_code 96 = .ok (.aload_n 0, 1) := by decide +kernel
theorem d_Do_add_97 : decode prog_2_method_6_code 97 = .ok (.dup, 1) := by decide +kernel
theorem d_Do_add_98 : decode prog_2_method_6_code 98 = .ok (.getfield 29, 3) := by decide +kernel
theorem d_Do_add_101 : decode prog_2_method_6_code 101 = .ok (.iload 5, 2) := by decide +kernel
theorem d_Do_add_103 : decode prog_2_method_6_code 103 = .ok (.ifCond .ne 7, 3) := by decide +kernel
theorem d_Do_add_106 : decode prog_2_method_6_code 106 = .ok (.iconst 1, 1) := by decide +kernel
theorem d_Do_add_107 : decode prog_2_method_6_code 107 = .ok (.goto 4, 3) := by decide +kernel
theorem d_Do_add_110 : decode prog_2_method_6_code 110 = .ok (.iconst 0, 1) := by decide +kernel
theorem d_Do_add_111 : decode prog_2_method_6_code 111 = .ok (.iadd, 1) := by decide +kernel
theorem d_Do_add_112 : decode prog_2_method_6_code 112 = .ok (.putfield 29, 3) := by decide +kernel
theorem d_Do_add_115 : decode prog_2_method_6_code 115 = .ok (.return_, 1) := by decide +kernel
abbrev y_Do_add : MethodName := ⟨"LoadCycles$Doing", "add", "(LLoadCycles$House;IIZ)V"⟩
theorem mi_Do_add : miV y_Do_add prog_2_method_6_code 8 none 4 := ⟨wd_486, wd_487, wd_67, wd_488, by decide, by decide, by decide +kernel⟩
def B_Do_add_111 (o : Nat) (o1 : Nat) (x2 : Int32) (x3 : Int32) (x4 : Int32) (K : Sg → Prop) (vs0 : Int32) (vs1 : Int32) (σ : Sg) : Prop :=
  (∀ τ112 : Sg, τ112 = s2 σ o 5 (vs1 + vs0) → K τ112)
theorem t_Do_add_111 {X : Bx} {Y : Yx} {o : Nat} {o1 : Nat} {x2 : Int32} {x3 : Int32} {x4 : Int32} {vs0 : Int32} {vs1 : Int32} {K : Sg → Prop}  (hY : YD Y) (C : Cx X Y prog_2_method_6_code 8 "LoadCycles$Doing" 2 44) (hr : (xh X).sig.returnType = none) (ho : kd o = 0) (ho1 : kd o1 = 2)  {σ : Sg} (h : B_Do_add_111 o o1 x2 x3 x4 K vs0 vs1 σ) : St X Y 8 (QV X Y K) 111 [] [.int vs0, .int vs1, .ref (ya Y o)] σ := by
  unfold B_Do_add_111 at h
  refine q_iadd (pc := 111) C d_Do_add_111 ?_
  refine q_put (pc := 112) (c := o) (ci := 0) (k := 5) C ho (by decide) (by decide) wd_141 rfl rfl rfl fs_0_5 d_Do_add_112 ?_
  refine q_nms (fun τ112 eτ112 => ?_)
  replace h := h τ112 eτ112
  exact q_vret (pc := 115) C hr d_Do_add_115 h
def B_Do_add_25 (o : Nat) (o1 : Nat) (x2 : Int32) (x3 : Int32) (x4 : Int32) (K : Sg → Prop) (v5 : Int32) (vs0 : Int32) (σ : Sg) : Prop :=
  w_Ho_powerIn o1 x3 vs0 σ (fun u31 => (vp_in ((x2 * (4 : Int32)) + x3) 80 ∧ (∀ τ47 : Sg, τ47 = s2 σ (o + 1) ((x2 * (4 : Int32)) + x3).toNatClampNeg vs0 → (vp_in x3 4 ∧ (vp_in x3 4 ∧ (∀ τ58 : Sg, τ58 = s2 τ47 (o + 2) x3.toNatClampNeg ((τ47 (o + 2) x3.toNatClampNeg) + u31) → (∀ τ67 : Sg, τ67 = s2 τ58 o 2 ((τ58 o 2) + u31) → (∀ τ78 : Sg, τ78 = s2 τ67 o 3 ((τ67 o 3) - u31) → ((x4 = 0 → K τ78) ∧ (¬ x4 = 0 → (∀ τ93 : Sg, τ93 = s2 τ78 o 4 ((τ78 o 4) + (1 : Int32)) → ((¬ v5 = 0 → B_Do_add_111 o o1 x2 x3 x4 K (0 : Int32) (τ93 o 5) τ93) ∧ (v5 = 0 → B_Do_add_111 o o1 x2 x3 x4 K (1 : Int32) (τ93 o 5) τ93)))))))))))))
theorem t_Do_add_25 {X : Bx} {Y : Yx} {o : Nat} {o1 : Nat} {x2 : Int32} {x3 : Int32} {x4 : Int32} {v5 : Int32} {vs0 : Int32} {K : Sg → Prop}  (hY : YD Y) (C : Cx X Y prog_2_method_6_code 8 "LoadCycles$Doing" 2 44) (hr : (xh X).sig.returnType = none) (ho : kd o = 0) (ho1 : kd o1 = 2)  {σ : Sg} (h : B_Do_add_25 o o1 x2 x3 x4 K v5 vs0 σ) : St X Y 8 (QV X Y K) 25 [(0, .ref (ya Y o)), (1, .ref (ya Y o1)), (2, .int x2), (3, .int x3), (4, .int x4), (5, .int v5)] [.int vs0] σ := by
  unfold B_Do_add_25 at h
  refine q_istore (pc := 25) [(6, .int vs0), (0, .ref (ya Y o)), (1, .ref (ya Y o1)), (2, .int x2), (3, .int x3), (4, .int x4), (5, .int v5)] C d_Do_add_25 (by decide) rfl ?_
  refine q_aload_n (pc := 27) C d_Do_add_27 rfl 2 rfl ?_
  refine q_iload_n (pc := 28) C d_Do_add_28 rfl 4 rfl ?_
  refine q_iload (pc := 29) C d_Do_add_29 0 rfl ?_
  refine q_callVIr (pc := 31) (st := []) (d := o1) C (m_Ho_powerIn hY ho1 h) mi_Ho_powerIn ho1 (by decide) rfl wd_498 rfl rfl (Nat.le_of_ble_eq_true rfl) (by decide) (by decide) d_Do_add_31 (fun u31 h => ?_)
  refine q_istore (pc := 34) [(7, .int u31), (6, .int vs0), (0, .ref (ya Y o)), (1, .ref (ya Y o1)), (2, .int x2), (3, .int x3), (4, .int x4), (5, .int v5)] C d_Do_add_34 (by decide) rfl ?_
  refine q_aload_n (pc := 36) C d_Do_add_36 rfl 2 rfl ?_
  refine q_get (pc := 37) (c := o) (ci := 0) (k := 0) (v := .ref (ya Y (o + 1))) C ho (by decide) (by decide) wd_134 rfl d_Do_add_37 ?_
  refine q_iload_n (pc := 40) C d_Do_add_40 rfl 4 rfl ?_
  refine q_iconst (pc := 41) (v := 4) C d_Do_add_41 (by decide) ?_
  refine q_imul (pc := 42) C d_Do_add_42 ?_
  refine q_iload_n (pc := 43) C d_Do_add_43 rfl 5 rfl ?_
  refine q_iadd (pc := 44) C d_Do_add_44 ?_
  refine q_iload (pc := 45) C d_Do_add_45 1 rfl ?_
  obtain ⟨h1, h⟩ := h
  refine q_iast (pc := 47) (c := (o + 1)) C (k0_1 ho) h1 d_Do_add_47 ?_
  refine q_nms (fun τ47 eτ47 => ?_)
  replace h := h τ47 eτ47
  refine q_aload_n (pc := 48) C d_Do_add_48 rfl 2 rfl ?_
  refine q_get (pc := 49) (c := o) (ci := 0) (k := 1) (v := .ref (ya Y (o + 2))) C ho (by decide) (by decide) wd_135 rfl d_Do_add_49 ?_
  refine q_iload_n (pc := 52) C d_Do_add_52 rfl 5 rfl ?_
  refine q_dup2 (pc := 53) C d_Do_add_53 rfl rfl ?_
  obtain ⟨h2, h⟩ := h
  refine q_iald (pc := 54) (c := (o + 2)) C (k0_2 ho) h2 d_Do_add_54 ?_
  refine q_iload (pc := 55) C d_Do_add_55 0 rfl ?_
  refine q_iadd (pc := 57) C d_Do_add_57 ?_
  obtain ⟨h3, h⟩ := h
  refine q_iast (pc := 58) (c := (o + 2)) C (k0_2 ho) h3 d_Do_add_58 ?_
  refine q_nms (fun τ58 eτ58 => ?_)
  replace h := h τ58 eτ58
  refine q_aload_n (pc := 59) C d_Do_add_59 rfl 2 rfl ?_
  refine q_dup (pc := 60) C d_Do_add_60 rfl ?_
  refine q_get (pc := 61) (c := o) (ci := 0) (k := 2) (v := .int (τ58 o 2)) C ho (by decide) (by decide) wd_138 rfl d_Do_add_61 ?_
  refine q_iload (pc := 64) C d_Do_add_64 0 rfl ?_
  refine q_iadd (pc := 66) C d_Do_add_66 ?_
  refine q_put (pc := 67) (c := o) (ci := 0) (k := 2) C ho (by decide) (by decide) wd_138 rfl rfl rfl fs_0_2 d_Do_add_67 ?_
  refine q_nms (fun τ67 eτ67 => ?_)
  replace h := h τ67 eτ67
  refine q_aload_n (pc := 70) C d_Do_add_70 rfl 2 rfl ?_
  refine q_dup (pc := 71) C d_Do_add_71 rfl ?_
  refine q_get (pc := 72) (c := o) (ci := 0) (k := 3) (v := .int (τ67 o 3)) C ho (by decide) (by decide) wd_139 rfl d_Do_add_72 ?_
  refine q_iload (pc := 75) C d_Do_add_75 0 rfl ?_
  refine q_isub (pc := 77) C d_Do_add_77 ?_
  refine q_put (pc := 78) (c := o) (ci := 0) (k := 3) C ho (by decide) (by decide) wd_139 rfl rfl rfl fs_0_3 d_Do_add_78 ?_
  refine q_nms (fun τ78 eτ78 => ?_)
  replace h := h τ78 eτ78
  refine q_iload (pc := 81) C d_Do_add_81 6 rfl ?_
  obtain ⟨h6, h7⟩ := h
  refine q_if_eq (pc := 83) 115 C d_Do_add_83 (by decide) (fun hc => ?_) (fun hc => ?_)
  · have h := h6 hc
    exact q_vret (pc := 115) C hr d_Do_add_115 h
  have h := h7 hc
  refine q_aload_n (pc := 86) C d_Do_add_86 rfl 2 rfl ?_
  refine q_dup (pc := 87) C d_Do_add_87 rfl ?_
  refine q_get (pc := 88) (c := o) (ci := 0) (k := 4) (v := .int (τ78 o 4)) C ho (by decide) (by decide) wd_140 rfl d_Do_add_88 ?_
  refine q_iconst (pc := 91) (v := 1) C d_Do_add_91 (by decide) ?_
  refine q_iadd (pc := 92) C d_Do_add_92 ?_
  refine q_put (pc := 93) (c := o) (ci := 0) (k := 4) C ho (by decide) (by decide) wd_140 rfl rfl rfl fs_0_4 d_Do_add_93 ?_
  refine q_nms (fun τ93 eτ93 => ?_)
  replace h := h τ93 eτ93
  refine q_aload_n (pc := 96) C d_Do_add_96 rfl 2 rfl ?_
  refine q_dup (pc := 97) C d_Do_add_97 rfl ?_
  refine q_get (pc := 98) (c := o) (ci := 0) (k := 5) (v := .int (τ93 o 5)) C ho (by decide) (by decide) wd_141 rfl d_Do_add_98 ?_
  refine q_iload (pc := 101) C d_Do_add_101 7 rfl ?_
  obtain ⟨h4, h5⟩ := h
  refine q_if_ne (pc := 103) 110 C d_Do_add_103 (by decide) (fun hc => ?_) (fun hc => ?_)
  · have h := h4 hc
    refine q_iconst (pc := 110) (v := 0) C d_Do_add_110 (by decide) ?_
    refine q_sub [] [] rfl ?_
    exact t_Do_add_111 hY C hr ho ho1 h
  have h := h5 hc
  refine q_iconst (pc := 106) (v := 1) C d_Do_add_106 (by decide) ?_
  refine q_goto (pc := 107) 111 C d_Do_add_107 (by decide) ?_
  refine q_sub [] [] rfl ?_
  exact t_Do_add_111 hY C hr ho ho1 h
def w_Do_add (o : Nat) (o1 : Nat) (x2 : Int32) (x3 : Int32) (x4 : Int32) (σ : Sg) (K : Sg → Prop) : Prop :=
  w_Do_stateAhead o x2 x3 σ (fun u3 => ((x4 = 0 → B_Do_add_25 o o1 x2 x3 x4 K u3 u3 σ) ∧ (¬ x4 = 0 → w_Ho_stateAfter o1 x3 u3 σ (fun u17 => B_Do_add_25 o o1 x2 x3 x4 K u3 u17 σ))))
set_option maxHeartbeats 4000000 in
theorem m_Do_add {Y : Yx} {o : Nat} {o1 : Nat} {x2 : Int32} {x3 : Int32} {x4 : Int32} {σ : Sg} {K : Sg → Prop} (hY : YD Y) (ho : kd o = 0) (ho1 : kd o1 = 2) (h : w_Do_add o o1 x2 x3 x4 σ K) : MetV Y y_Do_add prog_2_method_6_code 8 2 44 [.ref (ya Y o), .ref (ya Y o1), .int x2, .int x3, .int x4] σ K := by
  refine met_V [(0, .ref (ya Y o)), (1, .ref (ya Y o1)), (2, .int x2), (3, .int x3), (4, .int x4)] hY (by decide) (Nat.le_of_ble_eq_true rfl) rfl (fun X C hr => ?_)
  unfold w_Do_add at h
  refine q_aload_n (pc := 0) C d_Do_add_0 rfl 0 rfl ?_
  refine q_iload_n (pc := 1) C d_Do_add_1 rfl 2 rfl ?_
  refine q_iload_n (pc := 2) C d_Do_add_2 rfl 3 rfl ?_
  refine q_callVIr (pc := 3) (st := []) (d := o) C (m_Do_stateAhead hY ho h) mi_Do_stateAhead ho (by decide) rfl wd_489 rfl rfl (Nat.le_of_ble_eq_true rfl) (by decide) (by decide) d_Do_add_3 (fun u3 h => ?_)
  refine q_istore (pc := 6) [(5, .int u3), (0, .ref (ya Y o)), (1, .ref (ya Y o1)), (2, .int x2), (3, .int x3), (4, .int x4)] C d_Do_add_6 (by decide) rfl ?_
  refine q_iload (pc := 8) C d_Do_add_8 5 rfl ?_
  obtain ⟨h8, h9⟩ := h
  refine q_if_eq (pc := 10) 23 C d_Do_add_10 (by decide) (fun hc => ?_) (fun hc => ?_)
  · have h := h8 hc
    refine q_iload (pc := 23) C d_Do_add_23 0 rfl ?_
    refine q_sub [(0, .ref (ya Y o)), (1, .ref (ya Y o1)), (2, .int x2), (3, .int x3), (4, .int x4), (5, .int u3)] [1, 2, 3, 4, 5, 0] rfl ?_
    exact t_Do_add_25 hY C hr ho ho1 h
  have h := h9 hc
  refine q_aload_n (pc := 13) C d_Do_add_13 rfl 2 rfl ?_
  refine q_iload_n (pc := 14) C d_Do_add_14 rfl 4 rfl ?_
  refine q_iload (pc := 15) C d_Do_add_15 0 rfl ?_
  refine q_callVIr (pc := 17) (st := []) (d := o1) C (m_Ho_stateAfter hY ho1 h) mi_Ho_stateAfter ho1 (by decide) rfl wd_497 rfl rfl (Nat.le_of_ble_eq_true rfl) (by decide) (by decide) d_Do_add_17 (fun u17 h => ?_)
  refine q_goto (pc := 20) 25 C d_Do_add_20 (by decide) ?_
  refine q_sub [(0, .ref (ya Y o)), (1, .ref (ya Y o1)), (2, .int x2), (3, .int x3), (4, .int x4), (5, .int u3)] [1, 2, 3, 4, 5, 0] rfl ?_
  exact t_Do_add_25 hY C hr ho ho1 h
theorem d_Un_unmix_0 : decode prog_7_method_2_code 0 = .ok (.aload_n 0, 1) := by decide +kernel
theorem d_Un_unmix_1 : decode prog_7_method_2_code 1 = .ok (.aload_n 1, 1) := by decide +kernel
theorem d_Un_unmix_2 : decode prog_7_method_2_code 2 = .ok (.invokevirtual 27, 3) := by decide +kernel
theorem d_Un_unmix_5 : decode prog_7_method_2_code 5 = .ok (.aload_n 0, 1) := by decide +kernel
theorem d_Un_unmix_6 : decode prog_7_method_2_code 6 = .ok (.aload_n 1, 1) := by decide +kernel
theorem d_Un_unmix_7 : decode prog_7_method_2_code 7 = .ok (.invokevirtual 31, 3) := by decide +kernel
theorem d_Un_unmix_10 : decode prog_7_method_2_code 10 = .ok (.aload_n 2, 1) := by decide +kernel
theorem d_Un_unmix_11 : decode prog_7_method_2_code 11 = .ok (.aload_n 1, 1) := by decide +kernel
theorem d_Un_unmix_12 : decode prog_7_method_2_code 12 = .ok (.invokevirtual 34, 3) := by decide +kernel
theorem d_Un_unmix_15 : decode prog_7_method_2_code 15 = .ok (.iconst 0, 1) := by decide +kernel
theorem d_Un_unmix_16 : decode prog_7_method_2_code 16 = .ok (.istore_n 3, 1) := by decide +kernel
theorem d_Un_unmix_17 : decode prog_7_method_2_code 17 = .ok (.iconst 0, 1) := by decide +kernel
theorem d_Un_unmix_18 : decode prog_7_method_2_code 18 = .ok (.istore 4, 2) := by decide +kernel
theorem d_Un_unmix_20 : decode prog_7_method_2_code 20 = .ok (.iload 4, 2) := by decide +kernel
theorem d_Un_unmix_22 : decode prog_7_method_2_code 22 = .ok (.aload_n 1, 1) := by decide +kernel
theorem d_Un_unmix_23 : decode prog_7_method_2_code 23 = .ok (.getfield 39, 3) := by decide +kernel
theorem d_Un_unmix_26 : decode prog_7_method_2_code 26 = .ok (.if_icmp .ge 71, 3) := by decide +kernel
theorem d_Un_unmix_29 : decode prog_7_method_2_code 29 = .ok (.aload_n 0, 1) := by decide +kernel
theorem d_Un_unmix_30 : decode prog_7_method_2_code 30 = .ok (.aload_n 1, 1) := by decide +kernel
theorem d_Un_unmix_31 : decode prog_7_method_2_code 31 = .ok (.iload 4, 2) := by decide +kernel
theorem d_Un_unmix_33 : decode prog_7_method_2_code 33 = .ok (.iload_n 3, 1) := by decide +kernel
theorem d_Un_unmix_34 : decode prog_7_method_2_code 34 = .ok (.invokevirtual 45, 3) := by decide +kernel
theorem d_Un_unmix_37 : decode prog_7_method_2_code 37 = .ok (.istore 5, 2) := by decide +kernel
theorem d_Un_unmix_39 : decode prog_7_method_2_code 39 = .ok (.aload_n 0, 1) := by decide +kernel
theorem d_Un_unmix_40 : decode prog_7_method_2_code 40 = .ok (.aload_n 1, 1) := by decide +kernel
theorem d_Un_unmix_41 : decode prog_7_method_2_code 41 = .ok (.iload_n 3, 1) := by decide +kernel
theorem d_Un_unmix_42 : decode prog_7_method_2_code 42 = .ok (.iload 5, 2) := by decide +kernel
theorem d_Un_unmix_44 : decode prog_7_method_2_code 44 = .ok (.invokevirtual 49, 3) := by decide +kernel
theorem d_Un_unmix_47 : decode prog_7_method_2_code 47 = .ok (.istore_n 3, 1) := by decide +kernel
theorem d_Un_unmix_48 : decode prog_7_method_2_code 48 = .ok (.iconst 0, 1) := by decide +kernel
theorem d_Un_unmix_49 : decode prog_7_method_2_code 49 = .ok (.istore 6, 2) := by decide +kernel
theorem d_Un_unmix_51 : decode prog_7_method_2_code 51 = .ok (.iload 6, 2) := by decide +kernel
theorem d_Un_unmix_53 : decode prog_7_method_2_code 53 = .ok (.aload_n 1, 1) := by decide +kernel
theorem d_Un_unmix_54 : decode prog_7_method_2_code 54 = .ok (.getfield 52, 3) := by decide +kernel
theorem d_Un_unmix_57 : decode prog_7_method_2_code 57 = .ok (.if_icmp .ge 34, 3) := by decide +kernel
theorem d_Un_unmix_60 : decode prog_7_method_2_code 60 = .ok (.aload_n 2, 1) := by decide +kernel
theorem d_Un_unmix_61 : decode prog_7_method_2_code 61 = .ok (.aload_n 1, 1) := by decide +kernel
theorem d_Un_unmix_62 : decode prog_7_method_2_code 62 = .ok (.iload 4, 2) := by decide +kernel
theorem d_Un_unmix_64 : decode prog_7_method_2_code 64 = .ok (.iload 6, 2) := by decide +kernel
theorem d_Un_unmix_66 : decode prog_7_method_2_code 66 = .ok (.iload 5, 2) := by decide +kernel
theorem d_Un_unmix_68 : decode prog_7_method_2_code 68 = .ok (.iload 6, 2) := by decide +kernel
theorem d_Un_unmix_70 : decode prog_7_method_2_code 70 = .ok (.ishr, 1) := by decide +kernel
theorem d_Un_unmix_71 : decode prog_7_method_2_code 71 = .ok (.iconst 1, 1) := by decide +kernel
theorem d_Un_unmix_72 : decode prog_7_method_2_code 72 = .ok (.iand, 1) := by decide +kernel
theorem d_Un_unmix_73 : decode prog_7_method_2_code 73 = .ok (.iconst 1, 1) := by decide +kernel
theorem d_Un_unmix_74 : decode prog_7_method_2_code 74 = .ok (.if_icmp .ne 7, 3) := by decide +kernel
theorem d_Un_unmix_77 : decode prog_7_method_2_code 77 = .ok (.iconst 1, 1) := by decide +kernel
theorem d_Un_unmix_78 : decode prog_7_method_2_code 78 = .ok (.goto 4, 3) := by decide +kernel
theorem d_Un_unmix_81 : decode prog_7_method_2_code 81 = .ok (.iconst 0, 1) := by decide +kernel
theorem d_Un_unmix_82 : decode prog_7_method_2_code 82 = .ok (.invokevirtual 55, 3) := by decide +kernel
theorem d_Un_unmix_85 : decode prog_7_method_2_code 85 = .ok (.iinc 6 1, 3) := by decide +kernel
theorem d_Un_unmix_88 : decode prog_7_method_2_code 88 = .ok (.goto (-37), 3) := by decide +kernel
theorem d_Un_unmix_91 : decode prog_7_method_2_code 91 = .ok (.iinc 4 1, 3) := by decide +kernel
theorem d_Un_unmix_94 : decode prog_7_method_2_code 94 = .ok (.goto (-74), 3) := by decide +kernel
theorem d_Un_unmix_97 : decode prog_7_method_2_code 97 = .ok (.return_, 1) := by decide +kernel
abbrev y_Un_unmix : MethodName := ⟨"LoadCycles$Unmixer", "unmix", "(LLoadCycles$House;LLoadCycles$Doing;)V"⟩
theorem mi_Un_unmix : miV y_Un_unmix prog_7_method_2_code 7 none 2 := ⟨wd_426, wd_427, wd_68, wd_428, by decide, by decide, by decide +kernel⟩
def B_Un_unmix_82 (o1 : Nat) (o2 : Nat) (K : Sg → Prop) (r20 : Int32 → Int32 → Sg → Prop) (r51 : Int32 → Sg → Prop) (v3 : Int32) (v4 : Int32) (v5 : Int32) (v6 : Int32) (vs0 : Int32) (vs1 : Int32) (vs2 : Int32) (σ : Sg) : Prop :=
  w_Do_add o2 o1 vs2 vs1 vs0 σ (fun τ82 => r51 (v6 + (1 : Int32)) τ82)
theorem t_Un_unmix_82 {X : Bx} {Y : Yx} {o1 : Nat} {o2 : Nat} {v3 : Int32} {v4 : Int32} {v5 : Int32} {v6 : Int32} {vs0 : Int32} {vs1 : Int32} {vs2 : Int32} {K : Sg → Prop} {r20 : Int32 → Int32 → Sg → Prop} {r51 : Int32 → Sg → Prop} (hY : YD Y) (C : Cx X Y prog_7_method_2_code 7 "LoadCycles$Unmixer" 3 85) (hr : (xh X).sig.returnType = none) (ho1 : kd o1 = 2) (ho2 : kd o2 = 0) (H20 : ∀ (v3 : Int32) (v4 : Int32) (σ : Sg), r20 v3 v4 σ → St X Y 7 (QV X Y K) 20 [(0, .ref (ya Y 22)), (1, .ref (ya Y o1)), (2, .ref (ya Y o2)), (3, .int v3), (4, .int v4)] [] σ) (H51 : ∀ (v6 : Int32) (σ : Sg), r51 v6 σ → St X Y 7 (QV X Y K) 51 [(0, .ref (ya Y 22)), (1, .ref (ya Y o1)), (2, .ref (ya Y o2)), (3, .int v3), (4, .int v4), (5, .int v5), (6, .int v6)] [] σ)  {σ : Sg} (h : B_Un_unmix_82 o1 o2 K r20 r51 v3 v4 v5 v6 vs0 vs1 vs2 σ) : St X Y 7 (QV X Y K) 82 [(0, .ref (ya Y 22)), (1, .ref (ya Y o1)), (2, .ref (ya Y o2)), (3, .int v3), (4, .int v4), (5, .int v5), (6, .int v6)] [.int vs0, .int vs1, .int vs2, .ref (ya Y o1), .ref (ya Y o2)] σ := by
  unfold B_Un_unmix_82 at h
  refine q_callVV (pc := 82) (st := []) (d := o2) C (m_Do_add hY ho2 ho1 h) mi_Do_add ho2 (by decide) rfl wd_485 rfl rfl (Nat.le_of_ble_eq_true rfl) (by decide) (by decide) d_Un_unmix_82 (fun τ82 h => ?_)
  refine q_iinc (pc := 85) (v6 + (1 : Int32)) [(6, .int (v6 + (1 : Int32))), (0, .ref (ya Y 22)), (1, .ref (ya Y o1)), (2, .ref (ya Y o2)), (3, .int v3), (4, .int v4), (5, .int v5)] C d_Un_unmix_85 6 rfl rfl (by decide) rfl ?_
  refine q_goto (pc := 88) 51 C d_Un_unmix_88 (by decide) ?_
  refine q_sub [(0, .ref (ya Y 22)), (1, .ref (ya Y o1)), (2, .ref (ya Y o2)), (3, .int v3), (4, .int v4), (5, .int v5), (6, .int (v6 + (1 : Int32)))] [1, 2, 3, 4, 5, 6, 0] rfl ?_
  exact H51 (v6 + (1 : Int32)) τ82 h
def L_Un_unmix_51 (o1 : Nat) (o2 : Nat) (v3 : Int32) (v4 : Int32) (v5 : Int32) (K : Sg → Prop) (r20 : Int32 → Int32 → Sg → Prop) : Nat → Int32 → Sg → Prop
  | 0, _, _ => False
  | n + 1, v6, σ =>
    (((σ o1 4) ≤ v6 → r20 v3 (v4 + (1 : Int32)) σ) ∧ (¬ (σ o1 4) ≤ v6 → ((¬ ((v5 >>> (v6 &&& 31)) &&& (1 : Int32)) = (1 : Int32) → B_Un_unmix_82 o1 o2 K r20 (fun a0 a1 => L_Un_unmix_51 o1 o2 v3 v4 v5 K r20 n a0 a1) v3 v4 v5 v6 (0 : Int32) v6 v4 σ) ∧ (((v5 >>> (v6 &&& 31)) &&& (1 : Int32)) = (1 : Int32) → B_Un_unmix_82 o1 o2 K r20 (fun a0 a1 => L_Un_unmix_51 o1 o2 v3 v4 v5 K r20 n a0 a1) v3 v4 v5 v6 (1 : Int32) v6 v4 σ))))
theorem t_Un_unmix_51 {X : Bx} {Y : Yx} {o1 : Nat} {o2 : Nat} {v3 : Int32} {v4 : Int32} {v5 : Int32} {K : Sg → Prop} {r20 : Int32 → Int32 → Sg → Prop} (hY : YD Y) (C : Cx X Y prog_7_method_2_code 7 "LoadCycles$Unmixer" 3 85) (hr : (xh X).sig.returnType = none) (ho1 : kd o1 = 2) (ho2 : kd o2 = 0) (H20 : ∀ (v3 : Int32) (v4 : Int32) (σ : Sg), r20 v3 v4 σ → St X Y 7 (QV X Y K) 20 [(0, .ref (ya Y 22)), (1, .ref (ya Y o1)), (2, .ref (ya Y o2)), (3, .int v3), (4, .int v4)] [] σ) : ∀ (n : Nat) (v6 : Int32) (σ : Sg), L_Un_unmix_51 o1 o2 v3 v4 v5 K r20 n v6 σ → St X Y 7 (QV X Y K) 51 [(0, .ref (ya Y 22)), (1, .ref (ya Y o1)), (2, .ref (ya Y o2)), (3, .int v3), (4, .int v4), (5, .int v5), (6, .int v6)] [] σ := by
  intro n
  induction n with
  | zero => intro v6 σ h; exact h.elim
  | succ n ih =>
    intro v6 σ h
    unfold L_Un_unmix_51 at h
    refine q_iload (pc := 51) C d_Un_unmix_51 6 rfl ?_
    refine q_aload_n (pc := 53) C d_Un_unmix_53 rfl 1 rfl ?_
    refine q_get (pc := 54) (c := o1) (ci := 2) (k := 4) (v := .int (σ o1 4)) C ho1 (by decide) (by decide) wd_101 rfl d_Un_unmix_54 ?_
    obtain ⟨h3, h4⟩ := h
    refine q_icmp_ge (pc := 57) 91 C d_Un_unmix_57 (by decide) (fun hc => ?_) (fun hc => ?_)
    · have h := h3 hc
      refine q_iinc (pc := 91) (v4 + (1 : Int32)) [(4, .int (v4 + (1 : Int32))), (0, .ref (ya Y 22)), (1, .ref (ya Y o1)), (2, .ref (ya Y o2)), (3, .int v3), (5, .int v5), (6, .int v6)] C d_Un_unmix_91 4 rfl rfl (by decide) rfl ?_
      refine q_goto (pc := 94) 20 C d_Un_unmix_94 (by decide) ?_
      refine q_sub [(0, .ref (ya Y 22)), (1, .ref (ya Y o1)), (2, .ref (ya Y o2)), (3, .int v3), (4, .int (v4 + (1 : Int32)))] [1, 2, 3, 4, 0] rfl ?_
      exact H20 v3 (v4 + (1 : Int32)) σ h
    have h := h4 hc
    refine q_aload_n (pc := 60) C d_Un_unmix_60 rfl 2 rfl ?_
    refine q_aload_n (pc := 61) C d_Un_unmix_61 rfl 1 rfl ?_
    refine q_iload (pc := 62) C d_Un_unmix_62 4 rfl ?_
    refine q_iload (pc := 64) C d_Un_unmix_64 6 rfl ?_
    refine q_iload (pc := 66) C d_Un_unmix_66 5 rfl ?_
    refine q_iload (pc := 68) C d_Un_unmix_68 6 rfl ?_
    refine q_ishr (pc := 70) C d_Un_unmix_70 ?_
    refine q_iconst (pc := 71) (v := 1) C d_Un_unmix_71 (by decide) ?_
    refine q_iand (pc := 72) C d_Un_unmix_72 ?_
    refine q_iconst (pc := 73) (v := 1) C d_Un_unmix_73 (by decide) ?_
    obtain ⟨h1, h2⟩ := h
    refine q_icmp_ne (pc := 74) 81 C d_Un_unmix_74 (by decide) (fun hc => ?_) (fun hc => ?_)
    · have h := h1 hc
      refine q_iconst (pc := 81) (v := 0) C d_Un_unmix_81 (by decide) ?_
      exact t_Un_unmix_82 hY C hr ho1 ho2 H20 ih h
    have h := h2 hc
    refine q_iconst (pc := 77) (v := 1) C d_Un_unmix_77 (by decide) ?_
    refine q_goto (pc := 78) 82 C d_Un_unmix_78 (by decide) ?_
    exact t_Un_unmix_82 hY C hr ho1 ho2 H20 ih h
def L_Un_unmix_20 (o1 : Nat) (o2 : Nat) (K : Sg → Prop) : Nat → Int32 → Int32 → Sg → Prop
  | 0, _, _, _ => False
  | n + 1, v3, v4, σ =>
    (((σ o1 5) ≤ v4 → K σ) ∧ (¬ (σ o1 5) ≤ v4 → w_Un_bestSet o1 v4 v3 σ (fun u34 => w_Un_mixBehind o1 v3 u34 σ (fun u44 => (∃ n5 : Nat, L_Un_unmix_51 o1 o2 u44 v4 u34 K (fun a0 a1 a2 => L_Un_unmix_20 o1 o2 K n a0 a1 a2) n5 (0 : Int32) σ)))))
theorem t_Un_unmix_20 {X : Bx} {Y : Yx} {o1 : Nat} {o2 : Nat} {K : Sg → Prop}  (hY : YD Y) (C : Cx X Y prog_7_method_2_code 7 "LoadCycles$Unmixer" 3 85) (hr : (xh X).sig.returnType = none) (ho1 : kd o1 = 2) (ho2 : kd o2 = 0) : ∀ (n : Nat) (v3 : Int32) (v4 : Int32) (σ : Sg), L_Un_unmix_20 o1 o2 K n v3 v4 σ → St X Y 7 (QV X Y K) 20 [(0, .ref (ya Y 22)), (1, .ref (ya Y o1)), (2, .ref (ya Y o2)), (3, .int v3), (4, .int v4)] [] σ := by
  intro n
  induction n with
  | zero => intro v3 v4 σ h; exact h.elim
  | succ n ih =>
    intro v3 v4 σ h
    unfold L_Un_unmix_20 at h
    refine q_iload (pc := 20) C d_Un_unmix_20 4 rfl ?_
    refine q_aload_n (pc := 22) C d_Un_unmix_22 rfl 1 rfl ?_
    refine q_get (pc := 23) (c := o1) (ci := 2) (k := 5) (v := .int (σ o1 5)) C ho1 (by decide) (by decide) wd_104 rfl d_Un_unmix_23 ?_
    obtain ⟨h6, h7⟩ := h
    refine q_icmp_ge (pc := 26) 97 C d_Un_unmix_26 (by decide) (fun hc => ?_) (fun hc => ?_)
    · have h := h6 hc
      exact q_vret (pc := 97) C hr d_Un_unmix_97 h
    have h := h7 hc
    refine q_aload_n (pc := 29) C d_Un_unmix_29 rfl 0 rfl ?_
    refine q_aload_n (pc := 30) C d_Un_unmix_30 rfl 1 rfl ?_
    refine q_iload (pc := 31) C d_Un_unmix_31 4 rfl ?_
    refine q_iload_n (pc := 33) C d_Un_unmix_33 rfl 3 rfl ?_
    refine q_callVIr (pc := 34) (st := []) (d := 22) C (m_Un_bestSet hY ho1 h) mi_Un_bestSet rfl (by decide) rfl wd_471 rfl rfl (Nat.le_of_ble_eq_true rfl) (by decide) (by decide) d_Un_unmix_34 (fun u34 h => ?_)
    refine q_istore (pc := 37) [(5, .int u34), (0, .ref (ya Y 22)), (1, .ref (ya Y o1)), (2, .ref (ya Y o2)), (3, .int v3), (4, .int v4)] C d_Un_unmix_37 (by decide) rfl ?_
    refine q_aload_n (pc := 39) C d_Un_unmix_39 rfl 1 rfl ?_
    refine q_aload_n (pc := 40) C d_Un_unmix_40 rfl 2 rfl ?_
    refine q_iload_n (pc := 41) C d_Un_unmix_41 rfl 4 rfl ?_
    refine q_iload (pc := 42) C d_Un_unmix_42 0 rfl ?_
    refine q_callVIr (pc := 44) (st := []) (d := 22) C (m_Un_mixBehind hY ho1 h) mi_Un_mixBehind rfl (by decide) rfl wd_475 rfl rfl (Nat.le_of_ble_eq_true rfl) (by decide) (by decide) d_Un_unmix_44 (fun u44 h => ?_)
    refine q_istore_n (pc := 47) [(3, .int u44), (5, .int u34), (0, .ref (ya Y 22)), (1, .ref (ya Y o1)), (2, .ref (ya Y o2)), (4, .int v4)] C d_Un_unmix_47 rfl (by decide) rfl ?_
    refine q_iconst (pc := 48) (v := 0) C d_Un_unmix_48 (by decide) ?_
    refine q_istore (pc := 49) [(6, .int (0 : Int32)), (3, .int u44), (5, .int u34), (0, .ref (ya Y 22)), (1, .ref (ya Y o1)), (2, .ref (ya Y o2)), (4, .int v4)] C d_Un_unmix_49 (by decide) rfl ?_
    obtain ⟨n5, h⟩ := h
    refine q_sub [(0, .ref (ya Y 22)), (1, .ref (ya Y o1)), (2, .ref (ya Y o2)), (3, .int u44), (4, .int v4), (5, .int u34), (6, .int (0 : Int32))] [3, 4, 5, 1, 6, 2, 0] rfl ?_
    exact t_Un_unmix_51 hY C hr ho1 ho2 ih n5 (0 : Int32) σ h
def w_Un_unmix (o1 : Nat) (o2 : Nat) (σ : Sg) (K : Sg → Prop) : Prop :=
  w_Un_listMixes o1 σ (fun τ2 => w_Un_findCosts o1 τ2 (fun τ7 => w_Do_begin o2 o1 τ7 (fun τ12 => (∃ n8 : Nat, L_Un_unmix_20 o1 o2 K n8 (0 : Int32) (0 : Int32) τ12))))
set_option maxHeartbeats 4000000 in
theorem m_Un_unmix {Y : Yx} {o1 : Nat} {o2 : Nat} {σ : Sg} {K : Sg → Prop} (hY : YD Y) (ho1 : kd o1 = 2) (ho2 : kd o2 = 0) (h : w_Un_unmix o1 o2 σ K) : MetV Y y_Un_unmix prog_7_method_2_code 7 3 85 [.ref (ya Y 22), .ref (ya Y o1), .ref (ya Y o2)] σ K := by
  refine met_V [(0, .ref (ya Y 22)), (1, .ref (ya Y o1)), (2, .ref (ya Y o2))] hY (by decide) (Nat.le_of_ble_eq_true rfl) rfl (fun X C hr => ?_)
  unfold w_Un_unmix at h
  refine q_aload_n (pc := 0) C d_Un_unmix_0 rfl 0 rfl ?_
  refine q_aload_n (pc := 1) C d_Un_unmix_1 rfl 1 rfl ?_
  refine q_callVV (pc := 2) (st := []) (d := 22) C (m_Un_listMixes hY ho1 h) mi_Un_listMixes rfl (by decide) rfl wd_429 rfl rfl (Nat.le_of_ble_eq_true rfl) (by decide) (by decide) d_Un_unmix_2 (fun τ2 h => ?_)
  refine q_aload_n (pc := 5) C d_Un_unmix_5 rfl 0 rfl ?_
  refine q_aload_n (pc := 6) C d_Un_unmix_6 rfl 1 rfl ?_
  refine q_callVV (pc := 7) (st := []) (d := 22) C (m_Un_findCosts hY ho1 h) mi_Un_findCosts rfl (by decide) rfl wd_446 rfl rfl (Nat.le_of_ble_eq_true rfl) (by decide) (by decide) d_Un_unmix_7 (fun τ7 h => ?_)
  refine q_aload_n (pc := 10) C d_Un_unmix_10 rfl 2 rfl ?_
  refine q_aload_n (pc := 11) C d_Un_unmix_11 rfl 1 rfl ?_
  refine q_callVV (pc := 12) (st := []) (d := o2) C (m_Do_begin hY ho2 ho1 h) mi_Do_begin ho2 (by decide) rfl wd_462 rfl rfl (Nat.le_of_ble_eq_true rfl) (by decide) (by decide) d_Un_unmix_12 (fun τ12 h => ?_)
  refine q_iconst (pc := 15) (v := 0) C d_Un_unmix_15 (by decide) ?_
  refine q_istore_n (pc := 16) [(3, .int (0 : Int32)), (0, .ref (ya Y 22)), (1, .ref (ya Y o1)), (2, .ref (ya Y o2))] C d_Un_unmix_16 rfl (by decide) rfl ?_
  refine q_iconst (pc := 17) (v := 0) C d_Un_unmix_17 (by decide) ?_
  refine q_istore (pc := 18) [(4, .int (0 : Int32)), (3, .int (0 : Int32)), (0, .ref (ya Y 22)), (1, .ref (ya Y o1)), (2, .ref (ya Y o2))] C d_Un_unmix_18 (by decide) rfl ?_
  obtain ⟨n8, h⟩ := h
  refine q_sub [(0, .ref (ya Y 22)), (1, .ref (ya Y o1)), (2, .ref (ya Y o2)), (3, .int (0 : Int32)), (4, .int (0 : Int32))] [2, 3, 4, 1, 0] rfl ?_
  exact t_Un_unmix_20 hY C hr ho1 ho2 n8 (0 : Int32) (0 : Int32) τ12 h
theorem d_Lc_knownBest_0 : decode prog_1_method_41_code 0 = .ok (.aload_n 0, 1) := by decide +kernel
theorem d_Lc_knownBest_1 : decode prog_1_method_41_code 1 = .ok (.getfield 263, 3) := by decide +kernel
theorem d_Lc_knownBest_4 : decode prog_1_method_41_code 4 = .ok (.ifCond .ne 23, 3) := by decide +kernel
theorem d_Lc_knownBest_7 : decode prog_1_method_41_code 7 = .ok (.aload_n 0, 1) := by decide +kernel
theorem d_Lc_knownBest_8 : decode prog_1_method_41_code 8 = .ok (.getfield 34, 3) := by decide +kernel
theorem d_Lc_knownBest_11 : decode prog_1_method_41_code 11 = .ok (.aload_n 0, 1) := by decide +kernel
theorem d_Lc_knownBest_12 : decode prog_1_method_41_code 12 = .ok (.getfield 12, 3) := by decide +kernel
theorem d_Lc_knownBest_15 : decode prog_1_method_41_code 15 = .ok (.aload_n 0, 1) := by decide +kernel
theorem d_Lc_knownBest_16 : decode prog_1_method_41_code 16 = .ok (.getfield 24, 3) := by decide +kernel
theorem d_Lc_knownBest_19 : decode prog_1_method_41_code 19 = .ok (.invokevirtual 270, 3) := by decide +kernel
theorem d_Lc_knownBest_22 : decode prog_1_method_41_code 22 = .ok (.aload_n 0, 1) := by decide +kernel
theorem d_Lc_knownBest_23 : decode prog_1_method_41_code 23 = .ok (.iconst 1, 1) := by decide +kernel
theorem d_Lc_knownBest_24 : decode prog_1_method_41_code 24 = .ok (.putfield 263, 3) := by decide +kernel
theorem d_Lc_knownBest_27 : decode prog_1_method_41_code 27 = .ok (.aload_n 0, 1) := by decide +kernel
theorem d_Lc_knownBest_28 : decode prog_1_method_41_code 28 = .ok (.getfield 24, 3) := by decide +kernel
theorem d_Lc_knownBest_31 : decode prog_1_method_41_code 31 = .ok (.areturn, 1) := by decide +kernel
abbrev y_Lc_knownBest : MethodName := ⟨"LoadCycles", "knownBest", "()LLoadCycles$Doing;"⟩
theorem mi_Lc_knownBest : miV y_Lc_knownBest prog_1_method_41_code 1 (some (.object "LoadCycles$Doing")) 0 := ⟨wd_423, wd_8, wd_65, wd_424, by decide, by decide, by decide +kernel⟩
def B_Lc_knownBest_27 (K : Nat → Sg → Prop)  (σ : Sg) : Prop :=
  K 16 σ
theorem t_Lc_knownBest_27 {X : Bx} {Y : Yx}  {K : Nat → Sg → Prop}  (hY : YD Y) (C : Cx X Y prog_1_method_41_code 1 "LoadCycles" 4 111) (hr : (xh X).sig.returnType = some (.object "LoadCycles$Doing"))   {σ : Sg} (h : B_Lc_knownBest_27 K σ) : St X Y 1 (QR X Y K) 27 [(0, .ref (ya Y 0))] [] σ := by
  unfold B_Lc_knownBest_27 at h
  refine q_aload_n (pc := 27) C d_Lc_knownBest_27 rfl 0 rfl ?_
  refine q_get (pc := 28) (c := 0) (ci := 6) (k := 2) (v := .ref (ya Y 16)) C rfl (by decide) (by decide) wd_232 rfl d_Lc_knownBest_28 ?_
  exact q_aret (pc := 31) C hr d_Lc_knownBest_31 h
def w_Lc_knownBest  (σ : Sg) (K : Nat → Sg → Prop) : Prop :=
  ((¬ (σ 0 11) = 0 → B_Lc_knownBest_27 K σ) ∧ ((σ 0 11) = 0 → w_Un_unmix 1 16 σ (fun τ19 => (∀ τ24 : Sg, τ24 = s2 τ19 0 11 (1 : Int32) → B_Lc_knownBest_27 K τ24))))
set_option maxHeartbeats 4000000 in
theorem m_Lc_knownBest {Y : Yx}  {σ : Sg} {K : Nat → Sg → Prop} (hY : YD Y)  (h : w_Lc_knownBest σ K) : MetR Y y_Lc_knownBest prog_1_method_41_code 1 ((.object "LoadCycles$Doing")) 4 111 [.ref (ya Y 0)] σ K := by
  refine met_R [(0, .ref (ya Y 0))] hY (by decide) (Nat.le_of_ble_eq_true rfl) rfl (fun X C hr => ?_)
  unfold w_Lc_knownBest at h
  refine q_aload_n (pc := 0) C d_Lc_knownBest_0 rfl 0 rfl ?_
  refine q_get (pc := 1) (c := 0) (ci := 6) (k := 11) (v := .int (σ 0 11)) C rfl (by decide) (by decide) wd_241 rfl d_Lc_knownBest_1 ?_
  obtain ⟨h1, h2⟩ := h
  refine q_if_ne (pc := 4) 27 C d_Lc_knownBest_4 (by decide) (fun hc => ?_) (fun hc => ?_)
  · have h := h1 hc
    exact t_Lc_knownBest_27 hY C hr h
  have h := h2 hc
  refine q_aload_n (pc := 7) C d_Lc_knownBest_7 rfl 0 rfl ?_
  refine q_get (pc := 8) (c := 0) (ci := 6) (k := 4) (v := .ref (ya Y 22)) C rfl (by decide) (by decide) wd_234 rfl d_Lc_knownBest_8 ?_
  refine q_aload_n (pc := 11) C d_Lc_knownBest_11 rfl 0 rfl ?_
  refine q_get (pc := 12) (c := 0) (ci := 6) (k := 0) (v := .ref (ya Y 1)) C rfl (by decide) (by decide) wd_230 rfl d_Lc_knownBest_12 ?_
  refine q_aload_n (pc := 15) C d_Lc_knownBest_15 rfl 0 rfl ?_
  refine q_get (pc := 16) (c := 0) (ci := 6) (k := 2) (v := .ref (ya Y 16)) C rfl (by decide) (by decide) wd_232 rfl d_Lc_knownBest_16 ?_
  refine q_callVV (pc := 19) (st := []) (d := 22) C (m_Un_unmix hY rfl rfl h) mi_Un_unmix rfl (by decide) rfl wd_425 rfl rfl (Nat.le_of_ble_eq_true rfl) (by decide) (by decide) d_Lc_knownBest_19 (fun τ19 h => ?_)
  refine q_aload_n (pc := 22) C d_Lc_knownBest_22 rfl 0 rfl ?_
  refine q_iconst (pc := 23) (v := 1) C d_Lc_knownBest_23 (by decide) ?_
  refine q_put (pc := 24) (c := 0) (ci := 6) (k := 11) C rfl (by decide) (by decide) wd_241 rfl rfl rfl fs_6_11 d_Lc_knownBest_24 ?_
  refine q_nms (fun τ24 eτ24 => ?_)
  replace h := h τ24 eτ24
  exact t_Lc_knownBest_27 hY C hr h
theorem d_Lc_at_0 : decode prog_1_method_8_code 0 = .ok (.aload_n 0, 1) := by decide +kernel
theorem d_Lc_at_1 : decode prog_1_method_8_code 1 = .ok (.getfield 12, 3) := by decide +kernel
theorem d_Lc_at_4 : decode prog_1_method_8_code 4 = .ok (.iload_n 1, 1) := by decide +kernel
theorem d_Lc_at_5 : decode prog_1_method_8_code 5 = .ok (.invokevirtual 160, 3) := by decide +kernel
theorem d_Lc_at_8 : decode prog_1_method_8_code 8 = .ok (.ifCond .eq 14, 3) := by decide +kernel
theorem d_Lc_at_11 : decode prog_1_method_8_code 11 = .ok (.aload_n 0, 1) := by decide +kernel
theorem d_Lc_at_12 : decode prog_1_method_8_code 12 = .ok (.getfield 12, 3) := by decide +kernel
theorem d_Lc_at_15 : decode prog_1_method_8_code 15 = .ok (.iload_n 2, 1) := by decide +kernel
theorem d_Lc_at_16 : decode prog_1_method_8_code 16 = .ok (.invokevirtual 108, 3) := by decide +kernel
theorem d_Lc_at_19 : decode prog_1_method_8_code 19 = .ok (.ifCond .ne 5, 3) := by decide +kernel
theorem d_Lc_at_22 : decode prog_1_method_8_code 22 = .ok (.iconst (-1), 1) := by decide +kernel
theorem d_Lc_at_23 : decode prog_1_method_8_code 23 = .ok (.ireturn, 1) := by decide +kernel
theorem d_Lc_at_24 : decode prog_1_method_8_code 24 = .ok (.aload_n 0, 1) := by decide +kernel
theorem d_Lc_at_25 : decode prog_1_method_8_code 25 = .ok (.invokevirtual 169, 3) := by decide +kernel
theorem d_Lc_at_28 : decode prog_1_method_8_code 28 = .ok (.iload_n 1, 1) := by decide +kernel
theorem d_Lc_at_29 : decode prog_1_method_8_code 29 = .ok (.iload_n 2, 1) := by decide +kernel
theorem d_Lc_at_30 : decode prog_1_method_8_code 30 = .ok (.invokevirtual 173, 3) := by decide +kernel
theorem d_Lc_at_33 : decode prog_1_method_8_code 33 = .ok (.ireturn, 1) := by decide +kernel
abbrev y_Lc_at : MethodName := ⟨"LoadCycles", "at", "(II)I"⟩
theorem mi_Lc_at : miV y_Lc_at prog_1_method_8_code 3 (some .int) 2 := ⟨wd_418, wd_419, wd_65, wd_420, by decide, by decide, by decide +kernel⟩
def w_Lc_at (x1 : Int32) (x2 : Int32) (σ : Sg) (K : Int32 → Sg → Prop) : Prop :=
  w_Ho_hasTime 1 x1 σ (fun u5 => ((u5 = 0 → K (-1 : Int32) σ) ∧ (¬ u5 = 0 → w_Ho_hasAppliance 1 x2 σ (fun u16 => ((¬ u16 = 0 → w_Lc_knownBest σ (fun u25 τ25 => (kd u25 = 0 ∧ w_Do_stateOf u25 x1 x2 τ25 (fun u30 => K u30 τ25)))) ∧ (u16 = 0 → K (-1 : Int32) σ))))))
set_option maxHeartbeats 4000000 in
theorem m_Lc_at {Y : Yx} {x1 : Int32} {x2 : Int32} {σ : Sg} {K : Int32 → Sg → Prop} (hY : YD Y)  (h : w_Lc_at x1 x2 σ K) : MetI Y y_Lc_at prog_1_method_8_code 3 (.int) 5 131 [.ref (ya Y 0), .int x1, .int x2] σ K := by
  refine met_I [(0, .ref (ya Y 0)), (1, .int x1), (2, .int x2)] hY (by decide) (Nat.le_of_ble_eq_true rfl) rfl (fun X C hr => ?_)
  unfold w_Lc_at at h
  refine q_aload_n (pc := 0) C d_Lc_at_0 rfl 0 rfl ?_
  refine q_get (pc := 1) (c := 0) (ci := 6) (k := 0) (v := .ref (ya Y 1)) C rfl (by decide) (by decide) wd_230 rfl d_Lc_at_1 ?_
  refine q_iload_n (pc := 4) C d_Lc_at_4 rfl 1 rfl ?_
  refine q_callVIr (pc := 5) (st := []) (d := 1) C (m_Ho_hasTime hY rfl h) mi_Ho_hasTime rfl (by decide) rfl wd_402 rfl rfl (Nat.le_of_ble_eq_true rfl) (by decide) (by decide) d_Lc_at_5 (fun u5 h => ?_)
  obtain ⟨h4, h5⟩ := h
  refine q_if_eq (pc := 8) 22 C d_Lc_at_8 (by decide) (fun hc => ?_) (fun hc => ?_)
  · have h := h4 hc
    refine q_iconst (pc := 22) (v := -1) C d_Lc_at_22 (by decide) ?_
    exact q_iret (pc := 23) C hr d_Lc_at_23 h
  have h := h5 hc
  refine q_aload_n (pc := 11) C d_Lc_at_11 rfl 0 rfl ?_
  refine q_get (pc := 12) (c := 0) (ci := 6) (k := 0) (v := .ref (ya Y 1)) C rfl (by decide) (by decide) wd_230 rfl d_Lc_at_12 ?_
  refine q_iload_n (pc := 15) C d_Lc_at_15 rfl 2 rfl ?_
  refine q_callVIr (pc := 16) (st := []) (d := 1) C (m_Ho_hasAppliance hY rfl h) mi_Ho_hasAppliance rfl (by decide) rfl wd_357 rfl rfl (Nat.le_of_ble_eq_true rfl) (by decide) (by decide) d_Lc_at_16 (fun u16 h => ?_)
  obtain ⟨h2, h3⟩ := h
  refine q_if_ne (pc := 19) 24 C d_Lc_at_19 (by decide) (fun hc => ?_) (fun hc => ?_)
  · have h := h2 hc
    refine q_aload_n (pc := 24) C d_Lc_at_24 rfl 0 rfl ?_
    refine q_callVR (pc := 25) (st := []) (d := 0) C (m_Lc_knownBest hY h) mi_Lc_knownBest rfl (by decide) rfl wd_421 rfl rfl (Nat.le_of_ble_eq_true rfl) (by decide) (by decide) d_Lc_at_25 (fun u25 τ25 h => ?_)
    obtain ⟨h1, h⟩ := h
    refine q_iload_n (pc := 28) C d_Lc_at_28 rfl 1 rfl ?_
    refine q_iload_n (pc := 29) C d_Lc_at_29 rfl 2 rfl ?_
    refine q_callVIr (pc := 30) (st := []) (d := u25) C (m_Do_stateOf hY h1 h) mi_Do_stateOf h1 (by decide) rfl wd_499 rfl rfl (Nat.le_of_ble_eq_true rfl) (by decide) (by decide) d_Lc_at_30 (fun u30 h => ?_)
    exact q_iret (pc := 33) C hr d_Lc_at_33 h
  have h := h3 hc
  refine q_iconst (pc := 22) (v := -1) C d_Lc_at_22 (by decide) ?_
  exact q_iret (pc := 23) C hr d_Lc_at_23 h
theorem d_Lc_rest_0 : decode prog_1_method_9_code 0 = .ok (.aload_n 0, 1) := by decide +kernel
theorem d_Lc_rest_1 : decode prog_1_method_9_code 1 = .ok (.getfield 12, 3) := by decide +kernel
theorem d_Lc_rest_4 : decode prog_1_method_9_code 4 = .ok (.iload_n 1, 1) := by decide +kernel
theorem d_Lc_rest_5 : decode prog_1_method_9_code 5 = .ok (.invokevirtual 160, 3) := by decide +kernel
theorem d_Lc_rest_8 : decode prog_1_method_9_code 8 = .ok (.ifCond .ne 5, 3) := by decide +kernel
theorem d_Lc_rest_11 : decode prog_1_method_9_code 11 = .ok (.iconst (-1), 1) := by decide +kernel
theorem d_Lc_rest_12 : decode prog_1_method_9_code 12 = .ok (.ireturn, 1) := by decide +kernel
theorem d_Lc_rest_13 : decode prog_1_method_9_code 13 = .ok (.aload_n 0, 1) := by decide +kernel
theorem d_Lc_rest_14 : decode prog_1_method_9_code 14 = .ok (.invokevirtual 169, 3) := by decide +kernel
theorem d_Lc_rest_17 : decode prog_1_method_9_code 17 = .ok (.astore_n 2, 1) := by decide +kernel
theorem d_Lc_rest_18 : decode prog_1_method_9_code 18 = .ok (.aload_n 0, 1) := by decide +kernel
theorem d_Lc_rest_19 : decode prog_1_method_9_code 19 = .ok (.getfield 12, 3) := by decide +kernel
theorem d_Lc_rest_22 : decode prog_1_method_9_code 22 = .ok (.getfield 148, 3) := by decide +kernel
theorem d_Lc_rest_25 : decode prog_1_method_9_code 25 = .ok (.iload_n 1, 1) := by decide +kernel
theorem d_Lc_rest_26 : decode prog_1_method_9_code 26 = .ok (.iaload, 1) := by decide +kernel
theorem d_Lc_rest_27 : decode prog_1_method_9_code 27 = .ok (.aload_n 0, 1) := by decide +kernel
theorem d_Lc_rest_28 : decode prog_1_method_9_code 28 = .ok (.getfield 12, 3) := by decide +kernel
theorem d_Lc_rest_31 : decode prog_1_method_9_code 31 = .ok (.getfield 145, 3) := by decide +kernel
theorem d_Lc_rest_34 : decode prog_1_method_9_code 34 = .ok (.isub, 1) := by decide +kernel
theorem d_Lc_rest_35 : decode prog_1_method_9_code 35 = .ok (.istore_n 3, 1) := by decide +kernel
theorem d_Lc_rest_36 : decode prog_1_method_9_code 36 = .ok (.iconst 0, 1) := by decide +kernel
theorem d_Lc_rest_37 : decode prog_1_method_9_code 37 = .ok (.istore 4, 2) := by decide +kernel
theorem d_Lc_rest_39 : decode prog_1_method_9_code 39 = .ok (.iload 4, 2) := by decide +kernel
theorem d_Lc_rest_41 : decode prog_1_method_9_code 41 = .ok (.aload_n 0, 1) := by decide +kernel
theorem d_Lc_rest_42 : decode prog_1_method_9_code 42 = .ok (.getfield 12, 3) := by decide +kernel
theorem d_Lc_rest_45 : decode prog_1_method_9_code 45 = .ok (.getfield 105, 3) := by decide +kernel
theorem d_Lc_rest_48 : decode prog_1_method_9_code 48 = .ok (.if_icmp .ge 28, 3) := by decide +kernel
theorem d_Lc_rest_51 : decode prog_1_method_9_code 51 = .ok (.iload_n 3, 1) := by decide +kernel
theorem d_Lc_rest_52 : decode prog_1_method_9_code 52 = .ok (.aload_n 0, 1) := by decide +kernel
theorem d_Lc_rest_53 : decode prog_1_method_9_code 53 = .ok (.getfield 12, 3) := by decide +kernel
theorem d_Lc_rest_56 : decode prog_1_method_9_code 56 = .ok (.iload 4, 2) := by decide +kernel
theorem d_Lc_rest_58 : decode prog_1_method_9_code 58 = .ok (.aload_n 2, 1) := by decide +kernel
theorem d_Lc_rest_59 : decode prog_1_method_9_code 59 = .ok (.iload_n 1, 1) := by decide +kernel
theorem d_Lc_rest_60 : decode prog_1_method_9_code 60 = .ok (.iload 4, 2) := by decide +kernel
theorem d_Lc_rest_62 : decode prog_1_method_9_code 62 = .ok (.invokevirtual 173, 3) := by decide +kernel
theorem d_Lc_rest_65 : decode prog_1_method_9_code 65 = .ok (.invokevirtual 176, 3) := by decide +kernel
theorem d_Lc_rest_68 : decode prog_1_method_9_code 68 = .ok (.isub, 1) := by decide +kernel
theorem d_Lc_rest_69 : decode prog_1_method_9_code 69 = .ok (.istore_n 3, 1) := by decide +kernel
theorem d_Lc_rest_70 : decode prog_1_method_9_code 70 = .ok (.iinc 4 1, 3) := by decide +kernel
theorem d_Lc_rest_73 : decode prog_1_method_9_code 73 = .ok (.goto (-34), 3) := by decide +kernel
theorem d_Lc_rest_76 : decode prog_1_method_9_code 76 = .ok (.iload_n 3, 1) := by decide +kernel
theorem d_Lc_rest_77 : decode prog_1_method_9_code 77 = .ok (.ireturn, 1) := by decide +kernel
abbrev y_Lc_rest : MethodName := ⟨"LoadCycles", "rest", "(I)I"⟩
theorem mi_Lc_rest : miV y_Lc_rest prog_1_method_9_code 5 (some .int) 1 := ⟨wd_501, wd_502, wd_65, wd_503, by decide, by decide, by decide +kernel⟩
def L_Lc_rest_39 (x1 : Int32) (c2 : Nat) (K : Int32 → Sg → Prop) : Nat → Int32 → Int32 → Sg → Prop
  | 0, _, _, _ => False
  | n + 1, v3, v4, σ =>
    (((σ 1 4) ≤ v4 → K v3 σ) ∧ (¬ (σ 1 4) ≤ v4 → w_Do_stateOf c2 x1 v4 σ (fun u62 => w_Ho_powerIn 1 v4 u62 σ (fun u65 => (∀ y3_69 : Int32, y3_69 = (v3 - u65) → L_Lc_rest_39 x1 c2 K n y3_69 (v4 + (1 : Int32)) σ)))))
theorem t_Lc_rest_39 {X : Bx} {Y : Yx} {x1 : Int32} {c2 : Nat} {K : Int32 → Sg → Prop}  (hY : YD Y) (C : Cx X Y prog_1_method_9_code 5 "LoadCycles" 5 131) (hr : (xh X).sig.returnType = some .int) (hkc2 : kd c2 = 0) : ∀ (n : Nat) (v3 : Int32) (v4 : Int32) (σ : Sg), L_Lc_rest_39 x1 c2 K n v3 v4 σ → St X Y 5 (QI X Y K) 39 [(0, .ref (ya Y 0)), (1, .int x1), (2, .ref (ya Y c2)), (3, .int v3), (4, .int v4)] [] σ := by
  intro n
  induction n with
  | zero => intro v3 v4 σ h; exact h.elim
  | succ n ih =>
    intro v3 v4 σ h
    unfold L_Lc_rest_39 at h
    refine q_iload (pc := 39) C d_Lc_rest_39 4 rfl ?_
    refine q_aload_n (pc := 41) C d_Lc_rest_41 rfl 0 rfl ?_
    refine q_get (pc := 42) (c := 0) (ci := 6) (k := 0) (v := .ref (ya Y 1)) C rfl (by decide) (by decide) wd_230 rfl d_Lc_rest_42 ?_
    refine q_get (pc := 45) (c := 1) (ci := 2) (k := 4) (v := .int (σ 1 4)) C rfl (by decide) (by decide) wd_103 rfl d_Lc_rest_45 ?_
    obtain ⟨h3, h4⟩ := h
    refine q_icmp_ge (pc := 48) 76 C d_Lc_rest_48 (by decide) (fun hc => ?_) (fun hc => ?_)
    · have h := h3 hc
      refine q_iload_n (pc := 76) C d_Lc_rest_76 rfl 3 rfl ?_
      exact q_iret (pc := 77) C hr d_Lc_rest_77 h
    have h := h4 hc
    refine q_iload_n (pc := 51) C d_Lc_rest_51 rfl 3 rfl ?_
    refine q_aload_n (pc := 52) C d_Lc_rest_52 rfl 0 rfl ?_
    refine q_get (pc := 53) (c := 0) (ci := 6) (k := 0) (v := .ref (ya Y 1)) C rfl (by decide) (by decide) wd_230 rfl d_Lc_rest_53 ?_
    refine q_iload (pc := 56) C d_Lc_rest_56 4 rfl ?_
    refine q_aload_n (pc := 58) C d_Lc_rest_58 rfl 2 rfl ?_
    refine q_iload_n (pc := 59) C d_Lc_rest_59 rfl 1 rfl ?_
    refine q_iload (pc := 60) C d_Lc_rest_60 4 rfl ?_
    refine q_callVIr (pc := 62) (st := [.int v4, .ref (ya Y 1), .int v3]) (d := c2) C (m_Do_stateOf hY hkc2 h) mi_Do_stateOf hkc2 (by decide) rfl wd_499 rfl rfl (Nat.le_of_ble_eq_true rfl) (by decide) (by decide) d_Lc_rest_62 (fun u62 h => ?_)
    refine q_callVIr (pc := 65) (st := [.int v3]) (d := 1) C (m_Ho_powerIn hY rfl h) mi_Ho_powerIn rfl (by decide) rfl wd_504 rfl rfl (Nat.le_of_ble_eq_true rfl) (by decide) (by decide) d_Lc_rest_65 (fun u65 h => ?_)
    refine q_isub (pc := 68) C d_Lc_rest_68 ?_
    refine q_nmi (fun y3_69 ey3_69 => ?_)
    replace h := h y3_69 ey3_69
    refine q_istore_n (pc := 69) [(3, .int y3_69), (0, .ref (ya Y 0)), (1, .int x1), (2, .ref (ya Y c2)), (4, .int v4)] C d_Lc_rest_69 rfl (by decide) rfl ?_
    refine q_iinc (pc := 70) (v4 + (1 : Int32)) [(4, .int (v4 + (1 : Int32))), (3, .int y3_69), (0, .ref (ya Y 0)), (1, .int x1), (2, .ref (ya Y c2))] C d_Lc_rest_70 4 rfl rfl (by decide) rfl ?_
    refine q_goto (pc := 73) 39 C d_Lc_rest_73 (by decide) ?_
    refine q_sub [(0, .ref (ya Y 0)), (1, .int x1), (2, .ref (ya Y c2)), (3, .int y3_69), (4, .int (v4 + (1 : Int32)))] [2, 3, 4, 1, 0] rfl ?_
    exact ih y3_69 (v4 + (1 : Int32)) σ h
def w_Lc_rest (x1 : Int32) (σ : Sg) (K : Int32 → Sg → Prop) : Prop :=
  w_Ho_hasTime 1 x1 σ (fun u5 => ((¬ u5 = 0 → w_Lc_knownBest σ (fun u14 τ14 => (kd u14 = 0 ∧ (vp_in x1 20 ∧ (∀ y3_35 : Int32, y3_35 = ((τ14 5 x1.toNatClampNeg) - (τ14 1 6)) → (∃ n5 : Nat, L_Lc_rest_39 x1 u14 K n5 y3_35 (0 : Int32) τ14)))))) ∧ (u5 = 0 → K (-1 : Int32) σ)))
set_option maxHeartbeats 4000000 in
theorem m_Lc_rest {Y : Yx} {x1 : Int32} {σ : Sg} {K : Int32 → Sg → Prop} (hY : YD Y)  (h : w_Lc_rest x1 σ K) : MetI Y y_Lc_rest prog_1_method_9_code 5 (.int) 5 131 [.ref (ya Y 0), .int x1] σ K := by
  refine met_I [(0, .ref (ya Y 0)), (1, .int x1)] hY (by decide) (Nat.le_of_ble_eq_true rfl) rfl (fun X C hr => ?_)
  unfold w_Lc_rest at h
  refine q_aload_n (pc := 0) C d_Lc_rest_0 rfl 0 rfl ?_
  refine q_get (pc := 1) (c := 0) (ci := 6) (k := 0) (v := .ref (ya Y 1)) C rfl (by decide) (by decide) wd_230 rfl d_Lc_rest_1 ?_
  refine q_iload_n (pc := 4) C d_Lc_rest_4 rfl 1 rfl ?_
  refine q_callVIr (pc := 5) (st := []) (d := 1) C (m_Ho_hasTime hY rfl h) mi_Ho_hasTime rfl (by decide) rfl wd_402 rfl rfl (Nat.le_of_ble_eq_true rfl) (by decide) (by decide) d_Lc_rest_5 (fun u5 h => ?_)
  obtain ⟨h6, h7⟩ := h
  refine q_if_ne (pc := 8) 13 C d_Lc_rest_8 (by decide) (fun hc => ?_) (fun hc => ?_)
  · have h := h6 hc
    refine q_aload_n (pc := 13) C d_Lc_rest_13 rfl 0 rfl ?_
    refine q_callVR (pc := 14) (st := []) (d := 0) C (m_Lc_knownBest hY h) mi_Lc_knownBest rfl (by decide) rfl wd_421 rfl rfl (Nat.le_of_ble_eq_true rfl) (by decide) (by decide) d_Lc_rest_14 (fun u14 τ14 h => ?_)
    obtain ⟨h1, h⟩ := h
    refine q_astore_n (pc := 17) [(2, .ref (ya Y u14)), (0, .ref (ya Y 0)), (1, .int x1)] C d_Lc_rest_17 rfl (by decide) rfl ?_
    refine q_aload_n (pc := 18) C d_Lc_rest_18 rfl 1 rfl ?_
    refine q_get (pc := 19) (c := 0) (ci := 6) (k := 0) (v := .ref (ya Y 1)) C rfl (by decide) (by decide) wd_230 rfl d_Lc_rest_19 ?_
    refine q_get (pc := 22) (c := 1) (ci := 2) (k := 3) (v := .ref (ya Y 5)) C rfl (by decide) (by decide) wd_98 rfl d_Lc_rest_22 ?_
    refine q_iload_n (pc := 25) C d_Lc_rest_25 rfl 2 rfl ?_
    obtain ⟨h2, h⟩ := h
    refine q_iald (pc := 26) (c := 5) C ⟨rfl, rfl⟩ h2 d_Lc_rest_26 ?_
    refine q_aload_n (pc := 27) C d_Lc_rest_27 rfl 1 rfl ?_
    refine q_get (pc := 28) (c := 0) (ci := 6) (k := 0) (v := .ref (ya Y 1)) C rfl (by decide) (by decide) wd_230 rfl d_Lc_rest_28 ?_
    refine q_get (pc := 31) (c := 1) (ci := 2) (k := 6) (v := .int (τ14 1 6)) C rfl (by decide) (by decide) wd_110 rfl d_Lc_rest_31 ?_
    refine q_isub (pc := 34) C d_Lc_rest_34 ?_
    refine q_nmi (fun y3_35 ey3_35 => ?_)
    replace h := h y3_35 ey3_35
    refine q_istore_n (pc := 35) [(3, .int y3_35), (2, .ref (ya Y u14)), (0, .ref (ya Y 0)), (1, .int x1)] C d_Lc_rest_35 rfl (by decide) rfl ?_
    refine q_iconst (pc := 36) (v := 0) C d_Lc_rest_36 (by decide) ?_
    refine q_istore (pc := 37) [(4, .int (0 : Int32)), (3, .int y3_35), (2, .ref (ya Y u14)), (0, .ref (ya Y 0)), (1, .int x1)] C d_Lc_rest_37 (by decide) rfl ?_
    obtain ⟨n5, h⟩ := h
    refine q_sub [(0, .ref (ya Y 0)), (1, .int x1), (2, .ref (ya Y u14)), (3, .int y3_35), (4, .int (0 : Int32))] [3, 4, 2, 1, 0] rfl ?_
    exact t_Lc_rest_39 hY C hr h1 n5 y3_35 (0 : Int32) τ14 h
  have h := h7 hc
  refine q_iconst (pc := 11) (v := -1) C d_Lc_rest_11 (by decide) ?_
  exact q_iret (pc := 12) C hr d_Lc_rest_12 h
theorem d_Do_numberOf_0 : decode prog_2_method_4_code 0 = .ok (.iload_n 1, 1) := by decide +kernel
theorem d_Do_numberOf_1 : decode prog_2_method_4_code 1 = .ok (.tableswitch 42 0 2 #[27, 32, 37], 27) := by decide +kernel
theorem d_Do_numberOf_28 : decode prog_2_method_4_code 28 = .ok (.aload_n 0, 1) := by decide +kernel
theorem d_Do_numberOf_29 : decode prog_2_method_4_code 29 = .ok (.getfield 22, 3) := by decide +kernel
theorem d_Do_numberOf_32 : decode prog_2_method_4_code 32 = .ok (.ireturn, 1) := by decide +kernel
theorem d_Do_numberOf_33 : decode prog_2_method_4_code 33 = .ok (.aload_n 0, 1) := by decide +kernel
theorem d_Do_numberOf_34 : decode prog_2_method_4_code 34 = .ok (.getfield 26, 3) := by decide +kernel
theorem d_Do_numberOf_37 : decode prog_2_method_4_code 37 = .ok (.ireturn, 1) := by decide +kernel
theorem d_Do_numberOf_38 : decode prog_2_method_4_code 38 = .ok (.aload_n 0, 1) := by decide +kernel
theorem d_Do_numberOf_39 : decode prog_2_method_4_code 39 = .ok (.getfield 29, 3) := by decide +kernel
theorem d_Do_numberOf_42 : decode prog_2_method_4_code 42 = .ok (.ireturn, 1) := by decide +kernel
theorem d_Do_numberOf_43 : decode prog_2_method_4_code 43 = .ok (.aload_n 0, 1) := by decide +kernel
theorem d_Do_numberOf_44 : decode prog_2_method_4_code 44 = .ok (.getfield 32, 3) := by decide +kernel
theorem d_Do_numberOf_47 : decode prog_2_method_4_code 47 = .ok (.ireturn, 1) := by decide +kernel
abbrev y_Do_numberOf : MethodName := ⟨"LoadCycles$Doing", "numberOf", "(I)I"⟩
theorem mi_Do_numberOf : miV y_Do_numberOf prog_2_method_4_code 2 (some .int) 1 := ⟨wd_510, wd_511, wd_67, wd_512, by decide, by decide, by decide +kernel⟩
def w_Do_numberOf (o : Nat) (x1 : Int32) (σ : Sg) (K : Int32 → Prop) : Prop :=
  ((x1 = (0 : Int32) → K (σ o 3)) ∧ (x1 = (1 : Int32) → K (σ o 4)) ∧ (x1 = (2 : Int32) → K (σ o 5)) ∧ (¬ x1 = (0 : Int32) → ¬ x1 = (1 : Int32) → ¬ x1 = (2 : Int32) → K (σ o 2)))
set_option maxHeartbeats 4000000 in
theorem m_Do_numberOf {Y : Yx} {o : Nat} {x1 : Int32} {σ : Sg} {K : Int32 → Prop} (hY : YD Y) (ho : kd o = 0) (h : w_Do_numberOf o x1 σ K) : MetI Y y_Do_numberOf prog_2_method_4_code 2 (.int) 0 0 [.ref (ya Y o), .int x1] σ (fun r τ => τ = σ ∧ K r) := by
  refine met_I [(0, .ref (ya Y o)), (1, .int x1)] hY (by decide) (Nat.le_of_ble_eq_true rfl) rfl (fun X C hr => ?_)
  unfold w_Do_numberOf at h
  refine q_iload_n (pc := 0) C d_Do_numberOf_0 rfl 1 rfl ?_
  obtain ⟨h2, h4, h6, h7⟩ := h
  by_cases h1 : x1 = (0 : Int32)
  · refine q_tableK (pc := 1) 28 (k := 0) (off := 27) C h1 (by decide) d_Do_numberOf_1 (by decide) (by decide) (by decide) (by decide) ?_
    have h := h2 h1
    refine q_aload_n (pc := 28) C d_Do_numberOf_28 rfl 0 rfl ?_
    refine q_get (pc := 29) (c := o) (ci := 0) (k := 3) (v := .int (σ o 3)) C ho (by decide) (by decide) wd_139 rfl d_Do_numberOf_29 ?_
    exact q_iret (pc := 32) C hr d_Do_numberOf_32 ⟨rfl, h⟩
  by_cases h3 : x1 = (1 : Int32)
  · refine q_tableK (pc := 1) 33 (k := 1) (off := 32) C h3 (by decide) d_Do_numberOf_1 (by decide) (by decide) (by decide) (by decide) ?_
    have h := h4 h3
    refine q_aload_n (pc := 33) C d_Do_numberOf_33 rfl 0 rfl ?_
    refine q_get (pc := 34) (c := o) (ci := 0) (k := 4) (v := .int (σ o 4)) C ho (by decide) (by decide) wd_140 rfl d_Do_numberOf_34 ?_
    exact q_iret (pc := 37) C hr d_Do_numberOf_37 ⟨rfl, h⟩
  by_cases h5 : x1 = (2 : Int32)
  · refine q_tableK (pc := 1) 38 (k := 2) (off := 37) C h5 (by decide) d_Do_numberOf_1 (by decide) (by decide) (by decide) (by decide) ?_
    have h := h6 h5
    refine q_aload_n (pc := 38) C d_Do_numberOf_38 rfl 0 rfl ?_
    refine q_get (pc := 39) (c := o) (ci := 0) (k := 5) (v := .int (σ o 5)) C ho (by decide) (by decide) wd_141 rfl d_Do_numberOf_39 ?_
    exact q_iret (pc := 42) C hr d_Do_numberOf_42 ⟨rfl, h⟩
  refine q_tableOut (pc := 1) 43 C d_Do_numberOf_1 (by have g0 := sw_ne (k := 0) rfl h1; have g1 := sw_ne (k := 1) rfl h3; have g2 := sw_ne (k := 2) rfl h5; omega) (by decide) ?_
  have h := h7 h1 h3 h5
  refine q_aload_n (pc := 43) C d_Do_numberOf_43 rfl 0 rfl ?_
  refine q_get (pc := 44) (c := o) (ci := 0) (k := 2) (v := .int (σ o 2)) C ho (by decide) (by decide) wd_138 rfl d_Do_numberOf_44 ?_
  exact q_iret (pc := 47) C hr d_Do_numberOf_47 ⟨rfl, h⟩
theorem d_Lc_best_0 : decode prog_1_method_10_code 0 = .ok (.iload_n 1, 1) := by decide +kernel
theorem d_Lc_best_1 : decode prog_1_method_10_code 1 = .ok (.ifCond .lt 8, 3) := by decide +kernel
theorem d_Lc_best_4 : decode prog_1_method_10_code 4 = .ok (.iload_n 1, 1) := by decide +kernel
theorem d_Lc_best_5 : decode prog_1_method_10_code 5 = .ok (.iconst 3, 1) := by decide +kernel
theorem d_Lc_best_6 : decode prog_1_method_10_code 6 = .ok (.if_icmp .le 6, 3) := by decide +kernel
theorem d_Lc_best_9 : decode prog_1_method_10_code 9 = .ok (.bipush (-2), 2) := by decide +kernel
theorem d_Lc_best_11 : decode prog_1_method_10_code 11 = .ok (.ireturn, 1) := by decide +kernel
theorem d_Lc_best_12 : decode prog_1_method_10_code 12 = .ok (.aload_n 0, 1) := by decide +kernel
theorem d_Lc_best_13 : decode prog_1_method_10_code 13 = .ok (.invokevirtual 138, 3) := by decide +kernel
theorem d_Lc_best_16 : decode prog_1_method_10_code 16 = .ok (.ifCond .ne 6, 3) := by decide +kernel
theorem d_Lc_best_19 : decode prog_1_method_10_code 19 = .ok (.bipush (-3), 2) := by decide +kernel
theorem d_Lc_best_21 : decode prog_1_method_10_code 21 = .ok (.ireturn, 1) := by decide +kernel
theorem d_Lc_best_22 : decode prog_1_method_10_code 22 = .ok (.aload_n 0, 1) := by decide +kernel
theorem d_Lc_best_23 : decode prog_1_method_10_code 23 = .ok (.invokevirtual 169, 3) := by decide +kernel
theorem d_Lc_best_26 : decode prog_1_method_10_code 26 = .ok (.iload_n 1, 1) := by decide +kernel
theorem d_Lc_best_27 : decode prog_1_method_10_code 27 = .ok (.invokevirtual 179, 3) := by decide +kernel
theorem d_Lc_best_30 : decode prog_1_method_10_code 30 = .ok (.ireturn, 1) := by decide +kernel
abbrev y_Lc_best : MethodName := ⟨"LoadCycles", "best", "(I)I"⟩
theorem mi_Lc_best : miV y_Lc_best prog_1_method_10_code 2 (some .int) 1 := ⟨wd_506, wd_507, wd_65, wd_508, by decide, by decide, by decide +kernel⟩
def w_Lc_best (x1 : Int32) (σ : Sg) (K : Int32 → Sg → Prop) : Prop :=
  ((x1 < 0 → K (-2 : Int32) σ) ∧ (¬ x1 < 0 → ((x1 ≤ (3 : Int32) → w_Lc_hasHouse σ (fun u13 => ((¬ u13 = 0 → w_Lc_knownBest σ (fun u23 τ23 => (kd u23 = 0 ∧ w_Do_numberOf u23 x1 τ23 (fun u27 => K u27 τ23)))) ∧ (u13 = 0 → K (-3 : Int32) σ)))) ∧ (¬ x1 ≤ (3 : Int32) → K (-2 : Int32) σ))))
set_option maxHeartbeats 4000000 in
theorem m_Lc_best {Y : Yx} {x1 : Int32} {σ : Sg} {K : Int32 → Sg → Prop} (hY : YD Y)  (h : w_Lc_best x1 σ K) : MetI Y y_Lc_best prog_1_method_10_code 2 (.int) 5 131 [.ref (ya Y 0), .int x1] σ K := by
  refine met_I [(0, .ref (ya Y 0)), (1, .int x1)] hY (by decide) (Nat.le_of_ble_eq_true rfl) rfl (fun X C hr => ?_)
  unfold w_Lc_best at h
  refine q_iload_n (pc := 0) C d_Lc_best_0 rfl 1 rfl ?_
  obtain ⟨h6, h7⟩ := h
  refine q_if_lt (pc := 1) 9 C d_Lc_best_1 (by decide) (fun hc => ?_) (fun hc => ?_)
  · have h := h6 hc
    refine q_bipush (pc := 9) (v := -2) C d_Lc_best_9 (by decide) ?_
    exact q_iret (pc := 11) C hr d_Lc_best_11 h
  have h := h7 hc
  refine q_iload_n (pc := 4) C d_Lc_best_4 rfl 1 rfl ?_
  refine q_iconst (pc := 5) (v := 3) C d_Lc_best_5 (by decide) ?_
  obtain ⟨h4, h5⟩ := h
  refine q_icmp_le (pc := 6) 12 C d_Lc_best_6 (by decide) (fun hc => ?_) (fun hc => ?_)
  · have h := h4 hc
    refine q_aload_n (pc := 12) C d_Lc_best_12 rfl 0 rfl ?_
    refine q_callVIr (pc := 13) (st := []) (d := 0) C (m_Lc_hasHouse hY h) mi_Lc_hasHouse rfl (by decide) rfl wd_393 rfl rfl (Nat.le_of_ble_eq_true rfl) (by decide) (by decide) d_Lc_best_13 (fun u13 h => ?_)
    obtain ⟨h2, h3⟩ := h
    refine q_if_ne (pc := 16) 22 C d_Lc_best_16 (by decide) (fun hc => ?_) (fun hc => ?_)
    · have h := h2 hc
      refine q_aload_n (pc := 22) C d_Lc_best_22 rfl 0 rfl ?_
      refine q_callVR (pc := 23) (st := []) (d := 0) C (m_Lc_knownBest hY h) mi_Lc_knownBest rfl (by decide) rfl wd_421 rfl rfl (Nat.le_of_ble_eq_true rfl) (by decide) (by decide) d_Lc_best_23 (fun u23 τ23 h => ?_)
      obtain ⟨h1, h⟩ := h
      refine q_iload_n (pc := 26) C d_Lc_best_26 rfl 1 rfl ?_
      refine q_callVIr (pc := 27) (st := []) (d := u23) C (m_Do_numberOf hY h1 h) mi_Do_numberOf h1 (by decide) rfl wd_509 rfl rfl (Nat.le_of_ble_eq_true rfl) (by decide) (by decide) d_Lc_best_27 (fun u27 h => ?_)
      exact q_iret (pc := 30) C hr d_Lc_best_30 h
    have h := h3 hc
    refine q_bipush (pc := 19) (v := -3) C d_Lc_best_19 (by decide) ?_
    exact q_iret (pc := 21) C hr d_Lc_best_21 h
  have h := h5 hc
  refine q_bipush (pc := 9) (v := -2) C d_Lc_best_9 (by decide) ?_
  exact q_iret (pc := 11) C hr d_Lc_best_11 h
theorem d_Lc_energy_0 : decode prog_1_method_11_code 0 = .ok (.aload_n 0, 1) := by decide +kernel
theorem d_Lc_energy_1 : decode prog_1_method_11_code 1 = .ok (.getfield 12, 3) := by decide +kernel
theorem d_Lc_energy_4 : decode prog_1_method_11_code 4 = .ok (.iload_n 1, 1) := by decide +kernel
theorem d_Lc_energy_5 : decode prog_1_method_11_code 5 = .ok (.invokevirtual 108, 3) := by decide +kernel
theorem d_Lc_energy_8 : decode prog_1_method_11_code 8 = .ok (.ifCond .eq 15, 3) := by decide +kernel
theorem d_Lc_energy_11 : decode prog_1_method_11_code 11 = .ok (.aload_n 0, 1) := by decide +kernel
theorem d_Lc_energy_12 : decode prog_1_method_11_code 12 = .ok (.invokevirtual 169, 3) := by decide +kernel
theorem d_Lc_energy_15 : decode prog_1_method_11_code 15 = .ok (.getfield 182, 3) := by decide +kernel
theorem d_Lc_energy_18 : decode prog_1_method_11_code 18 = .ok (.iload_n 1, 1) := by decide +kernel
theorem d_Lc_energy_19 : decode prog_1_method_11_code 19 = .ok (.iaload, 1) := by decide +kernel
theorem d_Lc_energy_20 : decode prog_1_method_11_code 20 = .ok (.goto 4, 3) := by decide +kernel
theorem d_Lc_energy_23 : decode prog_1_method_11_code 23 = .ok (.iconst (-1), 1) := by decide +kernel
theorem d_Lc_energy_24 : decode prog_1_method_11_code 24 = .ok (.ireturn, 1) := by decide +kernel
abbrev y_Lc_energy : MethodName := ⟨"LoadCycles", "energy", "(I)I"⟩
theorem mi_Lc_energy : miV y_Lc_energy prog_1_method_11_code 2 (some .int) 1 := ⟨wd_514, wd_515, wd_65, wd_516, by decide, by decide, by decide +kernel⟩
def w_Lc_energy (x1 : Int32) (σ : Sg) (K : Int32 → Sg → Prop) : Prop :=
  w_Ho_hasAppliance 1 x1 σ (fun u5 => ((u5 = 0 → K (-1 : Int32) σ) ∧ (¬ u5 = 0 → w_Lc_knownBest σ (fun u12 τ12 => (kd u12 = 0 ∧ (vp_in x1 4 ∧ K (τ12 (u12 + 2) x1.toNatClampNeg) τ12))))))
set_option maxHeartbeats 4000000 in
theorem m_Lc_energy {Y : Yx} {x1 : Int32} {σ : Sg} {K : Int32 → Sg → Prop} (hY : YD Y)  (h : w_Lc_energy x1 σ K) : MetI Y y_Lc_energy prog_1_method_11_code 2 (.int) 5 131 [.ref (ya Y 0), .int x1] σ K := by
  refine met_I [(0, .ref (ya Y 0)), (1, .int x1)] hY (by decide) (Nat.le_of_ble_eq_true rfl) rfl (fun X C hr => ?_)
  unfold w_Lc_energy at h
  refine q_aload_n (pc := 0) C d_Lc_energy_0 rfl 0 rfl ?_
  refine q_get (pc := 1) (c := 0) (ci := 6) (k := 0) (v := .ref (ya Y 1)) C rfl (by decide) (by decide) wd_230 rfl d_Lc_energy_1 ?_
  refine q_iload_n (pc := 4) C d_Lc_energy_4 rfl 1 rfl ?_
  refine q_callVIr (pc := 5) (st := []) (d := 1) C (m_Ho_hasAppliance hY rfl h) mi_Ho_hasAppliance rfl (by decide) rfl wd_357 rfl rfl (Nat.le_of_ble_eq_true rfl) (by decide) (by decide) d_Lc_energy_5 (fun u5 h => ?_)
  obtain ⟨h3, h4⟩ := h
  refine q_if_eq (pc := 8) 23 C d_Lc_energy_8 (by decide) (fun hc => ?_) (fun hc => ?_)
  · have h := h3 hc
    refine q_iconst (pc := 23) (v := -1) C d_Lc_energy_23 (by decide) ?_
    exact q_iret (pc := 24) C hr d_Lc_energy_24 h
  have h := h4 hc
  refine q_aload_n (pc := 11) C d_Lc_energy_11 rfl 0 rfl ?_
  refine q_callVR (pc := 12) (st := []) (d := 0) C (m_Lc_knownBest hY h) mi_Lc_knownBest rfl (by decide) rfl wd_421 rfl rfl (Nat.le_of_ble_eq_true rfl) (by decide) (by decide) d_Lc_energy_12 (fun u12 τ12 h => ?_)
  obtain ⟨h1, h⟩ := h
  refine q_get (pc := 15) (c := u12) (ci := 0) (k := 1) (v := .ref (ya Y (u12 + 2))) C h1 (by decide) (by decide) wd_137 rfl d_Lc_energy_15 ?_
  refine q_iload_n (pc := 18) C d_Lc_energy_18 rfl 1 rfl ?_
  obtain ⟨h2, h⟩ := h
  refine q_iald (pc := 19) (c := (u12 + 2)) C (k0_2 h1) h2 d_Lc_energy_19 ?_
  refine q_goto (pc := 20) 24 C d_Lc_energy_20 (by decide) ?_
  exact q_iret (pc := 24) C hr d_Lc_energy_24 h
