theorem d_Md_day_0 : decode prog_9_method_47_code 0 = .ok (.aload_n 0, 1) := by decide +kernel
theorem d_Md_day_1 : decode prog_9_method_47_code 1 = .ok (.iconst 0, 1) := by decide +kernel
theorem d_Md_day_2 : decode prog_9_method_47_code 2 = .ok (.putfield 79, 3) := by decide +kernel
theorem d_Md_day_5 : decode prog_9_method_47_code 5 = .ok (.iload_n 1, 1) := by decide +kernel
theorem d_Md_day_6 : decode prog_9_method_47_code 6 = .ok (.invokestatic 121, 3) := by decide +kernel
theorem d_Md_day_9 : decode prog_9_method_47_code 9 = .ok (.ifCond .ne 5, 3) := by decide +kernel
theorem d_Md_day_12 : decode prog_9_method_47_code 12 = .ok (.iconst (-1), 1) := by decide +kernel
theorem d_Md_day_13 : decode prog_9_method_47_code 13 = .ok (.ireturn, 1) := by decide +kernel
theorem d_Md_day_14 : decode prog_9_method_47_code 14 = .ok (.iload_n 2, 1) := by decide +kernel
theorem d_Md_day_15 : decode prog_9_method_47_code 15 = .ok (.invokestatic 124, 3) := by decide +kernel
theorem d_Md_day_18 : decode prog_9_method_47_code 18 = .ok (.ifCond .eq 44, 3) := by decide +kernel
theorem d_Md_day_21 : decode prog_9_method_47_code 21 = .ok (.iload 4, 2) := by decide +kernel
theorem d_Md_day_23 : decode prog_9_method_47_code 23 = .ok (.i2l, 1) := by decide +kernel
theorem d_Md_day_24 : decode prog_9_method_47_code 24 = .ok (.lconst 0, 1) := by decide +kernel
theorem d_Md_day_25 : decode prog_9_method_47_code 25 = .ok (.ldc2_w 154, 3) := by decide +kernel
theorem d_Md_day_28 : decode prog_9_method_47_code 28 = .ok (.invokestatic 87, 3) := by decide +kernel
theorem d_Md_day_31 : decode prog_9_method_47_code 31 = .ok (.ifCond .eq 31, 3) := by decide +kernel
theorem d_Md_day_34 : decode prog_9_method_47_code 34 = .ok (.iload 5, 2) := by decide +kernel
theorem d_Md_day_36 : decode prog_9_method_47_code 36 = .ok (.i2l, 1) := by decide +kernel
theorem d_Md_day_37 : decode prog_9_method_47_code 37 = .ok (.lconst 0, 1) := by decide +kernel
theorem d_Md_day_38 : decode prog_9_method_47_code 38 = .ok (.ldc2_w 235, 3) := by decide +kernel
theorem d_Md_day_41 : decode prog_9_method_47_code 41 = .ok (.invokestatic 87, 3) := by decide +kernel
theorem d_Md_day_44 : decode prog_9_method_47_code 44 = .ok (.ifCond .ne 21, 3) := by decide +kernel
theorem d_Md_day_47 : decode prog_9_method_47_code 47 = .ok (.iload 5, 2) := by decide +kernel
theorem d_Md_day_49 : decode prog_9_method_47_code 49 = .ok (.i2l, 1) := by decide +kernel
theorem d_Md_day_50 : decode prog_9_method_47_code 50 = .ok (.ldc2_w 150, 3) := by decide +kernel
theorem d_Md_day_53 : decode prog_9_method_47_code 53 = .ok (.ldc2_w 237, 3) := by decide +kernel
theorem d_Md_day_56 : decode prog_9_method_47_code 56 = .ok (.invokestatic 87, 3) := by decide +kernel
theorem d_Md_day_59 : decode prog_9_method_47_code 59 = .ok (.ifCond .ne 6, 3) := by decide +kernel
theorem d_Md_day_62 : decode prog_9_method_47_code 62 = .ok (.bipush (-2), 2) := by decide +kernel
theorem d_Md_day_64 : decode prog_9_method_47_code 64 = .ok (.ireturn, 1) := by decide +kernel
theorem d_Md_day_65 : decode prog_9_method_47_code 65 = .ok (.aload_n 0, 1) := by decide +kernel
theorem d_Md_day_66 : decode prog_9_method_47_code 66 = .ok (.iload_n 1, 1) := by decide +kernel
theorem d_Md_day_67 : decode prog_9_method_47_code 67 = .ok (.iload_n 2, 1) := by decide +kernel
theorem d_Md_day_68 : decode prog_9_method_47_code 68 = .ok (.iload_n 3, 1) := by decide +kernel
theorem d_Md_day_69 : decode prog_9_method_47_code 69 = .ok (.iconst 2, 1) := by decide +kernel
theorem d_Md_day_70 : decode prog_9_method_47_code 70 = .ok (.iload 4, 2) := by decide +kernel
theorem d_Md_day_72 : decode prog_9_method_47_code 72 = .ok (.imul, 1) := by decide +kernel
theorem d_Md_day_73 : decode prog_9_method_47_code 73 = .ok (.invokevirtual 127, 3) := by decide +kernel
theorem d_Md_day_76 : decode prog_9_method_47_code 76 = .ok (.istore 6, 2) := by decide +kernel
theorem d_Md_day_78 : decode prog_9_method_47_code 78 = .ok (.iload 6, 2) := by decide +kernel
theorem d_Md_day_80 : decode prog_9_method_47_code 80 = .ok (.ifCond .eq 10, 3) := by decide +kernel
theorem d_Md_day_83 : decode prog_9_method_47_code 83 = .ok (.aload_n 0, 1) := by decide +kernel
theorem d_Md_day_84 : decode prog_9_method_47_code 84 = .ok (.iload 6, 2) := by decide +kernel
theorem d_Md_day_86 : decode prog_9_method_47_code 86 = .ok (.invokevirtual 131, 3) := by decide +kernel
theorem d_Md_day_89 : decode prog_9_method_47_code 89 = .ok (.ireturn, 1) := by decide +kernel
theorem d_Md_day_90 : decode prog_9_method_47_code 90 = .ok (.aload_n 0, 1) := by decide +kernel
theorem d_Md_day_91 : decode prog_9_method_47_code 91 = .ok (.getfield 93, 3) := by decide +kernel
theorem d_Md_day_94 : decode prog_9_method_47_code 94 = .ok (.ifCond .ne 6, 3) := by decide +kernel
theorem d_Md_day_97 : decode prog_9_method_47_code 97 = .ok (.bipush (-3), 2) := by decide +kernel
theorem d_Md_day_99 : decode prog_9_method_47_code 99 = .ok (.ireturn, 1) := by decide +kernel
theorem d_Md_day_100 : decode prog_9_method_47_code 100 = .ok (.bipush 60, 2) := by decide +kernel
theorem d_Md_day_102 : decode prog_9_method_47_code 102 = .ok (.iload_n 1, 1) := by decide +kernel
theorem d_Md_day_103 : decode prog_9_method_47_code 103 = .ok (.imul, 1) := by decide +kernel
theorem d_Md_day_104 : decode prog_9_method_47_code 104 = .ok (.iload_n 3, 1) := by decide +kernel
theorem d_Md_day_105 : decode prog_9_method_47_code 105 = .ok (.iadd, 1) := by decide +kernel
theorem d_Md_day_106 : decode prog_9_method_47_code 106 = .ok (.istore 7, 2) := by decide +kernel
theorem d_Md_day_108 : decode prog_9_method_47_code 108 = .ok (.iconst 0, 1) := by decide +kernel
theorem d_Md_day_109 : decode prog_9_method_47_code 109 = .ok (.istore 8, 2) := by decide +kernel
theorem d_Md_day_111 : decode prog_9_method_47_code 111 = .ok (.iload 8, 2) := by decide +kernel
theorem d_Md_day_113 : decode prog_9_method_47_code 113 = .ok (.iload 4, 2) := by decide +kernel
theorem d_Md_day_115 : decode prog_9_method_47_code 115 = .ok (.if_icmp .ge 44, 3) := by decide +kernel
theorem d_Md_day_118 : decode prog_9_method_47_code 118 = .ok (.aload_n 0, 1) := by decide +kernel
theorem d_Md_day_119 : decode prog_9_method_47_code 119 = .ok (.getfield 16, 3) := by decide +kernel
theorem d_Md_day_122 : decode prog_9_method_47_code 122 = .ok (.iload 7, 2) := by decide +kernel
theorem d_Md_day_124 : decode prog_9_method_47_code 124 = .ok (.iconst 2, 1) := by decide +kernel
theorem d_Md_day_125 : decode prog_9_method_47_code 125 = .ok (.iload 8, 2) := by decide +kernel
theorem d_Md_day_127 : decode prog_9_method_47_code 127 = .ok (.imul, 1) := by decide +kernel
theorem d_Md_day_128 : decode prog_9_method_47_code 128 = .ok (.iadd, 1) := by decide +kernel
theorem d_Md_day_129 : decode prog_9_method_47_code 129 = .ok (.iaload, 1) := by decide +kernel
theorem d_Md_day_130 : decode prog_9_method_47_code 130 = .ok (.aload_n 0, 1) := by decide +kernel
theorem d_Md_day_131 : decode prog_9_method_47_code 131 = .ok (.getfield 16, 3) := by decide +kernel
theorem d_Md_day_134 : decode prog_9_method_47_code 134 = .ok (.iload 7, 2) := by decide +kernel
theorem d_Md_day_136 : decode prog_9_method_47_code 136 = .ok (.iconst 2, 1) := by decide +kernel
theorem d_Md_day_137 : decode prog_9_method_47_code 137 = .ok (.iload 8, 2) := by decide +kernel
theorem d_Md_day_139 : decode prog_9_method_47_code 139 = .ok (.imul, 1) := by decide +kernel
theorem d_Md_day_140 : decode prog_9_method_47_code 140 = .ok (.iadd, 1) := by decide +kernel
theorem d_Md_day_141 : decode prog_9_method_47_code 141 = .ok (.iconst 1, 1) := by decide +kernel
theorem d_Md_day_142 : decode prog_9_method_47_code 142 = .ok (.iadd, 1) := by decide +kernel
theorem d_Md_day_143 : decode prog_9_method_47_code 143 = .ok (.iaload, 1) := by decide +kernel
theorem d_Md_day_144 : decode prog_9_method_47_code 144 = .ok (.invokestatic 239, 3) := by decide +kernel
theorem d_Md_day_147 : decode prog_9_method_47_code 147 = .ok (.ifCond .ne 6, 3) := by decide +kernel
theorem d_Md_day_150 : decode prog_9_method_47_code 150 = .ok (.bipush (-2), 2) := by decide +kernel
theorem d_Md_day_152 : decode prog_9_method_47_code 152 = .ok (.ireturn, 1) := by decide +kernel
theorem d_Md_day_153 : decode prog_9_method_47_code 153 = .ok (.iinc 8 1, 3) := by decide +kernel
theorem d_Md_day_156 : decode prog_9_method_47_code 156 = .ok (.goto (-45), 3) := by decide +kernel
theorem d_Md_day_159 : decode prog_9_method_47_code 159 = .ok (.aload_n 0, 1) := by decide +kernel
theorem d_Md_day_160 : decode prog_9_method_47_code 160 = .ok (.invokevirtual 242, 3) := by decide +kernel
theorem d_Md_day_163 : decode prog_9_method_47_code 163 = .ok (.aload_n 0, 1) := by decide +kernel
theorem d_Md_day_164 : decode prog_9_method_47_code 164 = .ok (.iload 7, 2) := by decide +kernel
theorem d_Md_day_166 : decode prog_9_method_47_code 166 = .ok (.iload 4, 2) := by decide +kernel
theorem d_Md_day_168 : decode prog_9_method_47_code 168 = .ok (.invokevirtual 245, 3) := by decide +kernel
theorem d_Md_day_171 : decode prog_9_method_47_code 171 = .ok (.istore 8, 2) := by decide +kernel
theorem d_Md_day_173 : decode prog_9_method_47_code 173 = .ok (.aload_n 0, 1) := by decide +kernel
theorem d_Md_day_174 : decode prog_9_method_47_code 174 = .ok (.iload 5, 2) := by decide +kernel
theorem d_Md_day_176 : decode prog_9_method_47_code 176 = .ok (.invokevirtual 248, 3) := by decide +kernel
theorem d_Md_day_179 : decode prog_9_method_47_code 179 = .ok (.istore 9, 2) := by decide +kernel
theorem d_Md_day_181 : decode prog_9_method_47_code 181 = .ok (.aload_n 0, 1) := by decide +kernel
theorem d_Md_day_182 : decode prog_9_method_47_code 182 = .ok (.invokevirtual 251, 3) := by decide +kernel
theorem d_Md_day_185 : decode prog_9_method_47_code 185 = .ok (.iload 5, 2) := by decide +kernel
theorem d_Md_day_187 : decode prog_9_method_47_code 187 = .ok (.iconst 1, 1) := by decide +kernel
theorem d_Md_day_188 : decode prog_9_method_47_code 188 = .ok (.if_icmp .ne 8, 3) := by decide +kernel
theorem d_Md_day_191 : decode prog_9_method_47_code 191 = .ok (.iload 8, 2) := by decide +kernel
theorem d_Md_day_193 : decode prog_9_method_47_code 193 = .ok (.goto 20, 3) := by decide +kernel
theorem d_Md_day_196 : decode prog_9_method_47_code 196 = .ok (.iload 8, 2) := by decide +kernel
theorem d_Md_day_198 : decode prog_9_method_47_code 198 = .ok (.bipush (-9), 2) := by decide +kernel
theorem d_Md_day_200 : decode prog_9_method_47_code 200 = .ok (.if_icmp .ne 8, 3) := by decide +kernel
theorem d_Md_day_203 : decode prog_9_method_47_code 203 = .ok (.iload 9, 2) := by decide +kernel
theorem d_Md_day_205 : decode prog_9_method_47_code 205 = .ok (.goto 8, 3) := by decide +kernel
theorem d_Md_day_208 : decode prog_9_method_47_code 208 = .ok (.bipush (-100), 2) := by decide +kernel
theorem d_Md_day_210 : decode prog_9_method_47_code 210 = .ok (.iload 8, 2) := by decide +kernel
theorem d_Md_day_212 : decode prog_9_method_47_code 212 = .ok (.isub, 1) := by decide +kernel
theorem d_Md_day_213 : decode prog_9_method_47_code 213 = .ok (.ireturn, 1) := by decide +kernel
abbrev y_Md_day : MethodName := ⟨"LoadCyclesModel", "day", "(IIIII)I"⟩
theorem mi_Md_day : miV y_Md_day prog_9_method_47_code 10 (some .int) 5 := ⟨wd_994, wd_995, wd_72, wd_996, by decide, by decide, by decide +kernel⟩
def L_Md_day_111 (x1 : Int32) (x2 : Int32) (x3 : Int32) (x4 : Int32) (x5 : Int32) (v7 : Int32) (K : Int32 → Sg → Prop) : Nat → Int32 → Sg → Prop
  | 0, _, _ => False
  | n + 1, v8, σ =>
    ((x4 ≤ v8 → w_Md_keep σ (fun τ160 => w_Md_goDay v7 x4 τ160 (fun u168 τ168 => w_Md_tellDay x5 τ168 (fun u176 τ176 => w_Md_putBack τ176 (fun τ182 => ((¬ x5 = (1 : Int32) → ((¬ u168 = (-9 : Int32) → K ((-100 : Int32) - u168) τ182) ∧ (u168 = (-9 : Int32) → K u176 τ182))) ∧ (x5 = (1 : Int32) → K u168 τ182))))))) ∧ (¬ x4 ≤ v8 → (vp_in (v7 + ((2 : Int32) * v8)) 240 ∧ (vp_in ((v7 + ((2 : Int32) * v8)) + (1 : Int32)) 240 ∧ w_Md_isPair (σ 46 (v7 + ((2 : Int32) * v8)).toNatClampNeg) (σ 46 ((v7 + ((2 : Int32) * v8)) + (1 : Int32)).toNatClampNeg) σ (fun u144 => ((¬ u144 = 0 → L_Md_day_111 x1 x2 x3 x4 x5 v7 K n (v8 + (1 : Int32)) σ) ∧ (u144 = 0 → K (-2 : Int32) σ)))))))
theorem t_Md_day_111 {X : Bx} {Y : Yx} {x1 : Int32} {x2 : Int32} {x3 : Int32} {x4 : Int32} {x5 : Int32} {v7 : Int32} {K : Int32 → Sg → Prop}  (hY : YD Y) (C : Cx X Y prog_9_method_47_code 10 "LoadCyclesModel" 7 158) (hr : (xh X).sig.returnType = some .int)  : ∀ (n : Nat) (v8 : Int32) (σ : Sg), L_Md_day_111 x1 x2 x3 x4 x5 v7 K n v8 σ → St X Y 10 (QI X Y K) 111 [(0, .ref (ya Y 43)), (4, .int x4), (5, .int x5), (7, .int v7), (8, .int v8)] [] σ := by
  intro n
  induction n with
  | zero => intro v8 σ h; exact h.elim
  | succ n ih =>
    intro v8 σ h
    unfold L_Md_day_111 at h
    refine q_iload (pc := 111) C d_Md_day_111 4 rfl ?_
    refine q_iload (pc := 113) C d_Md_day_113 1 rfl ?_
    obtain ⟨h9, h10⟩ := h
    refine q_icmp_ge (pc := 115) 159 C d_Md_day_115 (by decide) (fun hc => ?_) (fun hc => ?_)
    · have h := h9 hc
      refine q_aload_n (pc := 159) C d_Md_day_159 rfl 0 rfl ?_
      refine q_callVV (pc := 160) (st := []) (d := 43) C (m_Md_keep hY h) mi_Md_keep rfl (by decide) rfl wd_1004 rfl rfl (Nat.le_of_ble_eq_true rfl) (by decide) (by decide) d_Md_day_160 (fun τ160 h => ?_)
      refine q_aload_n (pc := 163) C d_Md_day_163 rfl 0 rfl ?_
      refine q_iload (pc := 164) C d_Md_day_164 3 rfl ?_
      refine q_iload (pc := 166) C d_Md_day_166 1 rfl ?_
      refine q_callVI (pc := 168) (st := []) (d := 43) C (m_Md_goDay hY h) mi_Md_goDay rfl (by decide) rfl wd_1008 rfl rfl (Nat.le_of_ble_eq_true rfl) (by decide) (by decide) d_Md_day_168 (fun u168 τ168 h => ?_)
      refine q_istore (pc := 171) [(8, .int u168), (0, .ref (ya Y 43)), (4, .int x4), (5, .int x5), (7, .int v7)] C d_Md_day_171 (by decide) rfl ?_
      refine q_aload_n (pc := 173) C d_Md_day_173 rfl 1 rfl ?_
      refine q_iload (pc := 174) C d_Md_day_174 3 rfl ?_
      refine q_callVI (pc := 176) (st := []) (d := 43) C (m_Md_tellDay hY h) mi_Md_tellDay rfl (by decide) rfl wd_1016 rfl rfl (Nat.le_of_ble_eq_true rfl) (by decide) (by decide) d_Md_day_176 (fun u176 τ176 h => ?_)
      refine q_istore (pc := 179) [(9, .int u176), (8, .int u168), (0, .ref (ya Y 43)), (4, .int x4), (5, .int x5), (7, .int v7)] C d_Md_day_179 (by decide) rfl ?_
      refine q_aload_n (pc := 181) C d_Md_day_181 rfl 2 rfl ?_
      refine q_callVV (pc := 182) (st := []) (d := 43) C (m_Md_putBack hY h) mi_Md_putBack rfl (by decide) rfl wd_1020 rfl rfl (Nat.le_of_ble_eq_true rfl) (by decide) (by decide) d_Md_day_182 (fun τ182 h => ?_)
      refine q_iload (pc := 185) C d_Md_day_185 4 rfl ?_
      refine q_iconst (pc := 187) (v := 1) C d_Md_day_187 (by decide) ?_
      obtain ⟨h3, h4⟩ := h
      refine q_icmp_ne (pc := 188) 196 C d_Md_day_188 (by decide) (fun hc => ?_) (fun hc => ?_)
      · have h := h3 hc
        refine q_iload (pc := 196) C d_Md_day_196 1 rfl ?_
        refine q_bipush (pc := 198) (v := -9) C d_Md_day_198 (by decide) ?_
        obtain ⟨h1, h2⟩ := h
        refine q_icmp_ne (pc := 200) 208 C d_Md_day_200 (by decide) (fun hc => ?_) (fun hc => ?_)
        · have h := h1 hc
          refine q_bipush (pc := 208) (v := -100) C d_Md_day_208 (by decide) ?_
          refine q_iload (pc := 210) C d_Md_day_210 1 rfl ?_
          refine q_isub (pc := 212) C d_Md_day_212 ?_
          exact q_iret (pc := 213) C hr d_Md_day_213 h
        have h := h2 hc
        refine q_iload (pc := 203) C d_Md_day_203 0 rfl ?_
        refine q_goto (pc := 205) 213 C d_Md_day_205 (by decide) ?_
        exact q_iret (pc := 213) C hr d_Md_day_213 h
      have h := h4 hc
      refine q_iload (pc := 191) C d_Md_day_191 1 rfl ?_
      refine q_goto (pc := 193) 213 C d_Md_day_193 (by decide) ?_
      exact q_iret (pc := 213) C hr d_Md_day_213 h
    have h := h10 hc
    refine q_aload_n (pc := 118) C d_Md_day_118 rfl 0 rfl ?_
    refine q_get (pc := 119) (c := 43) (ci := 7) (k := 4) (v := .ref (ya Y 46)) C rfl (by decide) (by decide) wd_737 rfl d_Md_day_119 ?_
    refine q_iload (pc := 122) C d_Md_day_122 3 rfl ?_
    refine q_iconst (pc := 124) (v := 2) C d_Md_day_124 (by decide) ?_
    refine q_iload (pc := 125) C d_Md_day_125 4 rfl ?_
    refine q_imul (pc := 127) C d_Md_day_127 ?_
    refine q_iadd (pc := 128) C d_Md_day_128 ?_
    obtain ⟨h5, h⟩ := h
    refine q_iald (pc := 129) (c := 46) C ⟨rfl, rfl⟩ h5 d_Md_day_129 ?_
    refine q_aload_n (pc := 130) C d_Md_day_130 rfl 0 rfl ?_
    refine q_get (pc := 131) (c := 43) (ci := 7) (k := 4) (v := .ref (ya Y 46)) C rfl (by decide) (by decide) wd_737 rfl d_Md_day_131 ?_
    refine q_iload (pc := 134) C d_Md_day_134 3 rfl ?_
    refine q_iconst (pc := 136) (v := 2) C d_Md_day_136 (by decide) ?_
    refine q_iload (pc := 137) C d_Md_day_137 4 rfl ?_
    refine q_imul (pc := 139) C d_Md_day_139 ?_
    refine q_iadd (pc := 140) C d_Md_day_140 ?_
    refine q_iconst (pc := 141) (v := 1) C d_Md_day_141 (by decide) ?_
    refine q_iadd (pc := 142) C d_Md_day_142 ?_
    obtain ⟨h6, h⟩ := h
    refine q_iald (pc := 143) (c := 46) C ⟨rfl, rfl⟩ h6 d_Md_day_143 ?_
    refine q_callSIr (pc := 144) (st := []) C (m_Md_isPair hY h) mi_Md_isPair wd_999 rfl rfl (Nat.le_of_ble_eq_true rfl) (by decide) (by decide) d_Md_day_144 (fun u144 h => ?_)
    obtain ⟨h7, h8⟩ := h
    refine q_if_ne (pc := 147) 153 C d_Md_day_147 (by decide) (fun hc => ?_) (fun hc => ?_)
    · have h := h7 hc
      refine q_iinc (pc := 153) (v8 + (1 : Int32)) [(8, .int (v8 + (1 : Int32))), (0, .ref (ya Y 43)), (4, .int x4), (5, .int x5), (7, .int v7)] C d_Md_day_153 4 rfl rfl (by decide) rfl ?_
      refine q_goto (pc := 156) 111 C d_Md_day_156 (by decide) ?_
      refine q_sub [(0, .ref (ya Y 43)), (4, .int x4), (5, .int x5), (7, .int v7), (8, .int (v8 + (1 : Int32)))] [1, 2, 3, 4, 0] rfl ?_
      exact ih (v8 + (1 : Int32)) σ h
    have h := h8 hc
    refine q_bipush (pc := 150) (v := -2) C d_Md_day_150 (by decide) ?_
    exact q_iret (pc := 152) C hr d_Md_day_152 h
def B_Md_day_65 (x1 : Int32) (x2 : Int32) (x3 : Int32) (x4 : Int32) (x5 : Int32) (K : Int32 → Sg → Prop)  (σ : Sg) : Prop :=
  w_Md_against x1 x2 x3 ((2 : Int32) * x4) σ (fun u73 => ((u73 = 0 → ((¬ (σ 43 5) = 0 → (∀ y7_106 : Int32, y7_106 = (((60 : Int32) * x1) + x3) → (∃ n11 : Nat, L_Md_day_111 x1 x2 x3 x4 x5 y7_106 K n11 (0 : Int32) σ))) ∧ ((σ 43 5) = 0 → K (-3 : Int32) σ))) ∧ (¬ u73 = 0 → w_Md_fails u73 σ (fun u86 τ86 => K u86 τ86))))
theorem t_Md_day_65 {X : Bx} {Y : Yx} {x1 : Int32} {x2 : Int32} {x3 : Int32} {x4 : Int32} {x5 : Int32} {K : Int32 → Sg → Prop}  (hY : YD Y) (C : Cx X Y prog_9_method_47_code 10 "LoadCyclesModel" 7 158) (hr : (xh X).sig.returnType = some .int)   {σ : Sg} (h : B_Md_day_65 x1 x2 x3 x4 x5 K σ) : St X Y 10 (QI X Y K) 65 [(0, .ref (ya Y 43)), (1, .int x1), (2, .int x2), (3, .int x3), (4, .int x4), (5, .int x5)] [] σ := by
  unfold B_Md_day_65 at h
  refine q_aload_n (pc := 65) C d_Md_day_65 rfl 0 rfl ?_
  refine q_iload_n (pc := 66) C d_Md_day_66 rfl 1 rfl ?_
  refine q_iload_n (pc := 67) C d_Md_day_67 rfl 2 rfl ?_
  refine q_iload_n (pc := 68) C d_Md_day_68 rfl 3 rfl ?_
  refine q_iconst (pc := 69) (v := 2) C d_Md_day_69 (by decide) ?_
  refine q_iload (pc := 70) C d_Md_day_70 4 rfl ?_
  refine q_imul (pc := 72) C d_Md_day_72 ?_
  refine q_callVIr (pc := 73) (st := []) (d := 43) C (m_Md_against hY h) mi_Md_against rfl (by decide) rfl wd_848 rfl rfl (Nat.le_of_ble_eq_true rfl) (by decide) (by decide) d_Md_day_73 (fun u73 h => ?_)
  refine q_istore (pc := 76) [(6, .int u73), (0, .ref (ya Y 43)), (1, .int x1), (2, .int x2), (3, .int x3), (4, .int x4), (5, .int x5)] C d_Md_day_76 (by decide) rfl ?_
  refine q_iload (pc := 78) C d_Md_day_78 0 rfl ?_
  obtain ⟨h14, h15⟩ := h
  refine q_if_eq (pc := 80) 90 C d_Md_day_80 (by decide) (fun hc => ?_) (fun hc => ?_)
  · have h := h14 hc
    refine q_aload_n (pc := 90) C d_Md_day_90 rfl 1 rfl ?_
    refine q_get (pc := 91) (c := 43) (ci := 7) (k := 5) (v := .int (σ 43 5)) C rfl (by decide) (by decide) wd_738 rfl d_Md_day_91 ?_
    obtain ⟨h12, h13⟩ := h
    refine q_if_ne (pc := 94) 100 C d_Md_day_94 (by decide) (fun hc => ?_) (fun hc => ?_)
    · have h := h12 hc
      refine q_bipush (pc := 100) (v := 60) C d_Md_day_100 (by decide) ?_
      refine q_iload_n (pc := 102) C d_Md_day_102 rfl 2 rfl ?_
      refine q_imul (pc := 103) C d_Md_day_103 ?_
      refine q_iload_n (pc := 104) C d_Md_day_104 rfl 4 rfl ?_
      refine q_iadd (pc := 105) C d_Md_day_105 ?_
      refine q_nmi (fun y7_106 ey7_106 => ?_)
      replace h := h y7_106 ey7_106
      refine q_istore (pc := 106) [(7, .int y7_106), (6, .int u73), (0, .ref (ya Y 43)), (1, .int x1), (2, .int x2), (3, .int x3), (4, .int x4), (5, .int x5)] C d_Md_day_106 (by decide) rfl ?_
      refine q_iconst (pc := 108) (v := 0) C d_Md_day_108 (by decide) ?_
      refine q_istore (pc := 109) [(8, .int (0 : Int32)), (7, .int y7_106), (6, .int u73), (0, .ref (ya Y 43)), (1, .int x1), (2, .int x2), (3, .int x3), (4, .int x4), (5, .int x5)] C d_Md_day_109 (by decide) rfl ?_
      obtain ⟨n11, h⟩ := h
      refine q_sub [(0, .ref (ya Y 43)), (4, .int x4), (5, .int x5), (7, .int y7_106), (8, .int (0 : Int32))] [3, 7, 8, 1, 0] rfl ?_
      exact t_Md_day_111 hY C hr n11 (0 : Int32) σ h
    have h := h13 hc
    refine q_bipush (pc := 97) (v := -3) C d_Md_day_97 (by decide) ?_
    exact q_iret (pc := 99) C hr d_Md_day_99 h
  have h := h15 hc
  refine q_aload_n (pc := 83) C d_Md_day_83 rfl 1 rfl ?_
  refine q_iload (pc := 84) C d_Md_day_84 0 rfl ?_
  refine q_callVI (pc := 86) (st := []) (d := 43) C (m_Md_fails hY h) mi_Md_fails rfl (by decide) rfl wd_852 rfl rfl (Nat.le_of_ble_eq_true rfl) (by decide) (by decide) d_Md_day_86 (fun u86 τ86 h => ?_)
  exact q_iret (pc := 89) C hr d_Md_day_89 h
def w_Md_day (x1 : Int32) (x2 : Int32) (x3 : Int32) (x4 : Int32) (x5 : Int32) (σ : Sg) (K : Int32 → Sg → Prop) : Prop :=
  (∀ τ2 : Sg, τ2 = s2 σ 43 0 (0 : Int32) → w_Md_isSheet x1 τ2 (fun u6 => ((¬ u6 = 0 → w_Md_isSort x2 τ2 (fun u15 => ((u15 = 0 → K (-2 : Int32) τ2) ∧ (¬ u15 = 0 → w_Md_within (x4.toInt64) (0 : Int64) (20 : Int64) τ2 (fun u28 => ((u28 = 0 → K (-2 : Int32) τ2) ∧ (¬ u28 = 0 → w_Md_within (x5.toInt64) (0 : Int64) (4 : Int64) τ2 (fun u41 => ((¬ u41 = 0 → B_Md_day_65 x1 x2 x3 x4 x5 K τ2) ∧ (u41 = 0 → w_Md_within (x5.toInt64) (10 : Int64) (13 : Int64) τ2 (fun u56 => ((¬ u56 = 0 → B_Md_day_65 x1 x2 x3 x4 x5 K τ2) ∧ (u56 = 0 → K (-2 : Int32) τ2))))))))))))) ∧ (u6 = 0 → K (-1 : Int32) τ2))))
set_option maxHeartbeats 4000000 in
theorem m_Md_day {Y : Yx} {x1 : Int32} {x2 : Int32} {x3 : Int32} {x4 : Int32} {x5 : Int32} {σ : Sg} {K : Int32 → Sg → Prop} (hY : YD Y)  (h : w_Md_day x1 x2 x3 x4 x5 σ K) : MetI Y y_Md_day prog_9_method_47_code 10 (.int) 7 158 [.ref (ya Y 43), .int x1, .int x2, .int x3, .int x4, .int x5] σ K := by
  refine met_I [(0, .ref (ya Y 43)), (1, .int x1), (2, .int x2), (3, .int x3), (4, .int x4), (5, .int x5)] hY (by decide) (Nat.le_of_ble_eq_true rfl) rfl (fun X C hr => ?_)
  unfold w_Md_day at h
  refine q_aload_n (pc := 0) C d_Md_day_0 rfl 0 rfl ?_
  refine q_iconst (pc := 1) (v := 0) C d_Md_day_1 (by decide) ?_
  refine q_put (pc := 2) (c := 43) (ci := 7) (k := 0) C rfl (by decide) (by decide) wd_733 rfl rfl rfl fs_7_0 d_Md_day_2 ?_
  refine q_nms (fun τ2 eτ2 => ?_)
  replace h := h τ2 eτ2
  refine q_iload_n (pc := 5) C d_Md_day_5 rfl 1 rfl ?_
  refine q_callSIr (pc := 6) (st := []) C (m_Md_isSheet hY h) mi_Md_isSheet wd_837 rfl rfl (Nat.le_of_ble_eq_true rfl) (by decide) (by decide) d_Md_day_6 (fun u6 h => ?_)
  obtain ⟨h24, h25⟩ := h
  refine q_if_ne (pc := 9) 14 C d_Md_day_9 (by decide) (fun hc => ?_) (fun hc => ?_)
  · have h := h24 hc
    refine q_iload_n (pc := 14) C d_Md_day_14 rfl 2 rfl ?_
    refine q_callSIr (pc := 15) (st := []) C (m_Md_isSort hY h) mi_Md_isSort wd_844 rfl rfl (Nat.le_of_ble_eq_true rfl) (by decide) (by decide) d_Md_day_15 (fun u15 h => ?_)
    obtain ⟨h22, h23⟩ := h
    refine q_if_eq (pc := 18) 62 C d_Md_day_18 (by decide) (fun hc => ?_) (fun hc => ?_)
    · have h := h22 hc
      refine q_bipush (pc := 62) (v := -2) C d_Md_day_62 (by decide) ?_
      exact q_iret (pc := 64) C hr d_Md_day_64 h
    have h := h23 hc
    refine q_iload (pc := 21) C d_Md_day_21 4 rfl ?_
    refine q_i2l (pc := 23) C d_Md_day_23 ?_
    refine q_lconst (pc := 24) (v := 0) C d_Md_day_24 (by decide) ?_
    refine q_ldc2 (pc := 25) C wd_883 d_Md_day_25 ?_
    refine q_callSIr (pc := 28) (st := []) C (m_Md_within hY h) mi_Md_within wd_841 rfl rfl (Nat.le_of_ble_eq_true rfl) (by decide) (by decide) d_Md_day_28 (fun u28 h => ?_)
    obtain ⟨h20, h21⟩ := h
    refine q_if_eq (pc := 31) 62 C d_Md_day_31 (by decide) (fun hc => ?_) (fun hc => ?_)
    · have h := h20 hc
      refine q_bipush (pc := 62) (v := -2) C d_Md_day_62 (by decide) ?_
      exact q_iret (pc := 64) C hr d_Md_day_64 h
    have h := h21 hc
    refine q_iload (pc := 34) C d_Md_day_34 5 rfl ?_
    refine q_i2l (pc := 36) C d_Md_day_36 ?_
    refine q_lconst (pc := 37) (v := 0) C d_Md_day_37 (by decide) ?_
    refine q_ldc2 (pc := 38) C wd_997 d_Md_day_38 ?_
    refine q_callSIr (pc := 41) (st := []) C (m_Md_within hY h) mi_Md_within wd_841 rfl rfl (Nat.le_of_ble_eq_true rfl) (by decide) (by decide) d_Md_day_41 (fun u41 h => ?_)
    obtain ⟨h18, h19⟩ := h
    refine q_if_ne (pc := 44) 65 C d_Md_day_44 (by decide) (fun hc => ?_) (fun hc => ?_)
    · have h := h18 hc
      exact t_Md_day_65 hY C hr h
    have h := h19 hc
    refine q_iload (pc := 47) C d_Md_day_47 5 rfl ?_
    refine q_i2l (pc := 49) C d_Md_day_49 ?_
    refine q_ldc2 (pc := 50) C wd_881 d_Md_day_50 ?_
    refine q_ldc2 (pc := 53) C wd_998 d_Md_day_53 ?_
    refine q_callSIr (pc := 56) (st := []) C (m_Md_within hY h) mi_Md_within wd_841 rfl rfl (Nat.le_of_ble_eq_true rfl) (by decide) (by decide) d_Md_day_56 (fun u56 h => ?_)
    obtain ⟨h16, h17⟩ := h
    refine q_if_ne (pc := 59) 65 C d_Md_day_59 (by decide) (fun hc => ?_) (fun hc => ?_)
    · have h := h16 hc
      exact t_Md_day_65 hY C hr h
    have h := h17 hc
    refine q_bipush (pc := 62) (v := -2) C d_Md_day_62 (by decide) ?_
    exact q_iret (pc := 64) C hr d_Md_day_64 h
  have h := h25 hc
  refine q_iconst (pc := 12) (v := -1) C d_Md_day_12 (by decide) ?_
  exact q_iret (pc := 13) C hr d_Md_day_13 h
theorem d_Md_jumpOf_0 : decode prog_9_method_49_code 0 = .ok (.aload_n 0, 1) := by decide +kernel
theorem d_Md_jumpOf_1 : decode prog_9_method_49_code 1 = .ok (.getfield 28, 3) := by decide +kernel
theorem d_Md_jumpOf_4 : decode prog_9_method_49_code 4 = .ok (.iload_n 1, 1) := by decide +kernel
theorem d_Md_jumpOf_5 : decode prog_9_method_49_code 5 = .ok (.iaload, 1) := by decide +kernel
theorem d_Md_jumpOf_6 : decode prog_9_method_49_code 6 = .ok (.iload_n 1, 1) := by decide +kernel
theorem d_Md_jumpOf_7 : decode prog_9_method_49_code 7 = .ok (.ifCond .ne 10, 3) := by decide +kernel
theorem d_Md_jumpOf_10 : decode prog_9_method_49_code 10 = .ok (.aload_n 0, 1) := by decide +kernel
theorem d_Md_jumpOf_11 : decode prog_9_method_49_code 11 = .ok (.getfield 137, 3) := by decide +kernel
theorem d_Md_jumpOf_14 : decode prog_9_method_49_code 14 = .ok (.goto 11, 3) := by decide +kernel
theorem d_Md_jumpOf_17 : decode prog_9_method_49_code 17 = .ok (.aload_n 0, 1) := by decide +kernel
theorem d_Md_jumpOf_18 : decode prog_9_method_49_code 18 = .ok (.getfield 28, 3) := by decide +kernel
theorem d_Md_jumpOf_21 : decode prog_9_method_49_code 21 = .ok (.iload_n 1, 1) := by decide +kernel
theorem d_Md_jumpOf_22 : decode prog_9_method_49_code 22 = .ok (.iconst 1, 1) := by decide +kernel
theorem d_Md_jumpOf_23 : decode prog_9_method_49_code 23 = .ok (.isub, 1) := by decide +kernel
theorem d_Md_jumpOf_24 : decode prog_9_method_49_code 24 = .ok (.iaload, 1) := by decide +kernel
theorem d_Md_jumpOf_25 : decode prog_9_method_49_code 25 = .ok (.isub, 1) := by decide +kernel
theorem d_Md_jumpOf_26 : decode prog_9_method_49_code 26 = .ok (.ireturn, 1) := by decide +kernel
abbrev y_Md_jumpOf : MethodName := ⟨"LoadCyclesModel", "jumpOf", "(I)I"⟩
theorem mi_Md_jumpOf : miV y_Md_jumpOf prog_9_method_49_code 2 (some .int) 1 := ⟨wd_1030, wd_58, wd_72, wd_1031, by decide, by decide, by decide +kernel⟩
def w_Md_jumpOf (x1 : Int32) (σ : Sg) (K : Int32 → Prop) : Prop :=
  (vp_in x1 20 ∧ ((¬ x1 = 0 → (vp_in (x1 - (1 : Int32)) 20 ∧ K ((σ 50 x1.toNatClampNeg) - (σ 50 (x1 - (1 : Int32)).toNatClampNeg)))) ∧ (x1 = 0 → K ((σ 50 x1.toNatClampNeg) - (σ 43 11)))))
set_option maxHeartbeats 4000000 in
theorem m_Md_jumpOf {Y : Yx} {x1 : Int32} {σ : Sg} {K : Int32 → Prop} (hY : YD Y)  (h : w_Md_jumpOf x1 σ K) : MetI Y y_Md_jumpOf prog_9_method_49_code 2 (.int) 0 0 [.ref (ya Y 43), .int x1] σ (fun r τ => τ = σ ∧ K r) := by
  refine met_I [(0, .ref (ya Y 43)), (1, .int x1)] hY (by decide) (Nat.le_of_ble_eq_true rfl) rfl (fun X C hr => ?_)
  unfold w_Md_jumpOf at h
  refine q_aload_n (pc := 0) C d_Md_jumpOf_0 rfl 0 rfl ?_
  refine q_get (pc := 1) (c := 43) (ci := 7) (k := 10) (v := .ref (ya Y 50)) C rfl (by decide) (by decide) wd_743 rfl d_Md_jumpOf_1 ?_
  refine q_iload_n (pc := 4) C d_Md_jumpOf_4 rfl 1 rfl ?_
  obtain ⟨h1, h⟩ := h
  refine q_iald (pc := 5) (c := 50) C ⟨rfl, rfl⟩ h1 d_Md_jumpOf_5 ?_
  refine q_iload_n (pc := 6) C d_Md_jumpOf_6 rfl 1 rfl ?_
  obtain ⟨h3, h4⟩ := h
  refine q_if_ne (pc := 7) 17 C d_Md_jumpOf_7 (by decide) (fun hc => ?_) (fun hc => ?_)
  · have h := h3 hc
    refine q_aload_n (pc := 17) C d_Md_jumpOf_17 rfl 0 rfl ?_
    refine q_get (pc := 18) (c := 43) (ci := 7) (k := 10) (v := .ref (ya Y 50)) C rfl (by decide) (by decide) wd_743 rfl d_Md_jumpOf_18 ?_
    refine q_iload_n (pc := 21) C d_Md_jumpOf_21 rfl 1 rfl ?_
    refine q_iconst (pc := 22) (v := 1) C d_Md_jumpOf_22 (by decide) ?_
    refine q_isub (pc := 23) C d_Md_jumpOf_23 ?_
    obtain ⟨h2, h⟩ := h
    refine q_iald (pc := 24) (c := 50) C ⟨rfl, rfl⟩ h2 d_Md_jumpOf_24 ?_
    refine q_isub (pc := 25) C d_Md_jumpOf_25 ?_
    exact q_iret (pc := 26) C hr d_Md_jumpOf_26 ⟨rfl, h⟩
  have h := h4 hc
  refine q_aload_n (pc := 10) C d_Md_jumpOf_10 rfl 0 rfl ?_
  refine q_get (pc := 11) (c := 43) (ci := 7) (k := 11) (v := .int (σ 43 11)) C rfl (by decide) (by decide) wd_744 rfl d_Md_jumpOf_11 ?_
  refine q_goto (pc := 14) 25 C d_Md_jumpOf_14 (by decide) ?_
  refine q_isub (pc := 25) C d_Md_jumpOf_25 ?_
  exact q_iret (pc := 26) C hr d_Md_jumpOf_26 ⟨rfl, h⟩
theorem d_Md_jump_0 : decode prog_9_method_50_code 0 = .ok (.aload_n 0, 1) := by decide +kernel
theorem d_Md_jump_1 : decode prog_9_method_50_code 1 = .ok (.iload_n 1, 1) := by decide +kernel
theorem d_Md_jump_2 : decode prog_9_method_50_code 2 = .ok (.invokevirtual 166, 3) := by decide +kernel
theorem d_Md_jump_5 : decode prog_9_method_50_code 5 = .ok (.ifCond .eq 14, 3) := by decide +kernel
theorem d_Md_jump_8 : decode prog_9_method_50_code 8 = .ok (.aload_n 0, 1) := by decide +kernel
theorem d_Md_jump_9 : decode prog_9_method_50_code 9 = .ok (.iload_n 1, 1) := by decide +kernel
theorem d_Md_jump_10 : decode prog_9_method_50_code 10 = .ok (.invokevirtual 254, 3) := by decide +kernel
theorem d_Md_jump_13 : decode prog_9_method_50_code 13 = .ok (.bipush 100, 2) := by decide +kernel
theorem d_Md_jump_15 : decode prog_9_method_50_code 15 = .ok (.iadd, 1) := by decide +kernel
theorem d_Md_jump_16 : decode prog_9_method_50_code 16 = .ok (.goto 4, 3) := by decide +kernel
theorem d_Md_jump_19 : decode prog_9_method_50_code 19 = .ok (.iconst (-1), 1) := by decide +kernel
theorem d_Md_jump_20 : decode prog_9_method_50_code 20 = .ok (.ireturn, 1) := by decide +kernel
abbrev y_Md_jump : MethodName := ⟨"LoadCyclesModel", "jump", "(I)I"⟩
theorem mi_Md_jump : miV y_Md_jump prog_9_method_50_code 2 (some .int) 1 := ⟨wd_1025, wd_1026, wd_72, wd_1027, by decide, by decide, by decide +kernel⟩
def w_Md_jump (x1 : Int32) (σ : Sg) (K : Int32 → Prop) : Prop :=
  w_Md_isTime x1 σ (fun u2 => ((u2 = 0 → K (-1 : Int32)) ∧ (¬ u2 = 0 → w_Md_jumpOf x1 σ (fun u10 => K (u10 + (100 : Int32))))))
set_option maxHeartbeats 4000000 in
theorem m_Md_jump {Y : Yx} {x1 : Int32} {σ : Sg} {K : Int32 → Prop} (hY : YD Y)  (h : w_Md_jump x1 σ K) : MetI Y y_Md_jump prog_9_method_50_code 2 (.int) 2 46 [.ref (ya Y 43), .int x1] σ (fun r τ => τ = σ ∧ K r) := by
  refine met_I [(0, .ref (ya Y 43)), (1, .int x1)] hY (by decide) (Nat.le_of_ble_eq_true rfl) rfl (fun X C hr => ?_)
  unfold w_Md_jump at h
  refine q_aload_n (pc := 0) C d_Md_jump_0 rfl 0 rfl ?_
  refine q_iload_n (pc := 1) C d_Md_jump_1 rfl 1 rfl ?_
  refine q_callVIr (pc := 2) (st := []) (d := 43) C (m_Md_isTime hY h) mi_Md_isTime rfl (by decide) rfl wd_903 rfl rfl (Nat.le_of_ble_eq_true rfl) (by decide) (by decide) d_Md_jump_2 (fun u2 h => ?_)
  obtain ⟨h1, h2⟩ := h
  refine q_if_eq (pc := 5) 19 C d_Md_jump_5 (by decide) (fun hc => ?_) (fun hc => ?_)
  · have h := h1 hc
    refine q_iconst (pc := 19) (v := -1) C d_Md_jump_19 (by decide) ?_
    exact q_iret (pc := 20) C hr d_Md_jump_20 ⟨rfl, h⟩
  have h := h2 hc
  refine q_aload_n (pc := 8) C d_Md_jump_8 rfl 0 rfl ?_
  refine q_iload_n (pc := 9) C d_Md_jump_9 rfl 1 rfl ?_
  refine q_callVIr (pc := 10) (st := []) (d := 43) C (m_Md_jumpOf hY h) mi_Md_jumpOf rfl (by decide) rfl wd_1028 rfl rfl (Nat.le_of_ble_eq_true rfl) (by decide) (by decide) d_Md_jump_10 (fun u10 h => ?_)
  refine q_bipush (pc := 13) (v := 100) C d_Md_jump_13 (by decide) ?_
  refine q_iadd (pc := 15) C d_Md_jump_15 ?_
  refine q_goto (pc := 16) 20 C d_Md_jump_16 (by decide) ?_
  exact q_iret (pc := 20) C hr d_Md_jump_20 ⟨rfl, h⟩
theorem d_Md_moreOf_0 : decode prog_9_method_51_code 0 = .ok (.aload_n 0, 1) := by decide +kernel
theorem d_Md_moreOf_1 : decode prog_9_method_51_code 1 = .ok (.iload_n 1, 1) := by decide +kernel
theorem d_Md_moreOf_2 : decode prog_9_method_51_code 2 = .ok (.iload_n 2, 1) := by decide +kernel
theorem d_Md_moreOf_3 : decode prog_9_method_51_code 3 = .ok (.invokevirtual 208, 3) := by decide +kernel
theorem d_Md_moreOf_6 : decode prog_9_method_51_code 6 = .ok (.istore_n 3, 1) := by decide +kernel
theorem d_Md_moreOf_7 : decode prog_9_method_51_code 7 = .ok (.iload_n 3, 1) := by decide +kernel
theorem d_Md_moreOf_8 : decode prog_9_method_51_code 8 = .ok (.ifCond .ne 7, 3) := by decide +kernel
theorem d_Md_moreOf_11 : decode prog_9_method_51_code 11 = .ok (.iconst 0, 1) := by decide +kernel
theorem d_Md_moreOf_12 : decode prog_9_method_51_code 12 = .ok (.goto 11, 3) := by decide +kernel
theorem d_Md_moreOf_15 : decode prog_9_method_51_code 15 = .ok (.aload_n 0, 1) := by decide +kernel
theorem d_Md_moreOf_16 : decode prog_9_method_51_code 16 = .ok (.iload_n 2, 1) := by decide +kernel
theorem d_Md_moreOf_17 : decode prog_9_method_51_code 17 = .ok (.iload_n 3, 1) := by decide +kernel
theorem d_Md_moreOf_18 : decode prog_9_method_51_code 18 = .ok (.iconst 1, 1) := by decide +kernel
theorem d_Md_moreOf_19 : decode prog_9_method_51_code 19 = .ok (.isub, 1) := by decide +kernel
theorem d_Md_moreOf_20 : decode prog_9_method_51_code 20 = .ok (.invokevirtual 158, 3) := by decide +kernel
theorem d_Md_moreOf_23 : decode prog_9_method_51_code 23 = .ok (.istore 4, 2) := by decide +kernel
theorem d_Md_moreOf_25 : decode prog_9_method_51_code 25 = .ok (.iload_n 3, 1) := by decide +kernel
theorem d_Md_moreOf_26 : decode prog_9_method_51_code 26 = .ok (.aload_n 0, 1) := by decide +kernel
theorem d_Md_moreOf_27 : decode prog_9_method_51_code 27 = .ok (.getfield 22, 3) := by decide +kernel
theorem d_Md_moreOf_30 : decode prog_9_method_51_code 30 = .ok (.iload_n 2, 1) := by decide +kernel
theorem d_Md_moreOf_31 : decode prog_9_method_51_code 31 = .ok (.iaload, 1) := by decide +kernel
theorem d_Md_moreOf_32 : decode prog_9_method_51_code 32 = .ok (.if_icmp .ne 7, 3) := by decide +kernel
theorem d_Md_moreOf_35 : decode prog_9_method_51_code 35 = .ok (.iconst 0, 1) := by decide +kernel
theorem d_Md_moreOf_36 : decode prog_9_method_51_code 36 = .ok (.goto 9, 3) := by decide +kernel
theorem d_Md_moreOf_39 : decode prog_9_method_51_code 39 = .ok (.aload_n 0, 1) := by decide +kernel
theorem d_Md_moreOf_40 : decode prog_9_method_51_code 40 = .ok (.iload_n 2, 1) := by decide +kernel
theorem d_Md_moreOf_41 : decode prog_9_method_51_code 41 = .ok (.iload_n 3, 1) := by decide +kernel
theorem d_Md_moreOf_42 : decode prog_9_method_51_code 42 = .ok (.invokevirtual 158, 3) := by decide +kernel
theorem d_Md_moreOf_45 : decode prog_9_method_51_code 45 = .ok (.iload 4, 2) := by decide +kernel
theorem d_Md_moreOf_47 : decode prog_9_method_51_code 47 = .ok (.isub, 1) := by decide +kernel
theorem d_Md_moreOf_48 : decode prog_9_method_51_code 48 = .ok (.ireturn, 1) := by decide +kernel
abbrev y_Md_moreOf : MethodName := ⟨"LoadCyclesModel", "moreOf", "(II)I"⟩
theorem mi_Md_moreOf : miV y_Md_moreOf prog_9_method_51_code 5 (some .int) 2 := ⟨wd_1038, wd_59, wd_72, wd_1039, by decide, by decide, by decide +kernel⟩
def B_Md_moreOf_23 (x1 : Int32) (x2 : Int32) (σ : Sg) (K : Int32 → Prop) (v3 : Int32) (vs0 : Int32) : Prop :=
  (vp_in x2 4 ∧ ((¬ v3 = (σ 48 x2.toNatClampNeg) → w_Md_powerOf x2 v3 σ (fun u42 => K (u42 - vs0))) ∧ (v3 = (σ 48 x2.toNatClampNeg) → K ((0 : Int32) - vs0))))
theorem t_Md_moreOf_23 {X : Bx} {Y : Yx} {x1 : Int32} {x2 : Int32} {v3 : Int32} {vs0 : Int32} {σ : Sg} {K : Int32 → Prop}  (hY : YD Y) (C : Cx X Y prog_9_method_51_code 5 "LoadCyclesModel" 2 43) (hr : (xh X).sig.returnType = some .int)   (h : B_Md_moreOf_23 x1 x2 σ K v3 vs0) : St X Y 5 (QI X Y (fun r τ => τ = σ ∧ K r)) 23 [(0, .ref (ya Y 43)), (2, .int x2), (3, .int v3)] [.int vs0] σ := by
  unfold B_Md_moreOf_23 at h
  refine q_istore (pc := 23) [(4, .int vs0), (0, .ref (ya Y 43)), (2, .int x2), (3, .int v3)] C d_Md_moreOf_23 (by decide) rfl ?_
  refine q_iload_n (pc := 25) C d_Md_moreOf_25 rfl 3 rfl ?_
  refine q_aload_n (pc := 26) C d_Md_moreOf_26 rfl 1 rfl ?_
  refine q_get (pc := 27) (c := 43) (ci := 7) (k := 7) (v := .ref (ya Y 48)) C rfl (by decide) (by decide) wd_740 rfl d_Md_moreOf_27 ?_
  refine q_iload_n (pc := 30) C d_Md_moreOf_30 rfl 2 rfl ?_
  obtain ⟨h1, h⟩ := h
  refine q_iald (pc := 31) (c := 48) C ⟨rfl, rfl⟩ h1 d_Md_moreOf_31 ?_
  obtain ⟨h2, h3⟩ := h
  refine q_icmp_ne (pc := 32) 39 C d_Md_moreOf_32 (by decide) (fun hc => ?_) (fun hc => ?_)
  · have h := h2 hc
    refine q_aload_n (pc := 39) C d_Md_moreOf_39 rfl 1 rfl ?_
    refine q_iload_n (pc := 40) C d_Md_moreOf_40 rfl 2 rfl ?_
    refine q_iload_n (pc := 41) C d_Md_moreOf_41 rfl 3 rfl ?_
    refine q_callVIr (pc := 42) (st := []) (d := 43) C (m_Md_powerOf hY h) mi_Md_powerOf rfl (by decide) rfl wd_885 rfl rfl (Nat.le_of_ble_eq_true rfl) (by decide) (by decide) d_Md_moreOf_42 (fun u42 h => ?_)
    refine q_iload (pc := 45) C d_Md_moreOf_45 0 rfl ?_
    refine q_isub (pc := 47) C d_Md_moreOf_47 ?_
    exact q_iret (pc := 48) C hr d_Md_moreOf_48 ⟨rfl, h⟩
  have h := h3 hc
  refine q_iconst (pc := 35) (v := 0) C d_Md_moreOf_35 (by decide) ?_
  refine q_goto (pc := 36) 45 C d_Md_moreOf_36 (by decide) ?_
  refine q_iload (pc := 45) C d_Md_moreOf_45 0 rfl ?_
  refine q_isub (pc := 47) C d_Md_moreOf_47 ?_
  exact q_iret (pc := 48) C hr d_Md_moreOf_48 ⟨rfl, h⟩
def w_Md_moreOf (x1 : Int32) (x2 : Int32) (σ : Sg) (K : Int32 → Prop) : Prop :=
  w_Md_ahead x1 x2 σ (fun u3 => ((¬ u3 = 0 → w_Md_powerOf x2 (u3 - (1 : Int32)) σ (fun u20 => B_Md_moreOf_23 x1 x2 σ K u3 u20)) ∧ (u3 = 0 → B_Md_moreOf_23 x1 x2 σ K u3 (0 : Int32))))
set_option maxHeartbeats 4000000 in
theorem m_Md_moreOf {Y : Yx} {x1 : Int32} {x2 : Int32} {σ : Sg} {K : Int32 → Prop} (hY : YD Y)  (h : w_Md_moreOf x1 x2 σ K) : MetI Y y_Md_moreOf prog_9_method_51_code 5 (.int) 2 43 [.ref (ya Y 43), .int x1, .int x2] σ (fun r τ => τ = σ ∧ K r) := by
  refine met_I [(0, .ref (ya Y 43)), (1, .int x1), (2, .int x2)] hY (by decide) (Nat.le_of_ble_eq_true rfl) rfl (fun X C hr => ?_)
  unfold w_Md_moreOf at h
  refine q_aload_n (pc := 0) C d_Md_moreOf_0 rfl 0 rfl ?_
  refine q_iload_n (pc := 1) C d_Md_moreOf_1 rfl 1 rfl ?_
  refine q_iload_n (pc := 2) C d_Md_moreOf_2 rfl 2 rfl ?_
  refine q_callVIr (pc := 3) (st := []) (d := 43) C (m_Md_ahead hY h) mi_Md_ahead rfl (by decide) rfl wd_977 rfl rfl (Nat.le_of_ble_eq_true rfl) (by decide) (by decide) d_Md_moreOf_3 (fun u3 h => ?_)
  refine q_istore_n (pc := 6) [(3, .int u3), (0, .ref (ya Y 43)), (1, .int x1), (2, .int x2)] C d_Md_moreOf_6 rfl (by decide) rfl ?_
  refine q_iload_n (pc := 7) C d_Md_moreOf_7 rfl 0 rfl ?_
  obtain ⟨h4, h5⟩ := h
  refine q_if_ne (pc := 8) 15 C d_Md_moreOf_8 (by decide) (fun hc => ?_) (fun hc => ?_)
  · have h := h4 hc
    refine q_aload_n (pc := 15) C d_Md_moreOf_15 rfl 1 rfl ?_
    refine q_iload_n (pc := 16) C d_Md_moreOf_16 rfl 3 rfl ?_
    refine q_iload_n (pc := 17) C d_Md_moreOf_17 rfl 0 rfl ?_
    refine q_iconst (pc := 18) (v := 1) C d_Md_moreOf_18 (by decide) ?_
    refine q_isub (pc := 19) C d_Md_moreOf_19 ?_
    refine q_callVIr (pc := 20) (st := []) (d := 43) C (m_Md_powerOf hY h) mi_Md_powerOf rfl (by decide) rfl wd_885 rfl rfl (Nat.le_of_ble_eq_true rfl) (by decide) (by decide) d_Md_moreOf_20 (fun u20 h => ?_)
    refine q_sub [(0, .ref (ya Y 43)), (2, .int x2), (3, .int u3)] [1, 3, 0] rfl ?_
    exact t_Md_moreOf_23 hY C hr h
  have h := h5 hc
  refine q_iconst (pc := 11) (v := 0) C d_Md_moreOf_11 (by decide) ?_
  refine q_goto (pc := 12) 23 C d_Md_moreOf_12 (by decide) ?_
  refine q_sub [(0, .ref (ya Y 43)), (2, .int x2), (3, .int u3)] [1, 3, 0] rfl ?_
  exact t_Md_moreOf_23 hY C hr h
theorem d_Md_ways_0 : decode prog_9_method_52_code 0 = .ok (.aload_n 0, 1) := by decide +kernel
theorem d_Md_ways_1 : decode prog_9_method_52_code 1 = .ok (.iload_n 1, 1) := by decide +kernel
theorem d_Md_ways_2 : decode prog_9_method_52_code 2 = .ok (.invokevirtual 166, 3) := by decide +kernel
theorem d_Md_ways_5 : decode prog_9_method_52_code 5 = .ok (.ifCond .ne 5, 3) := by decide +kernel
theorem d_Md_ways_8 : decode prog_9_method_52_code 8 = .ok (.iconst (-1), 1) := by decide +kernel
theorem d_Md_ways_9 : decode prog_9_method_52_code 9 = .ok (.ireturn, 1) := by decide +kernel
theorem d_Md_ways_10 : decode prog_9_method_52_code 10 = .ok (.aload_n 0, 1) := by decide +kernel
theorem d_Md_ways_11 : decode prog_9_method_52_code 11 = .ok (.invokevirtual 202, 3) := by decide +kernel
theorem d_Md_ways_14 : decode prog_9_method_52_code 14 = .ok (.iconst 0, 1) := by decide +kernel
theorem d_Md_ways_15 : decode prog_9_method_52_code 15 = .ok (.istore_n 2, 1) := by decide +kernel
theorem d_Md_ways_16 : decode prog_9_method_52_code 16 = .ok (.iconst 0, 1) := by decide +kernel
theorem d_Md_ways_17 : decode prog_9_method_52_code 17 = .ok (.istore_n 3, 1) := by decide +kernel
theorem d_Md_ways_18 : decode prog_9_method_52_code 18 = .ok (.iload_n 3, 1) := by decide +kernel
theorem d_Md_ways_19 : decode prog_9_method_52_code 19 = .ok (.iconst 1, 1) := by decide +kernel
theorem d_Md_ways_20 : decode prog_9_method_52_code 20 = .ok (.aload_n 0, 1) := by decide +kernel
theorem d_Md_ways_21 : decode prog_9_method_52_code 21 = .ok (.getfield 93, 3) := by decide +kernel
theorem d_Md_ways_24 : decode prog_9_method_52_code 24 = .ok (.ishl, 1) := by decide +kernel
theorem d_Md_ways_25 : decode prog_9_method_52_code 25 = .ok (.if_icmp .ge 74, 3) := by decide +kernel
theorem d_Md_ways_28 : decode prog_9_method_52_code 28 = .ok (.iconst 0, 1) := by decide +kernel
theorem d_Md_ways_29 : decode prog_9_method_52_code 29 = .ok (.istore 4, 2) := by decide +kernel
theorem d_Md_ways_31 : decode prog_9_method_52_code 31 = .ok (.iconst 0, 1) := by decide +kernel
theorem d_Md_ways_32 : decode prog_9_method_52_code 32 = .ok (.istore 5, 2) := by decide +kernel
theorem d_Md_ways_34 : decode prog_9_method_52_code 34 = .ok (.iload 5, 2) := by decide +kernel
theorem d_Md_ways_36 : decode prog_9_method_52_code 36 = .ok (.aload_n 0, 1) := by decide +kernel
theorem d_Md_ways_37 : decode prog_9_method_52_code 37 = .ok (.getfield 93, 3) := by decide +kernel
theorem d_Md_ways_40 : decode prog_9_method_52_code 40 = .ok (.if_icmp .ge 35, 3) := by decide +kernel
theorem d_Md_ways_43 : decode prog_9_method_52_code 43 = .ok (.iload 4, 2) := by decide +kernel
theorem d_Md_ways_45 : decode prog_9_method_52_code 45 = .ok (.iload_n 3, 1) := by decide +kernel
theorem d_Md_ways_46 : decode prog_9_method_52_code 46 = .ok (.iload 5, 2) := by decide +kernel
theorem d_Md_ways_48 : decode prog_9_method_52_code 48 = .ok (.ishr, 1) := by decide +kernel
theorem d_Md_ways_49 : decode prog_9_method_52_code 49 = .ok (.iconst 1, 1) := by decide +kernel
theorem d_Md_ways_50 : decode prog_9_method_52_code 50 = .ok (.iand, 1) := by decide +kernel
theorem d_Md_ways_51 : decode prog_9_method_52_code 51 = .ok (.iconst 1, 1) := by decide +kernel
theorem d_Md_ways_52 : decode prog_9_method_52_code 52 = .ok (.if_icmp .ne 13, 3) := by decide +kernel
theorem d_Md_ways_55 : decode prog_9_method_52_code 55 = .ok (.aload_n 0, 1) := by decide +kernel
theorem d_Md_ways_56 : decode prog_9_method_52_code 56 = .ok (.iload_n 1, 1) := by decide +kernel
theorem d_Md_ways_57 : decode prog_9_method_52_code 57 = .ok (.iload 5, 2) := by decide +kernel
theorem d_Md_ways_59 : decode prog_9_method_52_code 59 = .ok (.invokevirtual 257, 3) := by decide +kernel
theorem d_Md_ways_62 : decode prog_9_method_52_code 62 = .ok (.goto 4, 3) := by decide +kernel
theorem d_Md_ways_65 : decode prog_9_method_52_code 65 = .ok (.iconst 0, 1) := by decide +kernel
theorem d_Md_ways_66 : decode prog_9_method_52_code 66 = .ok (.iadd, 1) := by decide +kernel
theorem d_Md_ways_67 : decode prog_9_method_52_code 67 = .ok (.istore 4, 2) := by decide +kernel
theorem d_Md_ways_69 : decode prog_9_method_52_code 69 = .ok (.iinc 5 1, 3) := by decide +kernel
theorem d_Md_ways_72 : decode prog_9_method_52_code 72 = .ok (.goto (-38), 3) := by decide +kernel
theorem d_Md_ways_75 : decode prog_9_method_52_code 75 = .ok (.iload_n 2, 1) := by decide +kernel
theorem d_Md_ways_76 : decode prog_9_method_52_code 76 = .ok (.iload 4, 2) := by decide +kernel
theorem d_Md_ways_78 : decode prog_9_method_52_code 78 = .ok (.aload_n 0, 1) := by decide +kernel
theorem d_Md_ways_79 : decode prog_9_method_52_code 79 = .ok (.iload_n 1, 1) := by decide +kernel
theorem d_Md_ways_80 : decode prog_9_method_52_code 80 = .ok (.invokevirtual 254, 3) := by decide +kernel
theorem d_Md_ways_83 : decode prog_9_method_52_code 83 = .ok (.if_icmp .ne 7, 3) := by decide +kernel
theorem d_Md_ways_86 : decode prog_9_method_52_code 86 = .ok (.iconst 1, 1) := by decide +kernel
theorem d_Md_ways_87 : decode prog_9_method_52_code 87 = .ok (.goto 4, 3) := by decide +kernel
theorem d_Md_ways_90 : decode prog_9_method_52_code 90 = .ok (.iconst 0, 1) := by decide +kernel
theorem d_Md_ways_91 : decode prog_9_method_52_code 91 = .ok (.iadd, 1) := by decide +kernel
theorem d_Md_ways_92 : decode prog_9_method_52_code 92 = .ok (.istore_n 2, 1) := by decide +kernel
theorem d_Md_ways_93 : decode prog_9_method_52_code 93 = .ok (.iinc 3 1, 3) := by decide +kernel
theorem d_Md_ways_96 : decode prog_9_method_52_code 96 = .ok (.goto (-78), 3) := by decide +kernel
theorem d_Md_ways_99 : decode prog_9_method_52_code 99 = .ok (.iload_n 2, 1) := by decide +kernel
theorem d_Md_ways_100 : decode prog_9_method_52_code 100 = .ok (.ireturn, 1) := by decide +kernel
abbrev y_Md_ways : MethodName := ⟨"LoadCyclesModel", "ways", "(I)I"⟩
theorem mi_Md_ways : miV y_Md_ways prog_9_method_52_code 6 (some .int) 1 := ⟨wd_1033, wd_1034, wd_72, wd_1035, by decide, by decide, by decide +kernel⟩
def B_Md_ways_91 (x1 : Int32) (K : Int32 → Sg → Prop) (r18 : Int32 → Int32 → Sg → Prop) (v3 : Int32) (vs0 : Int32) (vs1 : Int32) (σ : Sg) : Prop :=
  (∀ y2_92 : Int32, y2_92 = (vs1 + vs0) → r18 y2_92 (v3 + (1 : Int32)) σ)
theorem t_Md_ways_91 {X : Bx} {Y : Yx} {x1 : Int32} {v3 : Int32} {vs0 : Int32} {vs1 : Int32} {K : Int32 → Sg → Prop} {r18 : Int32 → Int32 → Sg → Prop} (hY : YD Y) (C : Cx X Y prog_9_method_52_code 6 "LoadCyclesModel" 4 91) (hr : (xh X).sig.returnType = some .int)  (H18 : ∀ (v2 : Int32) (v3 : Int32) (σ : Sg), r18 v2 v3 σ → St X Y 6 (QI X Y K) 18 [(0, .ref (ya Y 43)), (1, .int x1), (2, .int v2), (3, .int v3)] [] σ)  {σ : Sg} (h : B_Md_ways_91 x1 K r18 v3 vs0 vs1 σ) : St X Y 6 (QI X Y K) 91 [(0, .ref (ya Y 43)), (1, .int x1), (3, .int v3)] [.int vs0, .int vs1] σ := by
  unfold B_Md_ways_91 at h
  refine q_iadd (pc := 91) C d_Md_ways_91 ?_
  refine q_nmi (fun y2_92 ey2_92 => ?_)
  replace h := h y2_92 ey2_92
  refine q_istore_n (pc := 92) [(2, .int y2_92), (0, .ref (ya Y 43)), (1, .int x1), (3, .int v3)] C d_Md_ways_92 rfl (by decide) rfl ?_
  refine q_iinc (pc := 93) (v3 + (1 : Int32)) [(3, .int (v3 + (1 : Int32))), (2, .int y2_92), (0, .ref (ya Y 43)), (1, .int x1)] C d_Md_ways_93 3 rfl rfl (by decide) rfl ?_
  refine q_goto (pc := 96) 18 C d_Md_ways_96 (by decide) ?_
  refine q_sub [(0, .ref (ya Y 43)), (1, .int x1), (2, .int y2_92), (3, .int (v3 + (1 : Int32)))] [2, 3, 1, 0] rfl ?_
  exact H18 y2_92 (v3 + (1 : Int32)) σ h
def B_Md_ways_66 (x1 : Int32) (K : Int32 → Sg → Prop) (r18 : Int32 → Int32 → Sg → Prop) (r34 : Int32 → Int32 → Sg → Prop) (v2 : Int32) (v3 : Int32) (v5 : Int32) (vs0 : Int32) (vs1 : Int32) (σ : Sg) : Prop :=
  (∀ y4_67 : Int32, y4_67 = (vs1 + vs0) → r34 y4_67 (v5 + (1 : Int32)) σ)
theorem t_Md_ways_66 {X : Bx} {Y : Yx} {x1 : Int32} {v2 : Int32} {v3 : Int32} {v5 : Int32} {vs0 : Int32} {vs1 : Int32} {K : Int32 → Sg → Prop} {r18 : Int32 → Int32 → Sg → Prop} {r34 : Int32 → Int32 → Sg → Prop} (hY : YD Y) (C : Cx X Y prog_9_method_52_code 6 "LoadCyclesModel" 4 91) (hr : (xh X).sig.returnType = some .int)  (H18 : ∀ (v2 : Int32) (v3 : Int32) (σ : Sg), r18 v2 v3 σ → St X Y 6 (QI X Y K) 18 [(0, .ref (ya Y 43)), (1, .int x1), (2, .int v2), (3, .int v3)] [] σ) (H34 : ∀ (v4 : Int32) (v5 : Int32) (σ : Sg), r34 v4 v5 σ → St X Y 6 (QI X Y K) 34 [(0, .ref (ya Y 43)), (1, .int x1), (2, .int v2), (3, .int v3), (4, .int v4), (5, .int v5)] [] σ)  {σ : Sg} (h : B_Md_ways_66 x1 K r18 r34 v2 v3 v5 vs0 vs1 σ) : St X Y 6 (QI X Y K) 66 [(0, .ref (ya Y 43)), (1, .int x1), (2, .int v2), (3, .int v3), (5, .int v5)] [.int vs0, .int vs1] σ := by
  unfold B_Md_ways_66 at h
  refine q_iadd (pc := 66) C d_Md_ways_66 ?_
  refine q_nmi (fun y4_67 ey4_67 => ?_)
  replace h := h y4_67 ey4_67
  refine q_istore (pc := 67) [(4, .int y4_67), (0, .ref (ya Y 43)), (1, .int x1), (2, .int v2), (3, .int v3), (5, .int v5)] C d_Md_ways_67 (by decide) rfl ?_
  refine q_iinc (pc := 69) (v5 + (1 : Int32)) [(5, .int (v5 + (1 : Int32))), (4, .int y4_67), (0, .ref (ya Y 43)), (1, .int x1), (2, .int v2), (3, .int v3)] C d_Md_ways_69 5 rfl rfl (by decide) rfl ?_
  refine q_goto (pc := 72) 34 C d_Md_ways_72 (by decide) ?_
  refine q_sub [(0, .ref (ya Y 43)), (1, .int x1), (2, .int v2), (3, .int v3), (4, .int y4_67), (5, .int (v5 + (1 : Int32)))] [2, 3, 4, 5, 1, 0] rfl ?_
  exact H34 y4_67 (v5 + (1 : Int32)) σ h
def L_Md_ways_34 (x1 : Int32) (v2 : Int32) (v3 : Int32) (K : Int32 → Sg → Prop) (r18 : Int32 → Int32 → Sg → Prop) : Nat → Int32 → Int32 → Sg → Prop
  | 0, _, _, _ => False
  | n + 1, v4, v5, σ =>
    (((σ 43 5) ≤ v5 → w_Md_jumpOf x1 σ (fun u80 => ((¬ v4 = u80 → B_Md_ways_91 x1 K r18 v3 (0 : Int32) v2 σ) ∧ (v4 = u80 → B_Md_ways_91 x1 K r18 v3 (1 : Int32) v2 σ)))) ∧ (¬ (σ 43 5) ≤ v5 → ((¬ ((v3 >>> (v5 &&& 31)) &&& (1 : Int32)) = (1 : Int32) → B_Md_ways_66 x1 K r18 (fun a0 a1 a2 => L_Md_ways_34 x1 v2 v3 K r18 n a0 a1 a2) v2 v3 v5 (0 : Int32) v4 σ) ∧ (((v3 >>> (v5 &&& 31)) &&& (1 : Int32)) = (1 : Int32) → w_Md_moreOf x1 v5 σ (fun u59 => B_Md_ways_66 x1 K r18 (fun a0 a1 a2 => L_Md_ways_34 x1 v2 v3 K r18 n a0 a1 a2) v2 v3 v5 u59 v4 σ)))))
theorem t_Md_ways_34 {X : Bx} {Y : Yx} {x1 : Int32} {v2 : Int32} {v3 : Int32} {K : Int32 → Sg → Prop} {r18 : Int32 → Int32 → Sg → Prop} (hY : YD Y) (C : Cx X Y prog_9_method_52_code 6 "LoadCyclesModel" 4 91) (hr : (xh X).sig.returnType = some .int)  (H18 : ∀ (v2 : Int32) (v3 : Int32) (σ : Sg), r18 v2 v3 σ → St X Y 6 (QI X Y K) 18 [(0, .ref (ya Y 43)), (1, .int x1), (2, .int v2), (3, .int v3)] [] σ) : ∀ (n : Nat) (v4 : Int32) (v5 : Int32) (σ : Sg), L_Md_ways_34 x1 v2 v3 K r18 n v4 v5 σ → St X Y 6 (QI X Y K) 34 [(0, .ref (ya Y 43)), (1, .int x1), (2, .int v2), (3, .int v3), (4, .int v4), (5, .int v5)] [] σ := by
  intro n
  induction n with
  | zero => intro v4 v5 σ h; exact h.elim
  | succ n ih =>
    intro v4 v5 σ h
    unfold L_Md_ways_34 at h
    refine q_iload (pc := 34) C d_Md_ways_34 5 rfl ?_
    refine q_aload_n (pc := 36) C d_Md_ways_36 rfl 0 rfl ?_
    refine q_get (pc := 37) (c := 43) (ci := 7) (k := 5) (v := .int (σ 43 5)) C rfl (by decide) (by decide) wd_738 rfl d_Md_ways_37 ?_
    obtain ⟨h5, h6⟩ := h
    refine q_icmp_ge (pc := 40) 75 C d_Md_ways_40 (by decide) (fun hc => ?_) (fun hc => ?_)
    · have h := h5 hc
      refine q_iload_n (pc := 75) C d_Md_ways_75 rfl 2 rfl ?_
      refine q_iload (pc := 76) C d_Md_ways_76 4 rfl ?_
      refine q_aload_n (pc := 78) C d_Md_ways_78 rfl 0 rfl ?_
      refine q_iload_n (pc := 79) C d_Md_ways_79 rfl 1 rfl ?_
      refine q_callVIr (pc := 80) (st := [.int v4, .int v2]) (d := 43) C (m_Md_jumpOf hY h) mi_Md_jumpOf rfl (by decide) rfl wd_1028 rfl rfl (Nat.le_of_ble_eq_true rfl) (by decide) (by decide) d_Md_ways_80 (fun u80 h => ?_)
      obtain ⟨h1, h2⟩ := h
      refine q_icmp_ne (pc := 83) 90 C d_Md_ways_83 (by decide) (fun hc => ?_) (fun hc => ?_)
      · have h := h1 hc
        refine q_iconst (pc := 90) (v := 0) C d_Md_ways_90 (by decide) ?_
        refine q_sub [(0, .ref (ya Y 43)), (1, .int x1), (3, .int v3)] [0, 1, 3] rfl ?_
        exact t_Md_ways_91 hY C hr H18 h
      have h := h2 hc
      refine q_iconst (pc := 86) (v := 1) C d_Md_ways_86 (by decide) ?_
      refine q_goto (pc := 87) 91 C d_Md_ways_87 (by decide) ?_
      refine q_sub [(0, .ref (ya Y 43)), (1, .int x1), (3, .int v3)] [0, 1, 3] rfl ?_
      exact t_Md_ways_91 hY C hr H18 h
    have h := h6 hc
    refine q_iload (pc := 43) C d_Md_ways_43 4 rfl ?_
    refine q_iload_n (pc := 45) C d_Md_ways_45 rfl 3 rfl ?_
    refine q_iload (pc := 46) C d_Md_ways_46 5 rfl ?_
    refine q_ishr (pc := 48) C d_Md_ways_48 ?_
    refine q_iconst (pc := 49) (v := 1) C d_Md_ways_49 (by decide) ?_
    refine q_iand (pc := 50) C d_Md_ways_50 ?_
    refine q_iconst (pc := 51) (v := 1) C d_Md_ways_51 (by decide) ?_
    obtain ⟨h3, h4⟩ := h
    refine q_icmp_ne (pc := 52) 65 C d_Md_ways_52 (by decide) (fun hc => ?_) (fun hc => ?_)
    · have h := h3 hc
      refine q_iconst (pc := 65) (v := 0) C d_Md_ways_65 (by decide) ?_
      refine q_sub [(0, .ref (ya Y 43)), (1, .int x1), (2, .int v2), (3, .int v3), (5, .int v5)] [0, 1, 2, 3, 5] rfl ?_
      exact t_Md_ways_66 hY C hr H18 ih h
    have h := h4 hc
    refine q_aload_n (pc := 55) C d_Md_ways_55 rfl 0 rfl ?_
    refine q_iload_n (pc := 56) C d_Md_ways_56 rfl 1 rfl ?_
    refine q_iload (pc := 57) C d_Md_ways_57 5 rfl ?_
    refine q_callVIr (pc := 59) (st := [.int v4]) (d := 43) C (m_Md_moreOf hY h) mi_Md_moreOf rfl (by decide) rfl wd_1036 rfl rfl (Nat.le_of_ble_eq_true rfl) (by decide) (by decide) d_Md_ways_59 (fun u59 h => ?_)
    refine q_goto (pc := 62) 66 C d_Md_ways_62 (by decide) ?_
    refine q_sub [(0, .ref (ya Y 43)), (1, .int x1), (2, .int v2), (3, .int v3), (5, .int v5)] [0, 1, 2, 3, 5] rfl ?_
    exact t_Md_ways_66 hY C hr H18 ih h
def L_Md_ways_18 (x1 : Int32) (K : Int32 → Sg → Prop) : Nat → Int32 → Int32 → Sg → Prop
  | 0, _, _, _ => False
  | n + 1, v2, v3, σ =>
    ((((1 : Int32) <<< ((σ 43 5) &&& 31)) ≤ v3 → K v2 σ) ∧ (¬ ((1 : Int32) <<< ((σ 43 5) &&& 31)) ≤ v3 → (∃ n7 : Nat, L_Md_ways_34 x1 v2 v3 K (fun a0 a1 a2 => L_Md_ways_18 x1 K n a0 a1 a2) n7 (0 : Int32) (0 : Int32) σ)))
theorem t_Md_ways_18 {X : Bx} {Y : Yx} {x1 : Int32} {K : Int32 → Sg → Prop}  (hY : YD Y) (C : Cx X Y prog_9_method_52_code 6 "LoadCyclesModel" 4 91) (hr : (xh X).sig.returnType = some .int)  : ∀ (n : Nat) (v2 : Int32) (v3 : Int32) (σ : Sg), L_Md_ways_18 x1 K n v2 v3 σ → St X Y 6 (QI X Y K) 18 [(0, .ref (ya Y 43)), (1, .int x1), (2, .int v2), (3, .int v3)] [] σ := by
  intro n
  induction n with
  | zero => intro v2 v3 σ h; exact h.elim
  | succ n ih =>
    intro v2 v3 σ h
    unfold L_Md_ways_18 at h
    refine q_iload_n (pc := 18) C d_Md_ways_18 rfl 3 rfl ?_
    refine q_iconst (pc := 19) (v := 1) C d_Md_ways_19 (by decide) ?_
    refine q_aload_n (pc := 20) C d_Md_ways_20 rfl 0 rfl ?_
    refine q_get (pc := 21) (c := 43) (ci := 7) (k := 5) (v := .int (σ 43 5)) C rfl (by decide) (by decide) wd_738 rfl d_Md_ways_21 ?_
    refine q_ishl (pc := 24) C d_Md_ways_24 ?_
    obtain ⟨h8, h9⟩ := h
    refine q_icmp_ge (pc := 25) 99 C d_Md_ways_25 (by decide) (fun hc => ?_) (fun hc => ?_)
    · have h := h8 hc
      refine q_iload_n (pc := 99) C d_Md_ways_99 rfl 2 rfl ?_
      exact q_iret (pc := 100) C hr d_Md_ways_100 h
    have h := h9 hc
    refine q_iconst (pc := 28) (v := 0) C d_Md_ways_28 (by decide) ?_
    refine q_istore (pc := 29) [(4, .int (0 : Int32)), (0, .ref (ya Y 43)), (1, .int x1), (2, .int v2), (3, .int v3)] C d_Md_ways_29 (by decide) rfl ?_
    refine q_iconst (pc := 31) (v := 0) C d_Md_ways_31 (by decide) ?_
    refine q_istore (pc := 32) [(5, .int (0 : Int32)), (4, .int (0 : Int32)), (0, .ref (ya Y 43)), (1, .int x1), (2, .int v2), (3, .int v3)] C d_Md_ways_32 (by decide) rfl ?_
    obtain ⟨n7, h⟩ := h
    refine q_sub [(0, .ref (ya Y 43)), (1, .int x1), (2, .int v2), (3, .int v3), (4, .int (0 : Int32)), (5, .int (0 : Int32))] [2, 3, 4, 5, 1, 0] rfl ?_
    exact t_Md_ways_34 hY C hr ih n7 (0 : Int32) (0 : Int32) σ h
def w_Md_ways (x1 : Int32) (σ : Sg) (K : Int32 → Sg → Prop) : Prop :=
  w_Md_isTime x1 σ (fun u2 => ((¬ u2 = 0 → w_Md_findBest σ (fun τ11 => (∃ n10 : Nat, L_Md_ways_18 x1 K n10 (0 : Int32) (0 : Int32) τ11))) ∧ (u2 = 0 → K (-1 : Int32) σ)))
set_option maxHeartbeats 4000000 in
theorem m_Md_ways {Y : Yx} {x1 : Int32} {σ : Sg} {K : Int32 → Sg → Prop} (hY : YD Y)  (h : w_Md_ways x1 σ K) : MetI Y y_Md_ways prog_9_method_52_code 6 (.int) 4 91 [.ref (ya Y 43), .int x1] σ K := by
  refine met_I [(0, .ref (ya Y 43)), (1, .int x1)] hY (by decide) (Nat.le_of_ble_eq_true rfl) rfl (fun X C hr => ?_)
  unfold w_Md_ways at h
  refine q_aload_n (pc := 0) C d_Md_ways_0 rfl 0 rfl ?_
  refine q_iload_n (pc := 1) C d_Md_ways_1 rfl 1 rfl ?_
  refine q_callVIr (pc := 2) (st := []) (d := 43) C (m_Md_isTime hY h) mi_Md_isTime rfl (by decide) rfl wd_903 rfl rfl (Nat.le_of_ble_eq_true rfl) (by decide) (by decide) d_Md_ways_2 (fun u2 h => ?_)
  obtain ⟨h11, h12⟩ := h
  refine q_if_ne (pc := 5) 10 C d_Md_ways_5 (by decide) (fun hc => ?_) (fun hc => ?_)
  · have h := h11 hc
    refine q_aload_n (pc := 10) C d_Md_ways_10 rfl 0 rfl ?_
    refine q_callVV (pc := 11) (st := []) (d := 43) C (m_Md_findBest hY h) mi_Md_findBest rfl (by decide) rfl wd_919 rfl rfl (Nat.le_of_ble_eq_true rfl) (by decide) (by decide) d_Md_ways_11 (fun τ11 h => ?_)
    refine q_iconst (pc := 14) (v := 0) C d_Md_ways_14 (by decide) ?_
    refine q_istore_n (pc := 15) [(2, .int (0 : Int32)), (0, .ref (ya Y 43)), (1, .int x1)] C d_Md_ways_15 rfl (by decide) rfl ?_
    refine q_iconst (pc := 16) (v := 0) C d_Md_ways_16 (by decide) ?_
    refine q_istore_n (pc := 17) [(3, .int (0 : Int32)), (2, .int (0 : Int32)), (0, .ref (ya Y 43)), (1, .int x1)] C d_Md_ways_17 rfl (by decide) rfl ?_
    obtain ⟨n10, h⟩ := h
    refine q_sub [(0, .ref (ya Y 43)), (1, .int x1), (2, .int (0 : Int32)), (3, .int (0 : Int32))] [2, 3, 1, 0] rfl ?_
    exact t_Md_ways_18 hY C hr n10 (0 : Int32) (0 : Int32) τ11 h
  have h := h12 hc
  refine q_iconst (pc := 8) (v := -1) C d_Md_ways_8 (by decide) ?_
  exact q_iret (pc := 9) C hr d_Md_ways_9 h
theorem d_Md_longest_0 : decode prog_9_method_53_code 0 = .ok (.aload_n 0, 1) := by decide +kernel
theorem d_Md_longest_1 : decode prog_9_method_53_code 1 = .ok (.iload_n 1, 1) := by decide +kernel
theorem d_Md_longest_2 : decode prog_9_method_53_code 2 = .ok (.invokevirtual 147, 3) := by decide +kernel
theorem d_Md_longest_5 : decode prog_9_method_53_code 5 = .ok (.ifCond .ne 5, 3) := by decide +kernel
theorem d_Md_longest_8 : decode prog_9_method_53_code 8 = .ok (.iconst (-1), 1) := by decide +kernel
theorem d_Md_longest_9 : decode prog_9_method_53_code 9 = .ok (.ireturn, 1) := by decide +kernel
theorem d_Md_longest_10 : decode prog_9_method_53_code 10 = .ok (.aload_n 0, 1) := by decide +kernel
theorem d_Md_longest_11 : decode prog_9_method_53_code 11 = .ok (.invokevirtual 202, 3) := by decide +kernel
theorem d_Md_longest_14 : decode prog_9_method_53_code 14 = .ok (.iconst 0, 1) := by decide +kernel
theorem d_Md_longest_15 : decode prog_9_method_53_code 15 = .ok (.istore_n 2, 1) := by decide +kernel
theorem d_Md_longest_16 : decode prog_9_method_53_code 16 = .ok (.iconst 0, 1) := by decide +kernel
theorem d_Md_longest_17 : decode prog_9_method_53_code 17 = .ok (.istore_n 3, 1) := by decide +kernel
theorem d_Md_longest_18 : decode prog_9_method_53_code 18 = .ok (.iconst 0, 1) := by decide +kernel
theorem d_Md_longest_19 : decode prog_9_method_53_code 19 = .ok (.istore 4, 2) := by decide +kernel
theorem d_Md_longest_21 : decode prog_9_method_53_code 21 = .ok (.iload 4, 2) := by decide +kernel
theorem d_Md_longest_23 : decode prog_9_method_53_code 23 = .ok (.aload_n 0, 1) := by decide +kernel
theorem d_Md_longest_24 : decode prog_9_method_53_code 24 = .ok (.getfield 96, 3) := by decide +kernel
theorem d_Md_longest_27 : decode prog_9_method_53_code 27 = .ok (.if_icmp .ge 42, 3) := by decide +kernel
theorem d_Md_longest_30 : decode prog_9_method_53_code 30 = .ok (.aload_n 0, 1) := by decide +kernel
theorem d_Md_longest_31 : decode prog_9_method_53_code 31 = .ok (.getfield 64, 3) := by decide +kernel
theorem d_Md_longest_34 : decode prog_9_method_53_code 34 = .ok (.iload 4, 2) := by decide +kernel
theorem d_Md_longest_36 : decode prog_9_method_53_code 36 = .ok (.iaload, 1) := by decide +kernel
theorem d_Md_longest_37 : decode prog_9_method_53_code 37 = .ok (.iload_n 1, 1) := by decide +kernel
theorem d_Md_longest_38 : decode prog_9_method_53_code 38 = .ok (.invokestatic 172, 3) := by decide +kernel
theorem d_Md_longest_41 : decode prog_9_method_53_code 41 = .ok (.ifCond .ne 7, 3) := by decide +kernel
theorem d_Md_longest_44 : decode prog_9_method_53_code 44 = .ok (.iconst 0, 1) := by decide +kernel
theorem d_Md_longest_45 : decode prog_9_method_53_code 45 = .ok (.goto 6, 3) := by decide +kernel
theorem d_Md_longest_48 : decode prog_9_method_53_code 48 = .ok (.iload_n 3, 1) := by decide +kernel
theorem d_Md_longest_49 : decode prog_9_method_53_code 49 = .ok (.iconst 1, 1) := by decide +kernel
theorem d_Md_longest_50 : decode prog_9_method_53_code 50 = .ok (.iadd, 1) := by decide +kernel
theorem d_Md_longest_51 : decode prog_9_method_53_code 51 = .ok (.istore_n 3, 1) := by decide +kernel
theorem d_Md_longest_52 : decode prog_9_method_53_code 52 = .ok (.iload_n 3, 1) := by decide +kernel
theorem d_Md_longest_53 : decode prog_9_method_53_code 53 = .ok (.iload_n 2, 1) := by decide +kernel
theorem d_Md_longest_54 : decode prog_9_method_53_code 54 = .ok (.if_icmp .le 7, 3) := by decide +kernel
theorem d_Md_longest_57 : decode prog_9_method_53_code 57 = .ok (.iload_n 3, 1) := by decide +kernel
theorem d_Md_longest_58 : decode prog_9_method_53_code 58 = .ok (.goto 4, 3) := by decide +kernel
theorem d_Md_longest_61 : decode prog_9_method_53_code 61 = .ok (.iload_n 2, 1) := by decide +kernel
theorem d_Md_longest_62 : decode prog_9_method_53_code 62 = .ok (.istore_n 2, 1) := by decide +kernel
theorem d_Md_longest_63 : decode prog_9_method_53_code 63 = .ok (.iinc 4 1, 3) := by decide +kernel
theorem d_Md_longest_66 : decode prog_9_method_53_code 66 = .ok (.goto (-45), 3) := by decide +kernel
theorem d_Md_longest_69 : decode prog_9_method_53_code 69 = .ok (.iload_n 2, 1) := by decide +kernel
theorem d_Md_longest_70 : decode prog_9_method_53_code 70 = .ok (.ireturn, 1) := by decide +kernel
abbrev y_Md_longest : MethodName := ⟨"LoadCyclesModel", "longest", "(I)I"⟩
theorem mi_Md_longest : miV y_Md_longest prog_9_method_53_code 5 (some .int) 1 := ⟨wd_1041, wd_1042, wd_72, wd_1043, by decide, by decide, by decide +kernel⟩
def B_Md_longest_62 (x1 : Int32) (K : Int32 → Sg → Prop) (r21 : Int32 → Int32 → Int32 → Sg → Prop) (v3 : Int32) (v4 : Int32) (vs0 : Int32) (σ : Sg) : Prop :=
  r21 vs0 v3 (v4 + (1 : Int32)) σ
theorem t_Md_longest_62 {X : Bx} {Y : Yx} {x1 : Int32} {v3 : Int32} {v4 : Int32} {vs0 : Int32} {K : Int32 → Sg → Prop} {r21 : Int32 → Int32 → Int32 → Sg → Prop} (hY : YD Y) (C : Cx X Y prog_9_method_53_code 5 "LoadCyclesModel" 4 91) (hr : (xh X).sig.returnType = some .int)  (H21 : ∀ (v2 : Int32) (v3 : Int32) (v4 : Int32) (σ : Sg), r21 v2 v3 v4 σ → St X Y 5 (QI X Y K) 21 [(0, .ref (ya Y 43)), (1, .int x1), (2, .int v2), (3, .int v3), (4, .int v4)] [] σ)  {σ : Sg} (h : B_Md_longest_62 x1 K r21 v3 v4 vs0 σ) : St X Y 5 (QI X Y K) 62 [(0, .ref (ya Y 43)), (1, .int x1), (3, .int v3), (4, .int v4)] [.int vs0] σ := by
  unfold B_Md_longest_62 at h
  refine q_istore_n (pc := 62) [(2, .int vs0), (0, .ref (ya Y 43)), (1, .int x1), (3, .int v3), (4, .int v4)] C d_Md_longest_62 rfl (by decide) rfl ?_
  refine q_iinc (pc := 63) (v4 + (1 : Int32)) [(4, .int (v4 + (1 : Int32))), (2, .int vs0), (0, .ref (ya Y 43)), (1, .int x1), (3, .int v3)] C d_Md_longest_63 4 rfl rfl (by decide) rfl ?_
  refine q_goto (pc := 66) 21 C d_Md_longest_66 (by decide) ?_
  refine q_sub [(0, .ref (ya Y 43)), (1, .int x1), (2, .int vs0), (3, .int v3), (4, .int (v4 + (1 : Int32)))] [2, 3, 1, 4, 0] rfl ?_
  exact H21 vs0 v3 (v4 + (1 : Int32)) σ h
def B_Md_longest_51 (x1 : Int32) (K : Int32 → Sg → Prop) (r21 : Int32 → Int32 → Int32 → Sg → Prop) (v2 : Int32) (v4 : Int32) (vs0 : Int32) (σ : Sg) : Prop :=
  ((vs0 ≤ v2 → B_Md_longest_62 x1 K r21 vs0 v4 v2 σ) ∧ (¬ vs0 ≤ v2 → B_Md_longest_62 x1 K r21 vs0 v4 vs0 σ))
theorem t_Md_longest_51 {X : Bx} {Y : Yx} {x1 : Int32} {v2 : Int32} {v4 : Int32} {vs0 : Int32} {K : Int32 → Sg → Prop} {r21 : Int32 → Int32 → Int32 → Sg → Prop} (hY : YD Y) (C : Cx X Y prog_9_method_53_code 5 "LoadCyclesModel" 4 91) (hr : (xh X).sig.returnType = some .int)  (H21 : ∀ (v2 : Int32) (v3 : Int32) (v4 : Int32) (σ : Sg), r21 v2 v3 v4 σ → St X Y 5 (QI X Y K) 21 [(0, .ref (ya Y 43)), (1, .int x1), (2, .int v2), (3, .int v3), (4, .int v4)] [] σ)  {σ : Sg} (h : B_Md_longest_51 x1 K r21 v2 v4 vs0 σ) : St X Y 5 (QI X Y K) 51 [(0, .ref (ya Y 43)), (1, .int x1), (2, .int v2), (4, .int v4)] [.int vs0] σ := by
  unfold B_Md_longest_51 at h
  refine q_istore_n (pc := 51) [(3, .int vs0), (0, .ref (ya Y 43)), (1, .int x1), (2, .int v2), (4, .int v4)] C d_Md_longest_51 rfl (by decide) rfl ?_
  refine q_iload_n (pc := 52) C d_Md_longest_52 rfl 0 rfl ?_
  refine q_iload_n (pc := 53) C d_Md_longest_53 rfl 3 rfl ?_
  obtain ⟨h2, h3⟩ := h
  refine q_icmp_le (pc := 54) 61 C d_Md_longest_54 (by decide) (fun hc => ?_) (fun hc => ?_)
  · have h := h2 hc
    refine q_iload_n (pc := 61) C d_Md_longest_61 rfl 3 rfl ?_
    refine q_sub [(0, .ref (ya Y 43)), (1, .int x1), (3, .int vs0), (4, .int v4)] [1, 2, 0, 4] rfl ?_
    exact t_Md_longest_62 hY C hr H21 h
  have h := h3 hc
  refine q_iload_n (pc := 57) C d_Md_longest_57 rfl 0 rfl ?_
  refine q_goto (pc := 58) 62 C d_Md_longest_58 (by decide) ?_
  refine q_sub [(0, .ref (ya Y 43)), (1, .int x1), (3, .int vs0), (4, .int v4)] [1, 2, 0, 4] rfl ?_
  exact t_Md_longest_62 hY C hr H21 h
def L_Md_longest_21 (x1 : Int32) (K : Int32 → Sg → Prop) : Nat → Int32 → Int32 → Int32 → Sg → Prop
  | 0, _, _, _, _ => False
  | n + 1, v2, v3, v4, σ =>
    (((σ 43 9) ≤ v4 → K v2 σ) ∧ (¬ (σ 43 9) ≤ v4 → (vp_in v4 20 ∧ w_Md_digit (σ 62 v4.toNatClampNeg) x1 σ (fun u38 => ((¬ u38 = 0 → B_Md_longest_51 x1 K (fun a0 a1 a2 a3 => L_Md_longest_21 x1 K n a0 a1 a2 a3) v2 v4 (v3 + (1 : Int32)) σ) ∧ (u38 = 0 → B_Md_longest_51 x1 K (fun a0 a1 a2 a3 => L_Md_longest_21 x1 K n a0 a1 a2 a3) v2 v4 (0 : Int32) σ))))))
theorem t_Md_longest_21 {X : Bx} {Y : Yx} {x1 : Int32} {K : Int32 → Sg → Prop}  (hY : YD Y) (C : Cx X Y prog_9_method_53_code 5 "LoadCyclesModel" 4 91) (hr : (xh X).sig.returnType = some .int)  : ∀ (n : Nat) (v2 : Int32) (v3 : Int32) (v4 : Int32) (σ : Sg), L_Md_longest_21 x1 K n v2 v3 v4 σ → St X Y 5 (QI X Y K) 21 [(0, .ref (ya Y 43)), (1, .int x1), (2, .int v2), (3, .int v3), (4, .int v4)] [] σ := by
  intro n
  induction n with
  | zero => intro v2 v3 v4 σ h; exact h.elim
  | succ n ih =>
    intro v2 v3 v4 σ h
    unfold L_Md_longest_21 at h
    refine q_iload (pc := 21) C d_Md_longest_21 4 rfl ?_
    refine q_aload_n (pc := 23) C d_Md_longest_23 rfl 0 rfl ?_
    refine q_get (pc := 24) (c := 43) (ci := 7) (k := 9) (v := .int (σ 43 9)) C rfl (by decide) (by decide) wd_742 rfl d_Md_longest_24 ?_
    obtain ⟨h6, h7⟩ := h
    refine q_icmp_ge (pc := 27) 69 C d_Md_longest_27 (by decide) (fun hc => ?_) (fun hc => ?_)
    · have h := h6 hc
      refine q_iload_n (pc := 69) C d_Md_longest_69 rfl 2 rfl ?_
      exact q_iret (pc := 70) C hr d_Md_longest_70 h
    have h := h7 hc
    refine q_aload_n (pc := 30) C d_Md_longest_30 rfl 0 rfl ?_
    refine q_get (pc := 31) (c := 43) (ci := 7) (k := 26) (v := .ref (ya Y 62)) C rfl (by decide) (by decide) wd_759 rfl d_Md_longest_31 ?_
    refine q_iload (pc := 34) C d_Md_longest_34 4 rfl ?_
    obtain ⟨h1, h⟩ := h
    refine q_iald (pc := 36) (c := 62) C ⟨rfl, rfl⟩ h1 d_Md_longest_36 ?_
    refine q_iload_n (pc := 37) C d_Md_longest_37 rfl 1 rfl ?_
    refine q_callSIr (pc := 38) (st := []) C (m_Md_digit hY h) mi_Md_digit wd_931 rfl rfl (Nat.le_of_ble_eq_true rfl) (by decide) (by decide) d_Md_longest_38 (fun u38 h => ?_)
    obtain ⟨h4, h5⟩ := h
    refine q_if_ne (pc := 41) 48 C d_Md_longest_41 (by decide) (fun hc => ?_) (fun hc => ?_)
    · have h := h4 hc
      refine q_iload_n (pc := 48) C d_Md_longest_48 rfl 3 rfl ?_
      refine q_iconst (pc := 49) (v := 1) C d_Md_longest_49 (by decide) ?_
      refine q_iadd (pc := 50) C d_Md_longest_50 ?_
      refine q_sub [(0, .ref (ya Y 43)), (1, .int x1), (2, .int v2), (4, .int v4)] [0, 1, 2, 4] rfl ?_
      exact t_Md_longest_51 hY C hr ih h
    have h := h5 hc
    refine q_iconst (pc := 44) (v := 0) C d_Md_longest_44 (by decide) ?_
    refine q_goto (pc := 45) 51 C d_Md_longest_45 (by decide) ?_
    refine q_sub [(0, .ref (ya Y 43)), (1, .int x1), (2, .int v2), (4, .int v4)] [0, 1, 2, 4] rfl ?_
    exact t_Md_longest_51 hY C hr ih h
def w_Md_longest (x1 : Int32) (σ : Sg) (K : Int32 → Sg → Prop) : Prop :=
  w_Md_isAppliance x1 σ (fun u2 => ((¬ u2 = 0 → w_Md_findBest σ (fun τ11 => (∃ n8 : Nat, L_Md_longest_21 x1 K n8 (0 : Int32) (0 : Int32) (0 : Int32) τ11))) ∧ (u2 = 0 → K (-1 : Int32) σ)))
set_option maxHeartbeats 4000000 in
theorem m_Md_longest {Y : Yx} {x1 : Int32} {σ : Sg} {K : Int32 → Sg → Prop} (hY : YD Y)  (h : w_Md_longest x1 σ K) : MetI Y y_Md_longest prog_9_method_53_code 5 (.int) 4 91 [.ref (ya Y 43), .int x1] σ K := by
  refine met_I [(0, .ref (ya Y 43)), (1, .int x1)] hY (by decide) (Nat.le_of_ble_eq_true rfl) rfl (fun X C hr => ?_)
  unfold w_Md_longest at h
  refine q_aload_n (pc := 0) C d_Md_longest_0 rfl 0 rfl ?_
  refine q_iload_n (pc := 1) C d_Md_longest_1 rfl 1 rfl ?_
  refine q_callVIr (pc := 2) (st := []) (d := 43) C (m_Md_isAppliance hY h) mi_Md_isAppliance rfl (by decide) rfl wd_877 rfl rfl (Nat.le_of_ble_eq_true rfl) (by decide) (by decide) d_Md_longest_2 (fun u2 h => ?_)
  obtain ⟨h9, h10⟩ := h
  refine q_if_ne (pc := 5) 10 C d_Md_longest_5 (by decide) (fun hc => ?_) (fun hc => ?_)
  · have h := h9 hc
    refine q_aload_n (pc := 10) C d_Md_longest_10 rfl 0 rfl ?_
    refine q_callVV (pc := 11) (st := []) (d := 43) C (m_Md_findBest hY h) mi_Md_findBest rfl (by decide) rfl wd_919 rfl rfl (Nat.le_of_ble_eq_true rfl) (by decide) (by decide) d_Md_longest_11 (fun τ11 h => ?_)
    refine q_iconst (pc := 14) (v := 0) C d_Md_longest_14 (by decide) ?_
    refine q_istore_n (pc := 15) [(2, .int (0 : Int32)), (0, .ref (ya Y 43)), (1, .int x1)] C d_Md_longest_15 rfl (by decide) rfl ?_
    refine q_iconst (pc := 16) (v := 0) C d_Md_longest_16 (by decide) ?_
    refine q_istore_n (pc := 17) [(3, .int (0 : Int32)), (2, .int (0 : Int32)), (0, .ref (ya Y 43)), (1, .int x1)] C d_Md_longest_17 rfl (by decide) rfl ?_
    refine q_iconst (pc := 18) (v := 0) C d_Md_longest_18 (by decide) ?_
    refine q_istore (pc := 19) [(4, .int (0 : Int32)), (3, .int (0 : Int32)), (2, .int (0 : Int32)), (0, .ref (ya Y 43)), (1, .int x1)] C d_Md_longest_19 (by decide) rfl ?_
    obtain ⟨n8, h⟩ := h
    refine q_sub [(0, .ref (ya Y 43)), (1, .int x1), (2, .int (0 : Int32)), (3, .int (0 : Int32)), (4, .int (0 : Int32))] [3, 4, 2, 1, 0] rfl ?_
    exact t_Md_longest_21 hY C hr n8 (0 : Int32) (0 : Int32) (0 : Int32) τ11 h
  have h := h10 hc
  refine q_iconst (pc := 8) (v := -1) C d_Md_longest_8 (by decide) ?_
  exact q_iret (pc := 9) C hr d_Md_longest_9 h
theorem d_Md_allValues_0 : decode prog_9_method_54_code 0 = .ok (.iconst 0, 1) := by decide +kernel
theorem d_Md_allValues_1 : decode prog_9_method_54_code 1 = .ok (.istore_n 1, 1) := by decide +kernel
theorem d_Md_allValues_2 : decode prog_9_method_54_code 2 = .ok (.iconst 0, 1) := by decide +kernel
theorem d_Md_allValues_3 : decode prog_9_method_54_code 3 = .ok (.istore_n 2, 1) := by decide +kernel
theorem d_Md_allValues_4 : decode prog_9_method_54_code 4 = .ok (.iload_n 2, 1) := by decide +kernel
theorem d_Md_allValues_5 : decode prog_9_method_54_code 5 = .ok (.aload_n 0, 1) := by decide +kernel
theorem d_Md_allValues_6 : decode prog_9_method_54_code 6 = .ok (.getfield 96, 3) := by decide +kernel
theorem d_Md_allValues_9 : decode prog_9_method_54_code 9 = .ok (.if_icmp .ge 18, 3) := by decide +kernel
theorem d_Md_allValues_12 : decode prog_9_method_54_code 12 = .ok (.iload_n 1, 1) := by decide +kernel
theorem d_Md_allValues_13 : decode prog_9_method_54_code 13 = .ok (.aload_n 0, 1) := by decide +kernel
theorem d_Md_allValues_14 : decode prog_9_method_54_code 14 = .ok (.getfield 28, 3) := by decide +kernel
theorem d_Md_allValues_17 : decode prog_9_method_54_code 17 = .ok (.iload_n 2, 1) := by decide +kernel
theorem d_Md_allValues_18 : decode prog_9_method_54_code 18 = .ok (.iaload, 1) := by decide +kernel
theorem d_Md_allValues_19 : decode prog_9_method_54_code 19 = .ok (.iadd, 1) := by decide +kernel
theorem d_Md_allValues_20 : decode prog_9_method_54_code 20 = .ok (.istore_n 1, 1) := by decide +kernel
theorem d_Md_allValues_21 : decode prog_9_method_54_code 21 = .ok (.iinc 2 1, 3) := by decide +kernel
theorem d_Md_allValues_24 : decode prog_9_method_54_code 24 = .ok (.goto (-20), 3) := by decide +kernel
theorem d_Md_allValues_27 : decode prog_9_method_54_code 27 = .ok (.iload_n 1, 1) := by decide +kernel
theorem d_Md_allValues_28 : decode prog_9_method_54_code 28 = .ok (.ireturn, 1) := by decide +kernel
abbrev y_Md_allValues : MethodName := ⟨"LoadCyclesModel", "allValues", "()I"⟩
theorem mi_Md_allValues : miV y_Md_allValues prog_9_method_54_code 3 (some .int) 0 := ⟨wd_1050, wd_60, wd_72, wd_1051, by decide, by decide, by decide +kernel⟩
def L_Md_allValues_4 (σ : Sg) (K : Int32 → Prop) : Nat → Int32 → Int32 → Prop
  | 0, _, _ => False
  | n + 1, v1, v2 =>
    (((σ 43 9) ≤ v2 → K v1) ∧ (¬ (σ 43 9) ≤ v2 → (vp_in v2 20 ∧ (∀ y1_20 : Int32, y1_20 = (v1 + (σ 50 v2.toNatClampNeg)) → L_Md_allValues_4 σ K n y1_20 (v2 + (1 : Int32))))))
theorem t_Md_allValues_4 {X : Bx} {Y : Yx}  {σ : Sg} {K : Int32 → Prop}  (hY : YD Y) (C : Cx X Y prog_9_method_54_code 3 "LoadCyclesModel" 0 0) (hr : (xh X).sig.returnType = some .int)  : ∀ (n : Nat) (v1 : Int32) (v2 : Int32), L_Md_allValues_4 σ K n v1 v2 → St X Y 3 (QI X Y (fun r τ => τ = σ ∧ K r)) 4 [(0, .ref (ya Y 43)), (1, .int v1), (2, .int v2)] [] σ := by
  intro n
  induction n with
  | zero => intro v1 v2 h; exact h.elim
  | succ n ih =>
    intro v1 v2 h
    unfold L_Md_allValues_4 at h
    refine q_iload_n (pc := 4) C d_Md_allValues_4 rfl 2 rfl ?_
    refine q_aload_n (pc := 5) C d_Md_allValues_5 rfl 0 rfl ?_
    refine q_get (pc := 6) (c := 43) (ci := 7) (k := 9) (v := .int (σ 43 9)) C rfl (by decide) (by decide) wd_742 rfl d_Md_allValues_6 ?_
    obtain ⟨h2, h3⟩ := h
    refine q_icmp_ge (pc := 9) 27 C d_Md_allValues_9 (by decide) (fun hc => ?_) (fun hc => ?_)
    · have h := h2 hc
      refine q_iload_n (pc := 27) C d_Md_allValues_27 rfl 1 rfl ?_
      exact q_iret (pc := 28) C hr d_Md_allValues_28 ⟨rfl, h⟩
    have h := h3 hc
    refine q_iload_n (pc := 12) C d_Md_allValues_12 rfl 1 rfl ?_
    refine q_aload_n (pc := 13) C d_Md_allValues_13 rfl 0 rfl ?_
    refine q_get (pc := 14) (c := 43) (ci := 7) (k := 10) (v := .ref (ya Y 50)) C rfl (by decide) (by decide) wd_743 rfl d_Md_allValues_14 ?_
    refine q_iload_n (pc := 17) C d_Md_allValues_17 rfl 2 rfl ?_
    obtain ⟨h1, h⟩ := h
    refine q_iald (pc := 18) (c := 50) C ⟨rfl, rfl⟩ h1 d_Md_allValues_18 ?_
    refine q_iadd (pc := 19) C d_Md_allValues_19 ?_
    refine q_nmi (fun y1_20 ey1_20 => ?_)
    replace h := h y1_20 ey1_20
    refine q_istore_n (pc := 20) [(1, .int y1_20), (0, .ref (ya Y 43)), (2, .int v2)] C d_Md_allValues_20 rfl (by decide) rfl ?_
    refine q_iinc (pc := 21) (v2 + (1 : Int32)) [(2, .int (v2 + (1 : Int32))), (1, .int y1_20), (0, .ref (ya Y 43))] C d_Md_allValues_21 2 rfl rfl (by decide) rfl ?_
    refine q_goto (pc := 24) 4 C d_Md_allValues_24 (by decide) ?_
    refine q_sub [(0, .ref (ya Y 43)), (1, .int y1_20), (2, .int (v2 + (1 : Int32)))] [2, 1, 0] rfl ?_
    exact ih y1_20 (v2 + (1 : Int32)) h
def w_Md_allValues  (σ : Sg) (K : Int32 → Prop) : Prop :=
  (∃ n4 : Nat, L_Md_allValues_4 σ K n4 (0 : Int32) (0 : Int32))
set_option maxHeartbeats 4000000 in
theorem m_Md_allValues {Y : Yx}  {σ : Sg} {K : Int32 → Prop} (hY : YD Y)  (h : w_Md_allValues σ K) : MetI Y y_Md_allValues prog_9_method_54_code 3 (.int) 0 0 [.ref (ya Y 43)] σ (fun r τ => τ = σ ∧ K r) := by
  refine met_I [(0, .ref (ya Y 43))] hY (by decide) (Nat.le_of_ble_eq_true rfl) rfl (fun X C hr => ?_)
  unfold w_Md_allValues at h
  refine q_iconst (pc := 0) (v := 0) C d_Md_allValues_0 (by decide) ?_
  refine q_istore_n (pc := 1) [(1, .int (0 : Int32)), (0, .ref (ya Y 43))] C d_Md_allValues_1 rfl (by decide) rfl ?_
  refine q_iconst (pc := 2) (v := 0) C d_Md_allValues_2 (by decide) ?_
  refine q_istore_n (pc := 3) [(2, .int (0 : Int32)), (1, .int (0 : Int32)), (0, .ref (ya Y 43))] C d_Md_allValues_3 rfl (by decide) rfl ?_
  obtain ⟨n4, h⟩ := h
  refine q_sub [(0, .ref (ya Y 43)), (1, .int (0 : Int32)), (2, .int (0 : Int32))] [2, 1, 0] rfl ?_
  exact t_Md_allValues_4 hY C hr n4 (0 : Int32) (0 : Int32) h
theorem d_Md_nearestBits_0 : decode prog_9_method_55_code 0 = .ok (.iload_n 0, 1) := by decide +kernel
theorem d_Md_nearestBits_1 : decode prog_9_method_55_code 1 = .ok (.ifCond .ne 5, 3) := by decide +kernel
theorem d_Md_nearestBits_4 : decode prog_9_method_55_code 4 = .ok (.lconst 0, 1) := by decide +kernel
theorem d_Md_nearestBits_5 : decode prog_9_method_55_code 5 = .ok (.lreturn, 1) := by decide +kernel
theorem d_Md_nearestBits_6 : decode prog_9_method_55_code 6 = .ok (.iload_n 0, 1) := by decide +kernel
theorem d_Md_nearestBits_7 : decode prog_9_method_55_code 7 = .ok (.i2l, 1) := by decide +kernel
theorem d_Md_nearestBits_8 : decode prog_9_method_55_code 8 = .ok (.lstore 4, 2) := by decide +kernel
theorem d_Md_nearestBits_10 : decode prog_9_method_55_code 10 = .ok (.lconst 1, 1) := by decide +kernel
theorem d_Md_nearestBits_11 : decode prog_9_method_55_code 11 = .ok (.iload_n 2, 1) := by decide +kernel
theorem d_Md_nearestBits_12 : decode prog_9_method_55_code 12 = .ok (.iconst 1, 1) := by decide +kernel
theorem d_Md_nearestBits_13 : decode prog_9_method_55_code 13 = .ok (.isub, 1) := by decide +kernel
theorem d_Md_nearestBits_14 : decode prog_9_method_55_code 14 = .ok (.lshl, 1) := by decide +kernel
theorem d_Md_nearestBits_15 : decode prog_9_method_55_code 15 = .ok (.lstore 6, 2) := by decide +kernel
theorem d_Md_nearestBits_17 : decode prog_9_method_55_code 17 = .ok (.iconst 0, 1) := by decide +kernel
theorem d_Md_nearestBits_18 : decode prog_9_method_55_code 18 = .ok (.istore 8, 2) := by decide +kernel
theorem d_Md_nearestBits_20 : decode prog_9_method_55_code 20 = .ok (.lload 4, 2) := by decide +kernel
theorem d_Md_nearestBits_22 : decode prog_9_method_55_code 22 = .ok (.iload_n 1, 1) := by decide +kernel
theorem d_Md_nearestBits_23 : decode prog_9_method_55_code 23 = .ok (.i2l, 1) := by decide +kernel
theorem d_Md_nearestBits_24 : decode prog_9_method_55_code 24 = .ok (.ldiv, 1) := by decide +kernel
theorem d_Md_nearestBits_25 : decode prog_9_method_55_code 25 = .ok (.lload 6, 2) := by decide +kernel
theorem d_Md_nearestBits_27 : decode prog_9_method_55_code 27 = .ok (.lcmp, 1) := by decide +kernel
theorem d_Md_nearestBits_28 : decode prog_9_method_55_code 28 = .ok (.ifCond .ge 17, 3) := by decide +kernel
theorem d_Md_nearestBits_31 : decode prog_9_method_55_code 31 = .ok (.lload 4, 2) := by decide +kernel
theorem d_Md_nearestBits_33 : decode prog_9_method_55_code 33 = .ok (.ldc2_w 91, 3) := by decide +kernel
theorem d_Md_nearestBits_36 : decode prog_9_method_55_code 36 = .ok (.lmul, 1) := by decide +kernel
theorem d_Md_nearestBits_37 : decode prog_9_method_55_code 37 = .ok (.lstore 4, 2) := by decide +kernel
theorem d_Md_nearestBits_39 : decode prog_9_method_55_code 39 = .ok (.iinc 8 (-1), 3) := by decide +kernel
theorem d_Md_nearestBits_42 : decode prog_9_method_55_code 42 = .ok (.goto (-22), 3) := by decide +kernel
theorem d_Md_nearestBits_45 : decode prog_9_method_55_code 45 = .ok (.lload 4, 2) := by decide +kernel
theorem d_Md_nearestBits_47 : decode prog_9_method_55_code 47 = .ok (.iload_n 1, 1) := by decide +kernel
theorem d_Md_nearestBits_48 : decode prog_9_method_55_code 48 = .ok (.i2l, 1) := by decide +kernel
theorem d_Md_nearestBits_49 : decode prog_9_method_55_code 49 = .ok (.ldiv, 1) := by decide +kernel
theorem d_Md_nearestBits_50 : decode prog_9_method_55_code 50 = .ok (.lstore 9, 2) := by decide +kernel
theorem d_Md_nearestBits_52 : decode prog_9_method_55_code 52 = .ok (.ldc2_w 91, 3) := by decide +kernel
theorem d_Md_nearestBits_55 : decode prog_9_method_55_code 55 = .ok (.lload 4, 2) := by decide +kernel
theorem d_Md_nearestBits_57 : decode prog_9_method_55_code 57 = .ok (.iload_n 1, 1) := by decide +kernel
theorem d_Md_nearestBits_58 : decode prog_9_method_55_code 58 = .ok (.i2l, 1) := by decide +kernel
theorem d_Md_nearestBits_59 : decode prog_9_method_55_code 59 = .ok (.lrem, 1) := by decide +kernel
theorem d_Md_nearestBits_60 : decode prog_9_method_55_code 60 = .ok (.lmul, 1) := by decide +kernel
theorem d_Md_nearestBits_61 : decode prog_9_method_55_code 61 = .ok (.lstore 11, 2) := by decide +kernel
theorem d_Md_nearestBits_63 : decode prog_9_method_55_code 63 = .ok (.lload 9, 2) := by decide +kernel
theorem d_Md_nearestBits_65 : decode prog_9_method_55_code 65 = .ok (.lload 11, 2) := by decide +kernel
theorem d_Md_nearestBits_67 : decode prog_9_method_55_code 67 = .ok (.iload_n 1, 1) := by decide +kernel
theorem d_Md_nearestBits_68 : decode prog_9_method_55_code 68 = .ok (.i2l, 1) := by decide +kernel
theorem d_Md_nearestBits_69 : decode prog_9_method_55_code 69 = .ok (.lcmp, 1) := by decide +kernel
theorem d_Md_nearestBits_70 : decode prog_9_method_55_code 70 = .ok (.ifCond .gt 22, 3) := by decide +kernel
theorem d_Md_nearestBits_73 : decode prog_9_method_55_code 73 = .ok (.lload 11, 2) := by decide +kernel
theorem d_Md_nearestBits_75 : decode prog_9_method_55_code 75 = .ok (.iload_n 1, 1) := by decide +kernel
theorem d_Md_nearestBits_76 : decode prog_9_method_55_code 76 = .ok (.i2l, 1) := by decide +kernel
theorem d_Md_nearestBits_77 : decode prog_9_method_55_code 77 = .ok (.lcmp, 1) := by decide +kernel
theorem d_Md_nearestBits_78 : decode prog_9_method_55_code 78 = .ok (.ifCond .ne 18, 3) := by decide +kernel
theorem d_Md_nearestBits_81 : decode prog_9_method_55_code 81 = .ok (.lload 9, 2) := by decide +kernel
theorem d_Md_nearestBits_83 : decode prog_9_method_55_code 83 = .ok (.ldc2_w 91, 3) := by decide +kernel
theorem d_Md_nearestBits_86 : decode prog_9_method_55_code 86 = .ok (.lrem, 1) := by decide +kernel
theorem d_Md_nearestBits_87 : decode prog_9_method_55_code 87 = .ok (.lconst 1, 1) := by decide +kernel
theorem d_Md_nearestBits_88 : decode prog_9_method_55_code 88 = .ok (.lcmp, 1) := by decide +kernel
theorem d_Md_nearestBits_89 : decode prog_9_method_55_code 89 = .ok (.ifCond .ne 7, 3) := by decide +kernel
theorem d_Md_nearestBits_92 : decode prog_9_method_55_code 92 = .ok (.lconst 1, 1) := by decide +kernel
theorem d_Md_nearestBits_93 : decode prog_9_method_55_code 93 = .ok (.goto 4, 3) := by decide +kernel
theorem d_Md_nearestBits_96 : decode prog_9_method_55_code 96 = .ok (.lconst 0, 1) := by decide +kernel
theorem d_Md_nearestBits_97 : decode prog_9_method_55_code 97 = .ok (.ladd, 1) := by decide +kernel
theorem d_Md_nearestBits_98 : decode prog_9_method_55_code 98 = .ok (.lstore 9, 2) := by decide +kernel
theorem d_Md_nearestBits_100 : decode prog_9_method_55_code 100 = .ok (.lload 9, 2) := by decide +kernel
theorem d_Md_nearestBits_102 : decode prog_9_method_55_code 102 = .ok (.ldc2_w 91, 3) := by decide +kernel
theorem d_Md_nearestBits_105 : decode prog_9_method_55_code 105 = .ok (.lload 6, 2) := by decide +kernel
theorem d_Md_nearestBits_107 : decode prog_9_method_55_code 107 = .ok (.lmul, 1) := by decide +kernel
theorem d_Md_nearestBits_108 : decode prog_9_method_55_code 108 = .ok (.lcmp, 1) := by decide +kernel
theorem d_Md_nearestBits_109 : decode prog_9_method_55_code 109 = .ok (.ifCond .ne 10, 3) := by decide +kernel
theorem d_Md_nearestBits_112 : decode prog_9_method_55_code 112 = .ok (.lload 6, 2) := by decide +kernel
theorem d_Md_nearestBits_114 : decode prog_9_method_55_code 114 = .ok (.lstore 9, 2) := by decide +kernel
theorem d_Md_nearestBits_116 : decode prog_9_method_55_code 116 = .ok (.iinc 8 1, 3) := by decide +kernel
theorem d_Md_nearestBits_119 : decode prog_9_method_55_code 119 = .ok (.iload 8, 2) := by decide +kernel
theorem d_Md_nearestBits_121 : decode prog_9_method_55_code 121 = .ok (.iload_n 2, 1) := by decide +kernel
theorem d_Md_nearestBits_122 : decode prog_9_method_55_code 122 = .ok (.iadd, 1) := by decide +kernel
theorem d_Md_nearestBits_123 : decode prog_9_method_55_code 123 = .ok (.i2l, 1) := by decide +kernel
theorem d_Md_nearestBits_124 : decode prog_9_method_55_code 124 = .ok (.lconst 1, 1) := by decide +kernel
theorem d_Md_nearestBits_125 : decode prog_9_method_55_code 125 = .ok (.lsub, 1) := by decide +kernel
theorem d_Md_nearestBits_126 : decode prog_9_method_55_code 126 = .ok (.iload_n 3, 1) := by decide +kernel
theorem d_Md_nearestBits_127 : decode prog_9_method_55_code 127 = .ok (.i2l, 1) := by decide +kernel
theorem d_Md_nearestBits_128 : decode prog_9_method_55_code 128 = .ok (.ladd, 1) := by decide +kernel
theorem d_Md_nearestBits_129 : decode prog_9_method_55_code 129 = .ok (.lload 6, 2) := by decide +kernel
theorem d_Md_nearestBits_131 : decode prog_9_method_55_code 131 = .ok (.lmul, 1) := by decide +kernel
theorem d_Md_nearestBits_132 : decode prog_9_method_55_code 132 = .ok (.lload 9, 2) := by decide +kernel
theorem d_Md_nearestBits_134 : decode prog_9_method_55_code 134 = .ok (.ladd, 1) := by decide +kernel
theorem d_Md_nearestBits_135 : decode prog_9_method_55_code 135 = .ok (.lload 6, 2) := by decide +kernel
theorem d_Md_nearestBits_137 : decode prog_9_method_55_code 137 = .ok (.lsub, 1) := by decide +kernel
theorem d_Md_nearestBits_138 : decode prog_9_method_55_code 138 = .ok (.lreturn, 1) := by decide +kernel
abbrev y_Md_nearestBits : MethodName := ⟨"LoadCyclesModel", "nearestBits", "(IIII)J"⟩
theorem mi_Md_nearestBits : miS y_Md_nearestBits prog_9_method_55_code 13 (some .long) 4 := ⟨wd_1053, wd_72, wd_1054, by decide, by decide, by decide +kernel⟩
def B_Md_nearestBits_119 (x0 : Int32) (x1 : Int32) (x2 : Int32) (x3 : Int32) (σ : Sg) (K : Int64 → Prop) (v6 : Int64) (v8 : Int32) (v9 : Int64) : Prop :=
  K (((((((v8 + x2).toInt64) - (1 : Int64)) + (x3.toInt64)) * v6) + v9) - v6)
theorem t_Md_nearestBits_119 {X : Bx} {Y : Yx} {x0 : Int32} {x1 : Int32} {x2 : Int32} {x3 : Int32} {v6 : Int64} {v8 : Int32} {v9 : Int64} {σ : Sg} {K : Int64 → Prop}  (hY : YD Y) (C : Cx X Y prog_9_method_55_code 13 "LoadCyclesModel" 0 0) (hr : (xh X).sig.returnType = some .long)   (h : B_Md_nearestBits_119 x0 x1 x2 x3 σ K v6 v8 v9) : St X Y 13 (QL X Y (fun r τ => τ = σ ∧ K r)) 119 [(2, .int x2), (3, .int x3), (6, .long v6), (8, .int v8), (9, .long v9)] [] σ := by
  unfold B_Md_nearestBits_119 at h
  refine q_iload (pc := 119) C d_Md_nearestBits_119 3 rfl ?_
  refine q_iload_n (pc := 121) C d_Md_nearestBits_121 rfl 0 rfl ?_
  refine q_iadd (pc := 122) C d_Md_nearestBits_122 ?_
  refine q_i2l (pc := 123) C d_Md_nearestBits_123 ?_
  refine q_lconst (pc := 124) (v := 1) C d_Md_nearestBits_124 (by decide) ?_
  refine q_lsub (pc := 125) C d_Md_nearestBits_125 ?_
  refine q_iload_n (pc := 126) C d_Md_nearestBits_126 rfl 1 rfl ?_
  refine q_i2l (pc := 127) C d_Md_nearestBits_127 ?_
  refine q_ladd (pc := 128) C d_Md_nearestBits_128 ?_
  refine q_lload (pc := 129) C d_Md_nearestBits_129 2 rfl ?_
  refine q_lmul (pc := 131) C d_Md_nearestBits_131 ?_
  refine q_lload (pc := 132) C d_Md_nearestBits_132 4 rfl ?_
  refine q_ladd (pc := 134) C d_Md_nearestBits_134 ?_
  refine q_lload (pc := 135) C d_Md_nearestBits_135 2 rfl ?_
  refine q_lsub (pc := 137) C d_Md_nearestBits_137 ?_
  exact q_lret (pc := 138) C hr d_Md_nearestBits_138 ⟨rfl, h⟩
def B_Md_nearestBits_97 (x0 : Int32) (x1 : Int32) (x2 : Int32) (x3 : Int32) (σ : Sg) (K : Int64 → Prop) (v6 : Int64) (v8 : Int32) (vs0 : Int64) (vs1 : Int64) : Prop :=
  (∀ z9_98 : Int64, z9_98 = (vs1 + vs0) → ((¬ (lg_cmp z9_98 ((2 : Int64) * v6)) = 0 → B_Md_nearestBits_119 x0 x1 x2 x3 σ K v6 v8 z9_98) ∧ ((lg_cmp z9_98 ((2 : Int64) * v6)) = 0 → B_Md_nearestBits_119 x0 x1 x2 x3 σ K v6 (v8 + (1 : Int32)) v6)))
theorem t_Md_nearestBits_97 {X : Bx} {Y : Yx} {x0 : Int32} {x1 : Int32} {x2 : Int32} {x3 : Int32} {v6 : Int64} {v8 : Int32} {vs0 : Int64} {vs1 : Int64} {σ : Sg} {K : Int64 → Prop}  (hY : YD Y) (C : Cx X Y prog_9_method_55_code 13 "LoadCyclesModel" 0 0) (hr : (xh X).sig.returnType = some .long)   (h : B_Md_nearestBits_97 x0 x1 x2 x3 σ K v6 v8 vs0 vs1) : St X Y 13 (QL X Y (fun r τ => τ = σ ∧ K r)) 97 [(2, .int x2), (3, .int x3), (6, .long v6), (8, .int v8)] [.long vs0, .long vs1] σ := by
  unfold B_Md_nearestBits_97 at h
  refine q_ladd (pc := 97) C d_Md_nearestBits_97 ?_
  refine q_nml (fun z9_98 ez9_98 => ?_)
  replace h := h z9_98 ez9_98
  refine q_lstore (pc := 98) [(9, .long z9_98), (2, .int x2), (3, .int x3), (6, .long v6), (8, .int v8)] C d_Md_nearestBits_98 (by decide) rfl ?_
  refine q_lload (pc := 100) C d_Md_nearestBits_100 0 rfl ?_
  refine q_ldc2 (pc := 102) C wd_847 d_Md_nearestBits_102 ?_
  refine q_lload (pc := 105) C d_Md_nearestBits_105 3 rfl ?_
  refine q_lmul (pc := 107) C d_Md_nearestBits_107 ?_
  refine q_lcmp (pc := 108) C d_Md_nearestBits_108 ?_
  obtain ⟨h4, h5⟩ := h
  refine q_if_ne (pc := 109) 119 C d_Md_nearestBits_109 (by decide) (fun hc => ?_) (fun hc => ?_)
  · have h := h4 hc
    refine q_sub [(2, .int x2), (3, .int x3), (6, .long v6), (8, .int v8), (9, .long z9_98)] [1, 2, 3, 4, 0] rfl ?_
    exact t_Md_nearestBits_119 hY C hr h
  have h := h5 hc
  refine q_lload (pc := 112) C d_Md_nearestBits_112 3 rfl ?_
  refine q_lstore (pc := 114) [(9, .long v6), (2, .int x2), (3, .int x3), (6, .long v6), (8, .int v8)] C d_Md_nearestBits_114 (by decide) rfl ?_
  refine q_iinc (pc := 116) (v8 + (1 : Int32)) [(8, .int (v8 + (1 : Int32))), (9, .long v6), (2, .int x2), (3, .int x3), (6, .long v6)] C d_Md_nearestBits_116 4 rfl rfl (by decide) rfl ?_
  refine q_sub [(2, .int x2), (3, .int x3), (6, .long v6), (8, .int (v8 + (1 : Int32))), (9, .long v6)] [2, 3, 4, 0, 1] rfl ?_
  exact t_Md_nearestBits_119 hY C hr h
def B_Md_nearestBits_92 (x0 : Int32) (x1 : Int32) (x2 : Int32) (x3 : Int32) (σ : Sg) (K : Int64 → Prop) (v6 : Int64) (v8 : Int32) (vs0 : Int64) : Prop :=
  B_Md_nearestBits_97 x0 x1 x2 x3 σ K v6 v8 (1 : Int64) vs0
theorem t_Md_nearestBits_92 {X : Bx} {Y : Yx} {x0 : Int32} {x1 : Int32} {x2 : Int32} {x3 : Int32} {v6 : Int64} {v8 : Int32} {vs0 : Int64} {σ : Sg} {K : Int64 → Prop}  (hY : YD Y) (C : Cx X Y prog_9_method_55_code 13 "LoadCyclesModel" 0 0) (hr : (xh X).sig.returnType = some .long)   (h : B_Md_nearestBits_92 x0 x1 x2 x3 σ K v6 v8 vs0) : St X Y 13 (QL X Y (fun r τ => τ = σ ∧ K r)) 92 [(2, .int x2), (3, .int x3), (6, .long v6), (8, .int v8)] [.long vs0] σ := by
  unfold B_Md_nearestBits_92 at h
  refine q_lconst (pc := 92) (v := 1) C d_Md_nearestBits_92 (by decide) ?_
  refine q_goto (pc := 93) 97 C d_Md_nearestBits_93 (by decide) ?_
  exact t_Md_nearestBits_97 hY C hr h
def B_Md_nearestBits_96 (x0 : Int32) (x1 : Int32) (x2 : Int32) (x3 : Int32) (σ : Sg) (K : Int64 → Prop) (v6 : Int64) (v8 : Int32) (vs0 : Int64) : Prop :=
  B_Md_nearestBits_97 x0 x1 x2 x3 σ K v6 v8 (0 : Int64) vs0
theorem t_Md_nearestBits_96 {X : Bx} {Y : Yx} {x0 : Int32} {x1 : Int32} {x2 : Int32} {x3 : Int32} {v6 : Int64} {v8 : Int32} {vs0 : Int64} {σ : Sg} {K : Int64 → Prop}  (hY : YD Y) (C : Cx X Y prog_9_method_55_code 13 "LoadCyclesModel" 0 0) (hr : (xh X).sig.returnType = some .long)   (h : B_Md_nearestBits_96 x0 x1 x2 x3 σ K v6 v8 vs0) : St X Y 13 (QL X Y (fun r τ => τ = σ ∧ K r)) 96 [(2, .int x2), (3, .int x3), (6, .long v6), (8, .int v8)] [.long vs0] σ := by
  unfold B_Md_nearestBits_96 at h
  refine q_lconst (pc := 96) (v := 0) C d_Md_nearestBits_96 (by decide) ?_
  exact t_Md_nearestBits_97 hY C hr h
def L_Md_nearestBits_20 (x0 : Int32) (x1 : Int32) (x2 : Int32) (x3 : Int32) (v6 : Int64) (σ : Sg) (K : Int64 → Prop) : Nat → Int64 → Int32 → Prop
  | 0, _, _ => False
  | n + 1, v4, v8 =>
    (¬ (x1.toInt64) = 0 ∧ ((0 ≤ (lg_cmp (v4 / (x1.toInt64)) v6) → (¬ (x1.toInt64) = 0 ∧ (∀ z9_50 : Int64, z9_50 = (v4 / (x1.toInt64)) → (¬ (x1.toInt64) = 0 ∧ (∀ z11_61 : Int64, z11_61 = ((2 : Int64) * (v4 - v4 / (x1.toInt64) * (x1.toInt64))) → ((0 < (lg_cmp z11_61 (x1.toInt64)) → B_Md_nearestBits_92 x0 x1 x2 x3 σ K v6 v8 z9_50) ∧ (¬ 0 < (lg_cmp z11_61 (x1.toInt64)) → ((¬ (lg_cmp z11_61 (x1.toInt64)) = 0 → B_Md_nearestBits_96 x0 x1 x2 x3 σ K v6 v8 z9_50) ∧ ((lg_cmp z11_61 (x1.toInt64)) = 0 → (¬ (2 : Int64) = 0 ∧ ((¬ (lg_cmp (z9_50 - z9_50 / (2 : Int64) * (2 : Int64)) (1 : Int64)) = 0 → B_Md_nearestBits_96 x0 x1 x2 x3 σ K v6 v8 z9_50) ∧ ((lg_cmp (z9_50 - z9_50 / (2 : Int64) * (2 : Int64)) (1 : Int64)) = 0 → B_Md_nearestBits_92 x0 x1 x2 x3 σ K v6 v8 z9_50)))))))))))) ∧ (¬ 0 ≤ (lg_cmp (v4 / (x1.toInt64)) v6) → (∀ z4_37 : Int64, z4_37 = (v4 * (2 : Int64)) → L_Md_nearestBits_20 x0 x1 x2 x3 v6 σ K n z4_37 (v8 + (-1 : Int32))))))
theorem t_Md_nearestBits_20 {X : Bx} {Y : Yx} {x0 : Int32} {x1 : Int32} {x2 : Int32} {x3 : Int32} {v6 : Int64} {σ : Sg} {K : Int64 → Prop}  (hY : YD Y) (C : Cx X Y prog_9_method_55_code 13 "LoadCyclesModel" 0 0) (hr : (xh X).sig.returnType = some .long)  : ∀ (n : Nat) (v4 : Int64) (v8 : Int32), L_Md_nearestBits_20 x0 x1 x2 x3 v6 σ K n v4 v8 → St X Y 13 (QL X Y (fun r τ => τ = σ ∧ K r)) 20 [(1, .int x1), (2, .int x2), (3, .int x3), (4, .long v4), (6, .long v6), (8, .int v8)] [] σ := by
  intro n
  induction n with
  | zero => intro v4 v8 h; exact h.elim
  | succ n ih =>
    intro v4 v8 h
    unfold L_Md_nearestBits_20 at h
    refine q_lload (pc := 20) C d_Md_nearestBits_20 3 rfl ?_
    refine q_iload_n (pc := 22) C d_Md_nearestBits_22 rfl 0 rfl ?_
    refine q_i2l (pc := 23) C d_Md_nearestBits_23 ?_
    obtain ⟨h1, h⟩ := h
    refine q_ldiv (pc := 24) C d_Md_nearestBits_24 h1 ?_
    refine q_lload (pc := 25) C d_Md_nearestBits_25 4 rfl ?_
    refine q_lcmp (pc := 27) C d_Md_nearestBits_27 ?_
    obtain ⟨h13, h14⟩ := h
    refine q_if_ge (pc := 28) 45 C d_Md_nearestBits_28 (by decide) (fun hc => ?_) (fun hc => ?_)
    · have h := h13 hc
      refine q_lload (pc := 45) C d_Md_nearestBits_45 3 rfl ?_
      refine q_iload_n (pc := 47) C d_Md_nearestBits_47 rfl 0 rfl ?_
      refine q_i2l (pc := 48) C d_Md_nearestBits_48 ?_
      obtain ⟨h2, h⟩ := h
      refine q_ldiv (pc := 49) C d_Md_nearestBits_49 h2 ?_
      refine q_nml (fun z9_50 ez9_50 => ?_)
      replace h := h z9_50 ez9_50
      refine q_lstore (pc := 50) [(9, .long z9_50), (1, .int x1), (2, .int x2), (3, .int x3), (4, .long v4), (6, .long v6), (8, .int v8)] C d_Md_nearestBits_50 (by decide) rfl ?_
      refine q_ldc2 (pc := 52) C wd_847 d_Md_nearestBits_52 ?_
      refine q_lload (pc := 55) C d_Md_nearestBits_55 4 rfl ?_
      refine q_iload_n (pc := 57) C d_Md_nearestBits_57 rfl 1 rfl ?_
      refine q_i2l (pc := 58) C d_Md_nearestBits_58 ?_
      obtain ⟨h3, h⟩ := h
      refine q_lrem (pc := 59) C d_Md_nearestBits_59 h3 ?_
      refine q_lmul (pc := 60) C d_Md_nearestBits_60 ?_
      refine q_nml (fun z11_61 ez11_61 => ?_)
      replace h := h z11_61 ez11_61
      refine q_lstore (pc := 61) [(11, .long z11_61), (9, .long z9_50), (1, .int x1), (2, .int x2), (3, .int x3), (4, .long v4), (6, .long v6), (8, .int v8)] C d_Md_nearestBits_61 (by decide) rfl ?_
      refine q_lload (pc := 63) C d_Md_nearestBits_63 1 rfl ?_
      refine q_lload (pc := 65) C d_Md_nearestBits_65 0 rfl ?_
      refine q_iload_n (pc := 67) C d_Md_nearestBits_67 rfl 2 rfl ?_
      refine q_i2l (pc := 68) C d_Md_nearestBits_68 ?_
      refine q_lcmp (pc := 69) C d_Md_nearestBits_69 ?_
      obtain ⟨h11, h12⟩ := h
      refine q_if_gt (pc := 70) 92 C d_Md_nearestBits_70 (by decide) (fun hc => ?_) (fun hc => ?_)
      · have h := h11 hc
        refine q_sub [(2, .int x2), (3, .int x3), (6, .long v6), (8, .int v8)] [3, 4, 6, 7] rfl ?_
        exact t_Md_nearestBits_92 hY C hr h
      have h := h12 hc
      refine q_lload (pc := 73) C d_Md_nearestBits_73 0 rfl ?_
      refine q_iload_n (pc := 75) C d_Md_nearestBits_75 rfl 2 rfl ?_
      refine q_i2l (pc := 76) C d_Md_nearestBits_76 ?_
      refine q_lcmp (pc := 77) C d_Md_nearestBits_77 ?_
      obtain ⟨h9, h10⟩ := h
      refine q_if_ne (pc := 78) 96 C d_Md_nearestBits_78 (by decide) (fun hc => ?_) (fun hc => ?_)
      · have h := h9 hc
        refine q_sub [(2, .int x2), (3, .int x3), (6, .long v6), (8, .int v8)] [3, 4, 6, 7] rfl ?_
        exact t_Md_nearestBits_96 hY C hr h
      have h := h10 hc
      refine q_lload (pc := 81) C d_Md_nearestBits_81 1 rfl ?_
      refine q_ldc2 (pc := 83) C wd_847 d_Md_nearestBits_83 ?_
      obtain ⟨h6, h⟩ := h
      refine q_lrem (pc := 86) C d_Md_nearestBits_86 h6 ?_
      refine q_lconst (pc := 87) (v := 1) C d_Md_nearestBits_87 (by decide) ?_
      refine q_lcmp (pc := 88) C d_Md_nearestBits_88 ?_
      obtain ⟨h7, h8⟩ := h
      refine q_if_ne (pc := 89) 96 C d_Md_nearestBits_89 (by decide) (fun hc => ?_) (fun hc => ?_)
      · have h := h7 hc
        refine q_sub [(2, .int x2), (3, .int x3), (6, .long v6), (8, .int v8)] [3, 4, 6, 7] rfl ?_
        exact t_Md_nearestBits_96 hY C hr h
      have h := h8 hc
      refine q_sub [(2, .int x2), (3, .int x3), (6, .long v6), (8, .int v8)] [3, 4, 6, 7] rfl ?_
      exact t_Md_nearestBits_92 hY C hr h
    have h := h14 hc
    refine q_lload (pc := 31) C d_Md_nearestBits_31 3 rfl ?_
    refine q_ldc2 (pc := 33) C wd_847 d_Md_nearestBits_33 ?_
    refine q_lmul (pc := 36) C d_Md_nearestBits_36 ?_
    refine q_nml (fun z4_37 ez4_37 => ?_)
    replace h := h z4_37 ez4_37
    refine q_lstore (pc := 37) [(4, .long z4_37), (1, .int x1), (2, .int x2), (3, .int x3), (6, .long v6), (8, .int v8)] C d_Md_nearestBits_37 (by decide) rfl ?_
    refine q_iinc (pc := 39) (v8 + (-1 : Int32)) [(8, .int (v8 + (-1 : Int32))), (4, .long z4_37), (1, .int x1), (2, .int x2), (3, .int x3), (6, .long v6)] C d_Md_nearestBits_39 5 rfl rfl (by decide) rfl ?_
    refine q_goto (pc := 42) 20 C d_Md_nearestBits_42 (by decide) ?_
    refine q_sub [(1, .int x1), (2, .int x2), (3, .int x3), (4, .long z4_37), (6, .long v6), (8, .int (v8 + (-1 : Int32)))] [2, 3, 4, 1, 5, 0] rfl ?_
    exact ih z4_37 (v8 + (-1 : Int32)) h
def w_Md_nearestBits (x0 : Int32) (x1 : Int32) (x2 : Int32) (x3 : Int32) (σ : Sg) (K : Int64 → Prop) : Prop :=
  ((¬ x0 = 0 → (∀ z4_8 : Int64, z4_8 = (x0.toInt64) → (∀ z6_15 : Int64, z6_15 = ((1 : Int64) <<< ((x2 - (1 : Int32)).toInt64 &&& 63)) → (∃ n15 : Nat, L_Md_nearestBits_20 x0 x1 x2 x3 z6_15 σ K n15 z4_8 (0 : Int32))))) ∧ (x0 = 0 → K (0 : Int64)))
set_option maxHeartbeats 4000000 in
theorem m_Md_nearestBits {Y : Yx} {x0 : Int32} {x1 : Int32} {x2 : Int32} {x3 : Int32} {σ : Sg} {K : Int64 → Prop} (hY : YD Y)  (h : w_Md_nearestBits x0 x1 x2 x3 σ K) : MetL Y y_Md_nearestBits prog_9_method_55_code 13 0 0 [.int x0, .int x1, .int x2, .int x3] σ (fun r τ => τ = σ ∧ K r) := by
  refine met_L [(0, .int x0), (1, .int x1), (2, .int x2), (3, .int x3)] hY (by decide) (Nat.le_of_ble_eq_true rfl) rfl (fun X C hr => ?_)
  unfold w_Md_nearestBits at h
  refine q_iload_n (pc := 0) C d_Md_nearestBits_0 rfl 0 rfl ?_
  obtain ⟨h16, h17⟩ := h
  refine q_if_ne (pc := 1) 6 C d_Md_nearestBits_1 (by decide) (fun hc => ?_) (fun hc => ?_)
  · have h := h16 hc
    refine q_iload_n (pc := 6) C d_Md_nearestBits_6 rfl 0 rfl ?_
    refine q_i2l (pc := 7) C d_Md_nearestBits_7 ?_
    refine q_nml (fun z4_8 ez4_8 => ?_)
    replace h := h z4_8 ez4_8
    refine q_lstore (pc := 8) [(4, .long z4_8), (0, .int x0), (1, .int x1), (2, .int x2), (3, .int x3)] C d_Md_nearestBits_8 (by decide) rfl ?_
    refine q_lconst (pc := 10) (v := 1) C d_Md_nearestBits_10 (by decide) ?_
    refine q_iload_n (pc := 11) C d_Md_nearestBits_11 rfl 3 rfl ?_
    refine q_iconst (pc := 12) (v := 1) C d_Md_nearestBits_12 (by decide) ?_
    refine q_isub (pc := 13) C d_Md_nearestBits_13 ?_
    refine q_lshl (pc := 14) C d_Md_nearestBits_14 ?_
    refine q_nml (fun z6_15 ez6_15 => ?_)
    replace h := h z6_15 ez6_15
    refine q_lstore (pc := 15) [(6, .long z6_15), (4, .long z4_8), (0, .int x0), (1, .int x1), (2, .int x2), (3, .int x3)] C d_Md_nearestBits_15 (by decide) rfl ?_
    refine q_iconst (pc := 17) (v := 0) C d_Md_nearestBits_17 (by decide) ?_
    refine q_istore (pc := 18) [(8, .int (0 : Int32)), (6, .long z6_15), (4, .long z4_8), (0, .int x0), (1, .int x1), (2, .int x2), (3, .int x3)] C d_Md_nearestBits_18 (by decide) rfl ?_
    obtain ⟨n15, h⟩ := h
    refine q_sub [(1, .int x1), (2, .int x2), (3, .int x3), (4, .long z4_8), (6, .long z6_15), (8, .int (0 : Int32))] [4, 5, 6, 2, 1, 0] rfl ?_
    exact t_Md_nearestBits_20 hY C hr n15 z4_8 (0 : Int32) h
  have h := h17 hc
  refine q_lconst (pc := 4) (v := 0) C d_Md_nearestBits_4 (by decide) ?_
  exact q_lret (pc := 5) C hr d_Md_nearestBits_5 ⟨rfl, h⟩
theorem d_Md_share_0 : decode prog_9_method_56_code 0 = .ok (.aload_n 0, 1) := by decide +kernel
theorem d_Md_share_1 : decode prog_9_method_56_code 1 = .ok (.iload_n 1, 1) := by decide +kernel
theorem d_Md_share_2 : decode prog_9_method_56_code 2 = .ok (.invokevirtual 147, 3) := by decide +kernel
theorem d_Md_share_5 : decode prog_9_method_56_code 5 = .ok (.ifCond .ne 5, 3) := by decide +kernel
theorem d_Md_share_8 : decode prog_9_method_56_code 8 = .ok (.iconst (-1), 1) := by decide +kernel
theorem d_Md_share_9 : decode prog_9_method_56_code 9 = .ok (.ireturn, 1) := by decide +kernel
theorem d_Md_share_10 : decode prog_9_method_56_code 10 = .ok (.aload_n 0, 1) := by decide +kernel
theorem d_Md_share_11 : decode prog_9_method_56_code 11 = .ok (.invokevirtual 260, 3) := by decide +kernel
theorem d_Md_share_14 : decode prog_9_method_56_code 14 = .ok (.istore_n 2, 1) := by decide +kernel
theorem d_Md_share_15 : decode prog_9_method_56_code 15 = .ok (.iload_n 2, 1) := by decide +kernel
theorem d_Md_share_16 : decode prog_9_method_56_code 16 = .ok (.ifCond .ne 7, 3) := by decide +kernel
theorem d_Md_share_19 : decode prog_9_method_56_code 19 = .ok (.iconst 0, 1) := by decide +kernel
theorem d_Md_share_20 : decode prog_9_method_56_code 20 = .ok (.goto 17, 3) := by decide +kernel
theorem d_Md_share_23 : decode prog_9_method_56_code 23 = .ok (.aload_n 0, 1) := by decide +kernel
theorem d_Md_share_24 : decode prog_9_method_56_code 24 = .ok (.iload_n 1, 1) := by decide +kernel
theorem d_Md_share_25 : decode prog_9_method_56_code 25 = .ok (.invokevirtual 211, 3) := by decide +kernel
theorem d_Md_share_28 : decode prog_9_method_56_code 28 = .ok (.iload_n 2, 1) := by decide +kernel
theorem d_Md_share_29 : decode prog_9_method_56_code 29 = .ok (.bipush 24, 2) := by decide +kernel
theorem d_Md_share_31 : decode prog_9_method_56_code 31 = .ok (.bipush 127, 2) := by decide +kernel
theorem d_Md_share_33 : decode prog_9_method_56_code 33 = .ok (.invokestatic 263, 3) := by decide +kernel
theorem d_Md_share_36 : decode prog_9_method_56_code 36 = .ok (.l2i, 1) := by decide +kernel
theorem d_Md_share_37 : decode prog_9_method_56_code 37 = .ok (.ireturn, 1) := by decide +kernel
abbrev y_Md_share : MethodName := ⟨"LoadCyclesModel", "share", "(I)I"⟩
theorem mi_Md_share : miV y_Md_share prog_9_method_56_code 3 (some .int) 1 := ⟨wd_1045, wd_1046, wd_72, wd_1047, by decide, by decide, by decide +kernel⟩
def w_Md_share (x1 : Int32) (σ : Sg) (K : Int32 → Sg → Prop) : Prop :=
  w_Md_isAppliance x1 σ (fun u2 => ((¬ u2 = 0 → w_Md_allValues σ (fun u11 => ((¬ u11 = 0 → w_Md_energyOf x1 σ (fun u25 τ25 => w_Md_nearestBits u25 u11 (24 : Int32) (127 : Int32) τ25 (fun u33 => K (u33.toInt32) τ25))) ∧ (u11 = 0 → K (0 : Int32) σ)))) ∧ (u2 = 0 → K (-1 : Int32) σ)))
set_option maxHeartbeats 4000000 in
theorem m_Md_share {Y : Yx} {x1 : Int32} {σ : Sg} {K : Int32 → Sg → Prop} (hY : YD Y)  (h : w_Md_share x1 σ K) : MetI Y y_Md_share prog_9_method_56_code 3 (.int) 5 115 [.ref (ya Y 43), .int x1] σ K := by
  refine met_I [(0, .ref (ya Y 43)), (1, .int x1)] hY (by decide) (Nat.le_of_ble_eq_true rfl) rfl (fun X C hr => ?_)
  unfold w_Md_share at h
  refine q_aload_n (pc := 0) C d_Md_share_0 rfl 0 rfl ?_
  refine q_iload_n (pc := 1) C d_Md_share_1 rfl 1 rfl ?_
  refine q_callVIr (pc := 2) (st := []) (d := 43) C (m_Md_isAppliance hY h) mi_Md_isAppliance rfl (by decide) rfl wd_877 rfl rfl (Nat.le_of_ble_eq_true rfl) (by decide) (by decide) d_Md_share_2 (fun u2 h => ?_)
  obtain ⟨h3, h4⟩ := h
  refine q_if_ne (pc := 5) 10 C d_Md_share_5 (by decide) (fun hc => ?_) (fun hc => ?_)
  · have h := h3 hc
    refine q_aload_n (pc := 10) C d_Md_share_10 rfl 0 rfl ?_
    refine q_callVIr (pc := 11) (st := []) (d := 43) C (m_Md_allValues hY h) mi_Md_allValues rfl (by decide) rfl wd_1048 rfl rfl (Nat.le_of_ble_eq_true rfl) (by decide) (by decide) d_Md_share_11 (fun u11 h => ?_)
    refine q_istore_n (pc := 14) [(2, .int u11), (0, .ref (ya Y 43)), (1, .int x1)] C d_Md_share_14 rfl (by decide) rfl ?_
    refine q_iload_n (pc := 15) C d_Md_share_15 rfl 0 rfl ?_
    obtain ⟨h1, h2⟩ := h
    refine q_if_ne (pc := 16) 23 C d_Md_share_16 (by decide) (fun hc => ?_) (fun hc => ?_)
    · have h := h1 hc
      refine q_aload_n (pc := 23) C d_Md_share_23 rfl 1 rfl ?_
      refine q_iload_n (pc := 24) C d_Md_share_24 rfl 2 rfl ?_
      refine q_callVI (pc := 25) (st := []) (d := 43) C (m_Md_energyOf hY h) mi_Md_energyOf rfl (by decide) rfl wd_985 rfl rfl (Nat.le_of_ble_eq_true rfl) (by decide) (by decide) d_Md_share_25 (fun u25 τ25 h => ?_)
      refine q_iload_n (pc := 28) C d_Md_share_28 rfl 0 rfl ?_
      refine q_bipush (pc := 29) (v := 24) C d_Md_share_29 (by decide) ?_
      refine q_bipush (pc := 31) (v := 127) C d_Md_share_31 (by decide) ?_
      refine q_callSLr (pc := 33) (st := []) C (m_Md_nearestBits hY h) mi_Md_nearestBits wd_1052 rfl rfl (Nat.le_of_ble_eq_true rfl) (by decide) (by decide) d_Md_share_33 (fun u33 h => ?_)
      refine q_l2i (pc := 36) C d_Md_share_36 ?_
      exact q_iret (pc := 37) C hr d_Md_share_37 h
    have h := h2 hc
    refine q_iconst (pc := 19) (v := 0) C d_Md_share_19 (by decide) ?_
    refine q_goto (pc := 20) 37 C d_Md_share_20 (by decide) ?_
    exact q_iret (pc := 37) C hr d_Md_share_37 h
  have h := h4 hc
  refine q_iconst (pc := 8) (v := -1) C d_Md_share_8 (by decide) ?_
  exact q_iret (pc := 9) C hr d_Md_share_9 h
theorem d_Md_mean_0 : decode prog_9_method_57_code 0 = .ok (.aload_n 0, 1) := by decide +kernel
theorem d_Md_mean_1 : decode prog_9_method_57_code 1 = .ok (.getfield 96, 3) := by decide +kernel
theorem d_Md_mean_4 : decode prog_9_method_57_code 4 = .ok (.ifCond .ne 9, 3) := by decide +kernel
theorem d_Md_mean_7 : decode prog_9_method_57_code 7 = .ok (.ldc2_w 83, 3) := by decide +kernel
theorem d_Md_mean_10 : decode prog_9_method_57_code 10 = .ok (.goto 19, 3) := by decide +kernel
theorem d_Md_mean_13 : decode prog_9_method_57_code 13 = .ok (.aload_n 0, 1) := by decide +kernel
theorem d_Md_mean_14 : decode prog_9_method_57_code 14 = .ok (.invokevirtual 260, 3) := by decide +kernel
theorem d_Md_mean_17 : decode prog_9_method_57_code 17 = .ok (.aload_n 0, 1) := by decide +kernel
theorem d_Md_mean_18 : decode prog_9_method_57_code 18 = .ok (.getfield 96, 3) := by decide +kernel
theorem d_Md_mean_21 : decode prog_9_method_57_code 21 = .ok (.bipush 53, 2) := by decide +kernel
theorem d_Md_mean_23 : decode prog_9_method_57_code 23 = .ok (.sipush 1023, 3) := by decide +kernel
theorem d_Md_mean_26 : decode prog_9_method_57_code 26 = .ok (.invokestatic 263, 3) := by decide +kernel
theorem d_Md_mean_29 : decode prog_9_method_57_code 29 = .ok (.lreturn, 1) := by decide +kernel
abbrev y_Md_mean : MethodName := ⟨"LoadCyclesModel", "mean", "()J"⟩
theorem mi_Md_mean : miV y_Md_mean prog_9_method_57_code 1 (some .long) 0 := ⟨wd_1056, wd_1057, wd_72, wd_1058, by decide, by decide, by decide +kernel⟩
def w_Md_mean  (σ : Sg) (K : Int64 → Prop) : Prop :=
  ((¬ (σ 43 9) = 0 → w_Md_allValues σ (fun u14 => w_Md_nearestBits u14 (σ 43 9) (53 : Int32) (1023 : Int32) σ (fun u26 => K u26))) ∧ ((σ 43 9) = 0 → K (-9223372036854775808 : Int64)))
set_option maxHeartbeats 4000000 in
theorem m_Md_mean {Y : Yx}  {σ : Sg} {K : Int64 → Prop} (hY : YD Y)  (h : w_Md_mean σ K) : MetL Y y_Md_mean prog_9_method_57_code 1 1 32 [.ref (ya Y 43)] σ (fun r τ => τ = σ ∧ K r) := by
  refine met_L [(0, .ref (ya Y 43))] hY (by decide) (Nat.le_of_ble_eq_true rfl) rfl (fun X C hr => ?_)
  unfold w_Md_mean at h
  refine q_aload_n (pc := 0) C d_Md_mean_0 rfl 0 rfl ?_
  refine q_get (pc := 1) (c := 43) (ci := 7) (k := 9) (v := .int (σ 43 9)) C rfl (by decide) (by decide) wd_742 rfl d_Md_mean_1 ?_
  obtain ⟨h1, h2⟩ := h
  refine q_if_ne (pc := 4) 13 C d_Md_mean_4 (by decide) (fun hc => ?_) (fun hc => ?_)
  · have h := h1 hc
    refine q_aload_n (pc := 13) C d_Md_mean_13 rfl 0 rfl ?_
    refine q_callVIr (pc := 14) (st := []) (d := 43) C (m_Md_allValues hY h) mi_Md_allValues rfl (by decide) rfl wd_1048 rfl rfl (Nat.le_of_ble_eq_true rfl) (by decide) (by decide) d_Md_mean_14 (fun u14 h => ?_)
    refine q_aload_n (pc := 17) C d_Md_mean_17 rfl 0 rfl ?_
    refine q_get (pc := 18) (c := 43) (ci := 7) (k := 9) (v := .int (σ 43 9)) C rfl (by decide) (by decide) wd_742 rfl d_Md_mean_18 ?_
    refine q_bipush (pc := 21) (v := 53) C d_Md_mean_21 (by decide) ?_
    refine q_sipush (pc := 23) (v := 1023) C d_Md_mean_23 (by decide) ?_
    refine q_callSLr (pc := 26) (st := []) C (m_Md_nearestBits hY h) mi_Md_nearestBits wd_1052 rfl rfl (Nat.le_of_ble_eq_true rfl) (by decide) (by decide) d_Md_mean_26 (fun u26 h => ?_)
    exact q_lret (pc := 29) C hr d_Md_mean_29 ⟨rfl, h⟩
  have h := h2 hc
  refine q_ldc2 (pc := 7) C wd_1059 d_Md_mean_7 ?_
  refine q_goto (pc := 10) 29 C d_Md_mean_10 (by decide) ?_
  exact q_lret (pc := 29) C hr d_Md_mean_29 ⟨rfl, h⟩
theorem d_Md_reading_0 : decode prog_9_method_58_code 0 = .ok (.aload_n 0, 1) := by decide +kernel
theorem d_Md_reading_1 : decode prog_9_method_58_code 1 = .ok (.iload_n 1, 1) := by decide +kernel
theorem d_Md_reading_2 : decode prog_9_method_58_code 2 = .ok (.invokevirtual 147, 3) := by decide +kernel
theorem d_Md_reading_5 : decode prog_9_method_58_code 5 = .ok (.ifCond .ne 5, 3) := by decide +kernel
theorem d_Md_reading_8 : decode prog_9_method_58_code 8 = .ok (.iconst (-1), 1) := by decide +kernel
theorem d_Md_reading_9 : decode prog_9_method_58_code 9 = .ok (.ireturn, 1) := by decide +kernel
theorem d_Md_reading_10 : decode prog_9_method_58_code 10 = .ok (.iload_n 2, 1) := by decide +kernel
theorem d_Md_reading_11 : decode prog_9_method_58_code 11 = .ok (.i2l, 1) := by decide +kernel
theorem d_Md_reading_12 : decode prog_9_method_58_code 12 = .ok (.lconst 0, 1) := by decide +kernel
theorem d_Md_reading_13 : decode prog_9_method_58_code 13 = .ok (.ldc2_w 267, 3) := by decide +kernel
theorem d_Md_reading_16 : decode prog_9_method_58_code 16 = .ok (.invokestatic 87, 3) := by decide +kernel
theorem d_Md_reading_19 : decode prog_9_method_58_code 19 = .ok (.ifCond .ne 6, 3) := by decide +kernel
theorem d_Md_reading_22 : decode prog_9_method_58_code 22 = .ok (.bipush (-2), 2) := by decide +kernel
theorem d_Md_reading_24 : decode prog_9_method_58_code 24 = .ok (.ireturn, 1) := by decide +kernel
theorem d_Md_reading_25 : decode prog_9_method_58_code 25 = .ok (.aload_n 0, 1) := by decide +kernel
theorem d_Md_reading_26 : decode prog_9_method_58_code 26 = .ok (.getfield 140, 3) := by decide +kernel
theorem d_Md_reading_29 : decode prog_9_method_58_code 29 = .ok (.bipush 8, 2) := by decide +kernel
theorem d_Md_reading_31 : decode prog_9_method_58_code 31 = .ok (.if_icmp .ne 6, 3) := by decide +kernel
theorem d_Md_reading_34 : decode prog_9_method_58_code 34 = .ok (.bipush (-4), 2) := by decide +kernel
theorem d_Md_reading_36 : decode prog_9_method_58_code 36 = .ok (.ireturn, 1) := by decide +kernel
theorem d_Md_reading_37 : decode prog_9_method_58_code 37 = .ok (.aload_n 0, 1) := by decide +kernel
theorem d_Md_reading_38 : decode prog_9_method_58_code 38 = .ok (.getfield 73, 3) := by decide +kernel
theorem d_Md_reading_41 : decode prog_9_method_58_code 41 = .ok (.aload_n 0, 1) := by decide +kernel
theorem d_Md_reading_42 : decode prog_9_method_58_code 42 = .ok (.getfield 140, 3) := by decide +kernel
theorem d_Md_reading_45 : decode prog_9_method_58_code 45 = .ok (.iload_n 1, 1) := by decide +kernel
theorem d_Md_reading_46 : decode prog_9_method_58_code 46 = .ok (.iastore, 1) := by decide +kernel
theorem d_Md_reading_47 : decode prog_9_method_58_code 47 = .ok (.aload_n 0, 1) := by decide +kernel
theorem d_Md_reading_48 : decode prog_9_method_58_code 48 = .ok (.getfield 76, 3) := by decide +kernel
theorem d_Md_reading_51 : decode prog_9_method_58_code 51 = .ok (.aload_n 0, 1) := by decide +kernel
theorem d_Md_reading_52 : decode prog_9_method_58_code 52 = .ok (.getfield 140, 3) := by decide +kernel
theorem d_Md_reading_55 : decode prog_9_method_58_code 55 = .ok (.iload_n 2, 1) := by decide +kernel
theorem d_Md_reading_56 : decode prog_9_method_58_code 56 = .ok (.iastore, 1) := by decide +kernel
theorem d_Md_reading_57 : decode prog_9_method_58_code 57 = .ok (.aload_n 0, 1) := by decide +kernel
theorem d_Md_reading_58 : decode prog_9_method_58_code 58 = .ok (.dup, 1) := by decide +kernel
theorem d_Md_reading_59 : decode prog_9_method_58_code 59 = .ok (.getfield 140, 3) := by decide +kernel
theorem d_Md_reading_62 : decode prog_9_method_58_code 62 = .ok (.iconst 1, 1) := by decide +kernel
theorem d_Md_reading_63 : decode prog_9_method_58_code 63 = .ok (.iadd, 1) := by decide +kernel
theorem d_Md_reading_64 : decode prog_9_method_58_code 64 = .ok (.putfield 140, 3) := by decide +kernel
theorem d_Md_reading_67 : decode prog_9_method_58_code 67 = .ok (.aload_n 0, 1) := by decide +kernel
theorem d_Md_reading_68 : decode prog_9_method_58_code 68 = .ok (.getfield 140, 3) := by decide +kernel
theorem d_Md_reading_71 : decode prog_9_method_58_code 71 = .ok (.iconst 1, 1) := by decide +kernel
theorem d_Md_reading_72 : decode prog_9_method_58_code 72 = .ok (.isub, 1) := by decide +kernel
theorem d_Md_reading_73 : decode prog_9_method_58_code 73 = .ok (.ireturn, 1) := by decide +kernel
abbrev y_Md_reading : MethodName := ⟨"LoadCyclesModel", "reading", "(II)I"⟩
theorem mi_Md_reading : miV y_Md_reading prog_9_method_58_code 3 (some .int) 2 := ⟨wd_1061, wd_1062, wd_72, wd_1063, by decide, by decide, by decide +kernel⟩
def w_Md_reading (x1 : Int32) (x2 : Int32) (σ : Sg) (K : Int32 → Sg → Prop) : Prop :=
  w_Md_isAppliance x1 σ (fun u2 => ((¬ u2 = 0 → w_Md_within (x2.toInt64) (0 : Int64) (2000 : Int64) σ (fun u16 => ((¬ u16 = 0 → ((¬ (σ 43 30) = (8 : Int32) → (vp_in (σ 43 30) 8 ∧ (∀ τ46 : Sg, τ46 = s2 σ 65 (σ 43 30).toNatClampNeg x1 → (vp_in (τ46 43 30) 8 ∧ (∀ τ56 : Sg, τ56 = s2 τ46 66 (τ46 43 30).toNatClampNeg x2 → (∀ τ64 : Sg, τ64 = s2 τ56 43 30 ((τ56 43 30) + (1 : Int32)) → K ((τ64 43 30) - (1 : Int32)) τ64)))))) ∧ ((σ 43 30) = (8 : Int32) → K (-4 : Int32) σ))) ∧ (u16 = 0 → K (-2 : Int32) σ)))) ∧ (u2 = 0 → K (-1 : Int32) σ)))
set_option maxHeartbeats 4000000 in
theorem m_Md_reading {Y : Yx} {x1 : Int32} {x2 : Int32} {σ : Sg} {K : Int32 → Sg → Prop} (hY : YD Y)  (h : w_Md_reading x1 x2 σ K) : MetI Y y_Md_reading prog_9_method_58_code 3 (.int) 2 46 [.ref (ya Y 43), .int x1, .int x2] σ K := by
  refine met_I [(0, .ref (ya Y 43)), (1, .int x1), (2, .int x2)] hY (by decide) (Nat.le_of_ble_eq_true rfl) rfl (fun X C hr => ?_)
  unfold w_Md_reading at h
  refine q_aload_n (pc := 0) C d_Md_reading_0 rfl 0 rfl ?_
  refine q_iload_n (pc := 1) C d_Md_reading_1 rfl 1 rfl ?_
  refine q_callVIr (pc := 2) (st := []) (d := 43) C (m_Md_isAppliance hY h) mi_Md_isAppliance rfl (by decide) rfl wd_877 rfl rfl (Nat.le_of_ble_eq_true rfl) (by decide) (by decide) d_Md_reading_2 (fun u2 h => ?_)
  obtain ⟨h7, h8⟩ := h
  refine q_if_ne (pc := 5) 10 C d_Md_reading_5 (by decide) (fun hc => ?_) (fun hc => ?_)
  · have h := h7 hc
    refine q_iload_n (pc := 10) C d_Md_reading_10 rfl 2 rfl ?_
    refine q_i2l (pc := 11) C d_Md_reading_11 ?_
    refine q_lconst (pc := 12) (v := 0) C d_Md_reading_12 (by decide) ?_
    refine q_ldc2 (pc := 13) C wd_1064 d_Md_reading_13 ?_
    refine q_callSIr (pc := 16) (st := []) C (m_Md_within hY h) mi_Md_within wd_841 rfl rfl (Nat.le_of_ble_eq_true rfl) (by decide) (by decide) d_Md_reading_16 (fun u16 h => ?_)
    obtain ⟨h5, h6⟩ := h
    refine q_if_ne (pc := 19) 25 C d_Md_reading_19 (by decide) (fun hc => ?_) (fun hc => ?_)
    · have h := h5 hc
      refine q_aload_n (pc := 25) C d_Md_reading_25 rfl 0 rfl ?_
      refine q_get (pc := 26) (c := 43) (ci := 7) (k := 30) (v := .int (σ 43 30)) C rfl (by decide) (by decide) wd_763 rfl d_Md_reading_26 ?_
      refine q_bipush (pc := 29) (v := 8) C d_Md_reading_29 (by decide) ?_
      obtain ⟨h3, h4⟩ := h
      refine q_icmp_ne (pc := 31) 37 C d_Md_reading_31 (by decide) (fun hc => ?_) (fun hc => ?_)
      · have h := h3 hc
        refine q_aload_n (pc := 37) C d_Md_reading_37 rfl 0 rfl ?_
        refine q_get (pc := 38) (c := 43) (ci := 7) (k := 31) (v := .ref (ya Y 65)) C rfl (by decide) (by decide) wd_764 rfl d_Md_reading_38 ?_
        refine q_aload_n (pc := 41) C d_Md_reading_41 rfl 0 rfl ?_
        refine q_get (pc := 42) (c := 43) (ci := 7) (k := 30) (v := .int (σ 43 30)) C rfl (by decide) (by decide) wd_763 rfl d_Md_reading_42 ?_
        refine q_iload_n (pc := 45) C d_Md_reading_45 rfl 1 rfl ?_
        obtain ⟨h1, h⟩ := h
        refine q_iast (pc := 46) (c := 65) C ⟨rfl, rfl⟩ h1 d_Md_reading_46 ?_
        refine q_nms (fun τ46 eτ46 => ?_)
        replace h := h τ46 eτ46
        refine q_aload_n (pc := 47) C d_Md_reading_47 rfl 0 rfl ?_
        refine q_get (pc := 48) (c := 43) (ci := 7) (k := 32) (v := .ref (ya Y 66)) C rfl (by decide) (by decide) wd_765 rfl d_Md_reading_48 ?_
        refine q_aload_n (pc := 51) C d_Md_reading_51 rfl 0 rfl ?_
        refine q_get (pc := 52) (c := 43) (ci := 7) (k := 30) (v := .int (τ46 43 30)) C rfl (by decide) (by decide) wd_763 rfl d_Md_reading_52 ?_
        refine q_iload_n (pc := 55) C d_Md_reading_55 rfl 2 rfl ?_
        obtain ⟨h2, h⟩ := h
        refine q_iast (pc := 56) (c := 66) C ⟨rfl, rfl⟩ h2 d_Md_reading_56 ?_
        refine q_nms (fun τ56 eτ56 => ?_)
        replace h := h τ56 eτ56
        refine q_aload_n (pc := 57) C d_Md_reading_57 rfl 0 rfl ?_
        refine q_dup (pc := 58) C d_Md_reading_58 rfl ?_
        refine q_get (pc := 59) (c := 43) (ci := 7) (k := 30) (v := .int (τ56 43 30)) C rfl (by decide) (by decide) wd_763 rfl d_Md_reading_59 ?_
        refine q_iconst (pc := 62) (v := 1) C d_Md_reading_62 (by decide) ?_
        refine q_iadd (pc := 63) C d_Md_reading_63 ?_
        refine q_put (pc := 64) (c := 43) (ci := 7) (k := 30) C rfl (by decide) (by decide) wd_763 rfl rfl rfl fs_7_30 d_Md_reading_64 ?_
        refine q_nms (fun τ64 eτ64 => ?_)
        replace h := h τ64 eτ64
        refine q_aload_n (pc := 67) C d_Md_reading_67 rfl 0 rfl ?_
        refine q_get (pc := 68) (c := 43) (ci := 7) (k := 30) (v := .int (τ64 43 30)) C rfl (by decide) (by decide) wd_763 rfl d_Md_reading_68 ?_
        refine q_iconst (pc := 71) (v := 1) C d_Md_reading_71 (by decide) ?_
        refine q_isub (pc := 72) C d_Md_reading_72 ?_
        exact q_iret (pc := 73) C hr d_Md_reading_73 h
      have h := h4 hc
      refine q_bipush (pc := 34) (v := -4) C d_Md_reading_34 (by decide) ?_
      exact q_iret (pc := 36) C hr d_Md_reading_36 h
    have h := h6 hc
    refine q_bipush (pc := 22) (v := -2) C d_Md_reading_22 (by decide) ?_
    exact q_iret (pc := 24) C hr d_Md_reading_24 h
  have h := h8 hc
  refine q_iconst (pc := 8) (v := -1) C d_Md_reading_8 (by decide) ?_
  exact q_iret (pc := 9) C hr d_Md_reading_9 h
theorem d_Md_back_0 : decode prog_9_method_59_code 0 = .ok (.iload_n 1, 1) := by decide +kernel
theorem d_Md_back_1 : decode prog_9_method_59_code 1 = .ok (.i2l, 1) := by decide +kernel
theorem d_Md_back_2 : decode prog_9_method_59_code 2 = .ok (.lconst 0, 1) := by decide +kernel
theorem d_Md_back_3 : decode prog_9_method_59_code 3 = .ok (.aload_n 0, 1) := by decide +kernel
theorem d_Md_back_4 : decode prog_9_method_59_code 4 = .ok (.getfield 140, 3) := by decide +kernel
theorem d_Md_back_7 : decode prog_9_method_59_code 7 = .ok (.i2l, 1) := by decide +kernel
theorem d_Md_back_8 : decode prog_9_method_59_code 8 = .ok (.invokestatic 87, 3) := by decide +kernel
theorem d_Md_back_11 : decode prog_9_method_59_code 11 = .ok (.ifCond .ne 6, 3) := by decide +kernel
theorem d_Md_back_14 : decode prog_9_method_59_code 14 = .ok (.bipush (-2), 2) := by decide +kernel
theorem d_Md_back_16 : decode prog_9_method_59_code 16 = .ok (.ireturn, 1) := by decide +kernel
theorem d_Md_back_17 : decode prog_9_method_59_code 17 = .ok (.aload_n 0, 1) := by decide +kernel
theorem d_Md_back_18 : decode prog_9_method_59_code 18 = .ok (.dup, 1) := by decide +kernel
theorem d_Md_back_19 : decode prog_9_method_59_code 19 = .ok (.getfield 140, 3) := by decide +kernel
theorem d_Md_back_22 : decode prog_9_method_59_code 22 = .ok (.iload_n 1, 1) := by decide +kernel
theorem d_Md_back_23 : decode prog_9_method_59_code 23 = .ok (.isub, 1) := by decide +kernel
theorem d_Md_back_24 : decode prog_9_method_59_code 24 = .ok (.putfield 140, 3) := by decide +kernel
theorem d_Md_back_27 : decode prog_9_method_59_code 27 = .ok (.aload_n 0, 1) := by decide +kernel
theorem d_Md_back_28 : decode prog_9_method_59_code 28 = .ok (.getfield 140, 3) := by decide +kernel
theorem d_Md_back_31 : decode prog_9_method_59_code 31 = .ok (.ireturn, 1) := by decide +kernel
abbrev y_Md_back : MethodName := ⟨"LoadCyclesModel", "back", "(I)I"⟩
theorem mi_Md_back : miV y_Md_back prog_9_method_59_code 2 (some .int) 1 := ⟨wd_1066, wd_1067, wd_72, wd_1068, by decide, by decide, by decide +kernel⟩
def w_Md_back (x1 : Int32) (σ : Sg) (K : Int32 → Sg → Prop) : Prop :=
  w_Md_within (x1.toInt64) (0 : Int64) ((σ 43 30).toInt64) σ (fun u8 => ((¬ u8 = 0 → (∀ τ24 : Sg, τ24 = s2 σ 43 30 ((σ 43 30) - x1) → K (τ24 43 30) τ24)) ∧ (u8 = 0 → K (-2 : Int32) σ)))
set_option maxHeartbeats 4000000 in
theorem m_Md_back {Y : Yx} {x1 : Int32} {σ : Sg} {K : Int32 → Sg → Prop} (hY : YD Y)  (h : w_Md_back x1 σ K) : MetI Y y_Md_back prog_9_method_59_code 2 (.int) 1 25 [.ref (ya Y 43), .int x1] σ K := by
  refine met_I [(0, .ref (ya Y 43)), (1, .int x1)] hY (by decide) (Nat.le_of_ble_eq_true rfl) rfl (fun X C hr => ?_)
  unfold w_Md_back at h
  refine q_iload_n (pc := 0) C d_Md_back_0 rfl 1 rfl ?_
  refine q_i2l (pc := 1) C d_Md_back_1 ?_
  refine q_lconst (pc := 2) (v := 0) C d_Md_back_2 (by decide) ?_
  refine q_aload_n (pc := 3) C d_Md_back_3 rfl 0 rfl ?_
  refine q_get (pc := 4) (c := 43) (ci := 7) (k := 30) (v := .int (σ 43 30)) C rfl (by decide) (by decide) wd_763 rfl d_Md_back_4 ?_
  refine q_i2l (pc := 7) C d_Md_back_7 ?_
  refine q_callSIr (pc := 8) (st := []) C (m_Md_within hY h) mi_Md_within wd_841 rfl rfl (Nat.le_of_ble_eq_true rfl) (by decide) (by decide) d_Md_back_8 (fun u8 h => ?_)
  obtain ⟨h1, h2⟩ := h
  refine q_if_ne (pc := 11) 17 C d_Md_back_11 (by decide) (fun hc => ?_) (fun hc => ?_)
  · have h := h1 hc
    refine q_aload_n (pc := 17) C d_Md_back_17 rfl 0 rfl ?_
    refine q_dup (pc := 18) C d_Md_back_18 rfl ?_
    refine q_get (pc := 19) (c := 43) (ci := 7) (k := 30) (v := .int (σ 43 30)) C rfl (by decide) (by decide) wd_763 rfl d_Md_back_19 ?_
    refine q_iload_n (pc := 22) C d_Md_back_22 rfl 1 rfl ?_
    refine q_isub (pc := 23) C d_Md_back_23 ?_
    refine q_put (pc := 24) (c := 43) (ci := 7) (k := 30) C rfl (by decide) (by decide) wd_763 rfl rfl rfl fs_7_30 d_Md_back_24 ?_
    refine q_nms (fun τ24 eτ24 => ?_)
    replace h := h τ24 eτ24
    refine q_aload_n (pc := 27) C d_Md_back_27 rfl 0 rfl ?_
    refine q_get (pc := 28) (c := 43) (ci := 7) (k := 30) (v := .int (τ24 43 30)) C rfl (by decide) (by decide) wd_763 rfl d_Md_back_28 ?_
    exact q_iret (pc := 31) C hr d_Md_back_31 h
  have h := h2 hc
  refine q_bipush (pc := 14) (v := -2) C d_Md_back_14 (by decide) ?_
  exact q_iret (pc := 16) C hr d_Md_back_16 h
theorem d_Md_areSo_0 : decode prog_9_method_60_code 0 = .ok (.aload_n 0, 1) := by decide +kernel
theorem d_Md_areSo_1 : decode prog_9_method_60_code 1 = .ok (.iconst 0, 1) := by decide +kernel
theorem d_Md_areSo_2 : decode prog_9_method_60_code 2 = .ok (.putfield 143, 3) := by decide +kernel
theorem d_Md_areSo_5 : decode prog_9_method_60_code 5 = .ok (.iconst 0, 1) := by decide +kernel
theorem d_Md_areSo_6 : decode prog_9_method_60_code 6 = .ok (.istore_n 1, 1) := by decide +kernel
theorem d_Md_areSo_7 : decode prog_9_method_60_code 7 = .ok (.iload_n 1, 1) := by decide +kernel
theorem d_Md_areSo_8 : decode prog_9_method_60_code 8 = .ok (.aload_n 0, 1) := by decide +kernel
theorem d_Md_areSo_9 : decode prog_9_method_60_code 9 = .ok (.getfield 140, 3) := by decide +kernel
theorem d_Md_areSo_12 : decode prog_9_method_60_code 12 = .ok (.if_icmp .ge 30, 3) := by decide +kernel
theorem d_Md_areSo_15 : decode prog_9_method_60_code 15 = .ok (.aload_n 0, 1) := by decide +kernel
theorem d_Md_areSo_16 : decode prog_9_method_60_code 16 = .ok (.aload_n 0, 1) := by decide +kernel
theorem d_Md_areSo_17 : decode prog_9_method_60_code 17 = .ok (.getfield 73, 3) := by decide +kernel
theorem d_Md_areSo_20 : decode prog_9_method_60_code 20 = .ok (.iload_n 1, 1) := by decide +kernel
theorem d_Md_areSo_21 : decode prog_9_method_60_code 21 = .ok (.iaload, 1) := by decide +kernel
theorem d_Md_areSo_22 : decode prog_9_method_60_code 22 = .ok (.invokevirtual 211, 3) := by decide +kernel
theorem d_Md_areSo_25 : decode prog_9_method_60_code 25 = .ok (.aload_n 0, 1) := by decide +kernel
theorem d_Md_areSo_26 : decode prog_9_method_60_code 26 = .ok (.getfield 76, 3) := by decide +kernel
theorem d_Md_areSo_29 : decode prog_9_method_60_code 29 = .ok (.iload_n 1, 1) := by decide +kernel
theorem d_Md_areSo_30 : decode prog_9_method_60_code 30 = .ok (.iaload, 1) := by decide +kernel
theorem d_Md_areSo_31 : decode prog_9_method_60_code 31 = .ok (.if_icmp .eq 5, 3) := by decide +kernel
theorem d_Md_areSo_34 : decode prog_9_method_60_code 34 = .ok (.iconst 0, 1) := by decide +kernel
theorem d_Md_areSo_35 : decode prog_9_method_60_code 35 = .ok (.ireturn, 1) := by decide +kernel
theorem d_Md_areSo_36 : decode prog_9_method_60_code 36 = .ok (.iinc 1 1, 3) := by decide +kernel
theorem d_Md_areSo_39 : decode prog_9_method_60_code 39 = .ok (.goto (-32), 3) := by decide +kernel
theorem d_Md_areSo_42 : decode prog_9_method_60_code 42 = .ok (.iconst 1, 1) := by decide +kernel
theorem d_Md_areSo_43 : decode prog_9_method_60_code 43 = .ok (.ireturn, 1) := by decide +kernel
abbrev y_Md_areSo : MethodName := ⟨"LoadCyclesModel", "areSo", "()Z"⟩
theorem mi_Md_areSo : miV y_Md_areSo prog_9_method_60_code 2 (some .boolean) 0 := ⟨wd_1075, wd_61, wd_72, wd_1076, by decide, by decide, by decide +kernel⟩
def L_Md_areSo_7 (K : Int32 → Sg → Prop) : Nat → Int32 → Sg → Prop
  | 0, _, _ => False
  | n + 1, v1, σ =>
    (((σ 43 30) ≤ v1 → K (1 : Int32) σ) ∧ (¬ (σ 43 30) ≤ v1 → (vp_in v1 8 ∧ w_Md_energyOf (σ 65 v1.toNatClampNeg) σ (fun u22 τ22 => (vp_in v1 8 ∧ ((u22 = (τ22 66 v1.toNatClampNeg) → L_Md_areSo_7 K n (v1 + (1 : Int32)) τ22) ∧ (¬ u22 = (τ22 66 v1.toNatClampNeg) → K (0 : Int32) τ22)))))))
theorem t_Md_areSo_7 {X : Bx} {Y : Yx}  {K : Int32 → Sg → Prop}  (hY : YD Y) (C : Cx X Y prog_9_method_60_code 2 "LoadCyclesModel" 5 115) (hr : (xh X).sig.returnType = some .boolean)  : ∀ (n : Nat) (v1 : Int32) (σ : Sg), L_Md_areSo_7 K n v1 σ → St X Y 2 (QI X Y K) 7 [(0, .ref (ya Y 43)), (1, .int v1)] [] σ := by
  intro n
  induction n with
  | zero => intro v1 σ h; exact h.elim
  | succ n ih =>
    intro v1 σ h
    unfold L_Md_areSo_7 at h
    refine q_iload_n (pc := 7) C d_Md_areSo_7 rfl 1 rfl ?_
    refine q_aload_n (pc := 8) C d_Md_areSo_8 rfl 0 rfl ?_
    refine q_get (pc := 9) (c := 43) (ci := 7) (k := 30) (v := .int (σ 43 30)) C rfl (by decide) (by decide) wd_763 rfl d_Md_areSo_9 ?_
    obtain ⟨h5, h6⟩ := h
    refine q_icmp_ge (pc := 12) 42 C d_Md_areSo_12 (by decide) (fun hc => ?_) (fun hc => ?_)
    · have h := h5 hc
      refine q_iconst (pc := 42) (v := 1) C d_Md_areSo_42 (by decide) ?_
      exact q_zret (pc := 43) C hr d_Md_areSo_43 bz1 h
    have h := h6 hc
    refine q_aload_n (pc := 15) C d_Md_areSo_15 rfl 0 rfl ?_
    refine q_aload_n (pc := 16) C d_Md_areSo_16 rfl 0 rfl ?_
    refine q_get (pc := 17) (c := 43) (ci := 7) (k := 31) (v := .ref (ya Y 65)) C rfl (by decide) (by decide) wd_764 rfl d_Md_areSo_17 ?_
    refine q_iload_n (pc := 20) C d_Md_areSo_20 rfl 1 rfl ?_
    obtain ⟨h1, h⟩ := h
    refine q_iald (pc := 21) (c := 65) C ⟨rfl, rfl⟩ h1 d_Md_areSo_21 ?_
    refine q_callVI (pc := 22) (st := []) (d := 43) C (m_Md_energyOf hY h) mi_Md_energyOf rfl (by decide) rfl wd_985 rfl rfl (Nat.le_of_ble_eq_true rfl) (by decide) (by decide) d_Md_areSo_22 (fun u22 τ22 h => ?_)
    refine q_aload_n (pc := 25) C d_Md_areSo_25 rfl 0 rfl ?_
    refine q_get (pc := 26) (c := 43) (ci := 7) (k := 32) (v := .ref (ya Y 66)) C rfl (by decide) (by decide) wd_765 rfl d_Md_areSo_26 ?_
    refine q_iload_n (pc := 29) C d_Md_areSo_29 rfl 1 rfl ?_
    obtain ⟨h2, h⟩ := h
    refine q_iald (pc := 30) (c := 66) C ⟨rfl, rfl⟩ h2 d_Md_areSo_30 ?_
    obtain ⟨h3, h4⟩ := h
    refine q_icmp_eq (pc := 31) 36 C d_Md_areSo_31 (by decide) (fun hc => ?_) (fun hc => ?_)
    · have h := h3 hc
      refine q_iinc (pc := 36) (v1 + (1 : Int32)) [(1, .int (v1 + (1 : Int32))), (0, .ref (ya Y 43))] C d_Md_areSo_36 1 rfl rfl (by decide) rfl ?_
      refine q_goto (pc := 39) 7 C d_Md_areSo_39 (by decide) ?_
      refine q_sub [(0, .ref (ya Y 43)), (1, .int (v1 + (1 : Int32)))] [1, 0] rfl ?_
      exact ih (v1 + (1 : Int32)) τ22 h
    have h := h4 hc
    refine q_iconst (pc := 34) (v := 0) C d_Md_areSo_34 (by decide) ?_
    exact q_zret (pc := 35) C hr d_Md_areSo_35 bz0 h
def w_Md_areSo  (σ : Sg) (K : Int32 → Sg → Prop) : Prop :=
  (∀ τ2 : Sg, τ2 = s2 σ 43 17 (0 : Int32) → (∃ n7 : Nat, L_Md_areSo_7 K n7 (0 : Int32) τ2))
set_option maxHeartbeats 4000000 in
theorem m_Md_areSo {Y : Yx}  {σ : Sg} {K : Int32 → Sg → Prop} (hY : YD Y)  (h : w_Md_areSo σ K) : MetI Y y_Md_areSo prog_9_method_60_code 2 (.boolean) 5 115 [.ref (ya Y 43)] σ K := by
  refine met_I [(0, .ref (ya Y 43))] hY (by decide) (Nat.le_of_ble_eq_true rfl) rfl (fun X C hr => ?_)
  unfold w_Md_areSo at h
  refine q_aload_n (pc := 0) C d_Md_areSo_0 rfl 0 rfl ?_
  refine q_iconst (pc := 1) (v := 0) C d_Md_areSo_1 (by decide) ?_
  refine q_put (pc := 2) (c := 43) (ci := 7) (k := 17) C rfl (by decide) (by decide) wd_750 rfl rfl rfl fs_7_17 d_Md_areSo_2 ?_
  refine q_nms (fun τ2 eτ2 => ?_)
  replace h := h τ2 eτ2
  refine q_iconst (pc := 5) (v := 0) C d_Md_areSo_5 (by decide) ?_
  refine q_istore_n (pc := 6) [(1, .int (0 : Int32)), (0, .ref (ya Y 43))] C d_Md_areSo_6 rfl (by decide) rfl ?_
  obtain ⟨n7, h⟩ := h
  refine q_sub [(0, .ref (ya Y 43)), (1, .int (0 : Int32))] [1, 0] rfl ?_
  exact t_Md_areSo_7 hY C hr n7 (0 : Int32) τ2 h
