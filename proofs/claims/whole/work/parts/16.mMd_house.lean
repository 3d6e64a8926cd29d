theorem d_Md_house_0 : decode prog_9_method_14_code 0 = .ok (.aload_n 0, 1) := by decide +kernel
theorem d_Md_house_1 : decode prog_9_method_14_code 1 = .ok (.iconst 0, 1) := by decide +kernel
theorem d_Md_house_2 : decode prog_9_method_14_code 2 = .ok (.putfield 79, 3) := by decide +kernel
theorem d_Md_house_5 : decode prog_9_method_14_code 5 = .ok (.iload_n 1, 1) := by decide +kernel
theorem d_Md_house_6 : decode prog_9_method_14_code 6 = .ok (.invokestatic 121, 3) := by decide +kernel
theorem d_Md_house_9 : decode prog_9_method_14_code 9 = .ok (.ifCond .ne 5, 3) := by decide +kernel
theorem d_Md_house_12 : decode prog_9_method_14_code 12 = .ok (.iconst (-1), 1) := by decide +kernel
theorem d_Md_house_13 : decode prog_9_method_14_code 13 = .ok (.ireturn, 1) := by decide +kernel
theorem d_Md_house_14 : decode prog_9_method_14_code 14 = .ok (.iload_n 2, 1) := by decide +kernel
theorem d_Md_house_15 : decode prog_9_method_14_code 15 = .ok (.invokestatic 124, 3) := by decide +kernel
theorem d_Md_house_18 : decode prog_9_method_14_code 18 = .ok (.ifCond .ne 6, 3) := by decide +kernel
theorem d_Md_house_21 : decode prog_9_method_14_code 21 = .ok (.bipush (-2), 2) := by decide +kernel
theorem d_Md_house_23 : decode prog_9_method_14_code 23 = .ok (.ireturn, 1) := by decide +kernel
theorem d_Md_house_24 : decode prog_9_method_14_code 24 = .ok (.aload_n 0, 1) := by decide +kernel
theorem d_Md_house_25 : decode prog_9_method_14_code 25 = .ok (.iload_n 1, 1) := by decide +kernel
theorem d_Md_house_26 : decode prog_9_method_14_code 26 = .ok (.iload_n 2, 1) := by decide +kernel
theorem d_Md_house_27 : decode prog_9_method_14_code 27 = .ok (.iload_n 3, 1) := by decide +kernel
theorem d_Md_house_28 : decode prog_9_method_14_code 28 = .ok (.iload 4, 2) := by decide +kernel
theorem d_Md_house_30 : decode prog_9_method_14_code 30 = .ok (.invokevirtual 127, 3) := by decide +kernel
theorem d_Md_house_33 : decode prog_9_method_14_code 33 = .ok (.istore 5, 2) := by decide +kernel
theorem d_Md_house_35 : decode prog_9_method_14_code 35 = .ok (.iload 5, 2) := by decide +kernel
theorem d_Md_house_37 : decode prog_9_method_14_code 37 = .ok (.ifCond .eq 10, 3) := by decide +kernel
theorem d_Md_house_40 : decode prog_9_method_14_code 40 = .ok (.aload_n 0, 1) := by decide +kernel
theorem d_Md_house_41 : decode prog_9_method_14_code 41 = .ok (.iload 5, 2) := by decide +kernel
theorem d_Md_house_43 : decode prog_9_method_14_code 43 = .ok (.invokevirtual 131, 3) := by decide +kernel
theorem d_Md_house_46 : decode prog_9_method_14_code 46 = .ok (.ireturn, 1) := by decide +kernel
theorem d_Md_house_47 : decode prog_9_method_14_code 47 = .ok (.bipush 60, 2) := by decide +kernel
theorem d_Md_house_49 : decode prog_9_method_14_code 49 = .ok (.iload_n 1, 1) := by decide +kernel
theorem d_Md_house_50 : decode prog_9_method_14_code 50 = .ok (.imul, 1) := by decide +kernel
theorem d_Md_house_51 : decode prog_9_method_14_code 51 = .ok (.iload_n 3, 1) := by decide +kernel
theorem d_Md_house_52 : decode prog_9_method_14_code 52 = .ok (.iadd, 1) := by decide +kernel
theorem d_Md_house_53 : decode prog_9_method_14_code 53 = .ok (.istore 6, 2) := by decide +kernel
theorem d_Md_house_55 : decode prog_9_method_14_code 55 = .ok (.aload_n 0, 1) := by decide +kernel
theorem d_Md_house_56 : decode prog_9_method_14_code 56 = .ok (.iload 6, 2) := by decide +kernel
theorem d_Md_house_58 : decode prog_9_method_14_code 58 = .ok (.putfield 99, 3) := by decide +kernel
theorem d_Md_house_61 : decode prog_9_method_14_code 61 = .ok (.aload_n 0, 1) := by decide +kernel
theorem d_Md_house_62 : decode prog_9_method_14_code 62 = .ok (.iload 6, 2) := by decide +kernel
theorem d_Md_house_64 : decode prog_9_method_14_code 64 = .ok (.iload 4, 2) := by decide +kernel
theorem d_Md_house_66 : decode prog_9_method_14_code 66 = .ok (.iadd, 1) := by decide +kernel
theorem d_Md_house_67 : decode prog_9_method_14_code 67 = .ok (.invokevirtual 134, 3) := by decide +kernel
theorem d_Md_house_70 : decode prog_9_method_14_code 70 = .ok (.ifCond .ne 14, 3) := by decide +kernel
theorem d_Md_house_73 : decode prog_9_method_14_code 73 = .ok (.bipush (-100), 2) := by decide +kernel
theorem d_Md_house_75 : decode prog_9_method_14_code 75 = .ok (.aload_n 0, 1) := by decide +kernel
theorem d_Md_house_76 : decode prog_9_method_14_code 76 = .ok (.getfield 99, 3) := by decide +kernel
theorem d_Md_house_79 : decode prog_9_method_14_code 79 = .ok (.iload 6, 2) := by decide +kernel
theorem d_Md_house_81 : decode prog_9_method_14_code 81 = .ok (.isub, 1) := by decide +kernel
theorem d_Md_house_82 : decode prog_9_method_14_code 82 = .ok (.isub, 1) := by decide +kernel
theorem d_Md_house_83 : decode prog_9_method_14_code 83 = .ok (.ireturn, 1) := by decide +kernel
theorem d_Md_house_84 : decode prog_9_method_14_code 84 = .ok (.aload_n 0, 1) := by decide +kernel
theorem d_Md_house_85 : decode prog_9_method_14_code 85 = .ok (.aload_n 0, 1) := by decide +kernel
theorem d_Md_house_86 : decode prog_9_method_14_code 86 = .ok (.getfield 110, 3) := by decide +kernel
theorem d_Md_house_89 : decode prog_9_method_14_code 89 = .ok (.putfield 93, 3) := by decide +kernel
theorem d_Md_house_92 : decode prog_9_method_14_code 92 = .ok (.iconst 0, 1) := by decide +kernel
theorem d_Md_house_93 : decode prog_9_method_14_code 93 = .ok (.istore 7, 2) := by decide +kernel
theorem d_Md_house_95 : decode prog_9_method_14_code 95 = .ok (.iload 7, 2) := by decide +kernel
theorem d_Md_house_97 : decode prog_9_method_14_code 97 = .ok (.iconst 4, 1) := by decide +kernel
theorem d_Md_house_98 : decode prog_9_method_14_code 98 = .ok (.if_icmp .ge 118, 3) := by decide +kernel
theorem d_Md_house_101 : decode prog_9_method_14_code 101 = .ok (.aload_n 0, 1) := by decide +kernel
theorem d_Md_house_102 : decode prog_9_method_14_code 102 = .ok (.getfield 19, 3) := by decide +kernel
theorem d_Md_house_105 : decode prog_9_method_14_code 105 = .ok (.iload 7, 2) := by decide +kernel
theorem d_Md_house_107 : decode prog_9_method_14_code 107 = .ok (.iload 7, 2) := by decide +kernel
theorem d_Md_house_109 : decode prog_9_method_14_code 109 = .ok (.aload_n 0, 1) := by decide +kernel
theorem d_Md_house_110 : decode prog_9_method_14_code 110 = .ok (.getfield 93, 3) := by decide +kernel
theorem d_Md_house_113 : decode prog_9_method_14_code 113 = .ok (.if_icmp .ge 13, 3) := by decide +kernel
theorem d_Md_house_116 : decode prog_9_method_14_code 116 = .ok (.aload_n 0, 1) := by decide +kernel
theorem d_Md_house_117 : decode prog_9_method_14_code 117 = .ok (.getfield 31, 3) := by decide +kernel
theorem d_Md_house_120 : decode prog_9_method_14_code 120 = .ok (.iload 7, 2) := by decide +kernel
theorem d_Md_house_122 : decode prog_9_method_14_code 122 = .ok (.iaload, 1) := by decide +kernel
theorem d_Md_house_123 : decode prog_9_method_14_code 123 = .ok (.goto 4, 3) := by decide +kernel
theorem d_Md_house_126 : decode prog_9_method_14_code 126 = .ok (.iconst 0, 1) := by decide +kernel
theorem d_Md_house_127 : decode prog_9_method_14_code 127 = .ok (.iastore, 1) := by decide +kernel
theorem d_Md_house_128 : decode prog_9_method_14_code 128 = .ok (.aload_n 0, 1) := by decide +kernel
theorem d_Md_house_129 : decode prog_9_method_14_code 129 = .ok (.getfield 22, 3) := by decide +kernel
theorem d_Md_house_132 : decode prog_9_method_14_code 132 = .ok (.iload 7, 2) := by decide +kernel
theorem d_Md_house_134 : decode prog_9_method_14_code 134 = .ok (.iload 7, 2) := by decide +kernel
theorem d_Md_house_136 : decode prog_9_method_14_code 136 = .ok (.aload_n 0, 1) := by decide +kernel
theorem d_Md_house_137 : decode prog_9_method_14_code 137 = .ok (.getfield 93, 3) := by decide +kernel
theorem d_Md_house_140 : decode prog_9_method_14_code 140 = .ok (.if_icmp .ge 13, 3) := by decide +kernel
theorem d_Md_house_143 : decode prog_9_method_14_code 143 = .ok (.aload_n 0, 1) := by decide +kernel
theorem d_Md_house_144 : decode prog_9_method_14_code 144 = .ok (.getfield 34, 3) := by decide +kernel
theorem d_Md_house_147 : decode prog_9_method_14_code 147 = .ok (.iload 7, 2) := by decide +kernel
theorem d_Md_house_149 : decode prog_9_method_14_code 149 = .ok (.iaload, 1) := by decide +kernel
theorem d_Md_house_150 : decode prog_9_method_14_code 150 = .ok (.goto 4, 3) := by decide +kernel
theorem d_Md_house_153 : decode prog_9_method_14_code 153 = .ok (.iconst 0, 1) := by decide +kernel
theorem d_Md_house_154 : decode prog_9_method_14_code 154 = .ok (.iastore, 1) := by decide +kernel
theorem d_Md_house_155 : decode prog_9_method_14_code 155 = .ok (.iconst 0, 1) := by decide +kernel
theorem d_Md_house_156 : decode prog_9_method_14_code 156 = .ok (.istore 8, 2) := by decide +kernel
theorem d_Md_house_158 : decode prog_9_method_14_code 158 = .ok (.iload 8, 2) := by decide +kernel
theorem d_Md_house_160 : decode prog_9_method_14_code 160 = .ok (.iconst 3, 1) := by decide +kernel
theorem d_Md_house_161 : decode prog_9_method_14_code 161 = .ok (.if_icmp .ge 49, 3) := by decide +kernel
theorem d_Md_house_164 : decode prog_9_method_14_code 164 = .ok (.aload_n 0, 1) := by decide +kernel
theorem d_Md_house_165 : decode prog_9_method_14_code 165 = .ok (.getfield 25, 3) := by decide +kernel
theorem d_Md_house_168 : decode prog_9_method_14_code 168 = .ok (.iconst 3, 1) := by decide +kernel
theorem d_Md_house_169 : decode prog_9_method_14_code 169 = .ok (.iload 7, 2) := by decide +kernel
theorem d_Md_house_171 : decode prog_9_method_14_code 171 = .ok (.imul, 1) := by decide +kernel
theorem d_Md_house_172 : decode prog_9_method_14_code 172 = .ok (.iload 8, 2) := by decide +kernel
theorem d_Md_house_174 : decode prog_9_method_14_code 174 = .ok (.iadd, 1) := by decide +kernel
theorem d_Md_house_175 : decode prog_9_method_14_code 175 = .ok (.iload 8, 2) := by decide +kernel
theorem d_Md_house_177 : decode prog_9_method_14_code 177 = .ok (.aload_n 0, 1) := by decide +kernel
theorem d_Md_house_178 : decode prog_9_method_14_code 178 = .ok (.getfield 22, 3) := by decide +kernel
theorem d_Md_house_181 : decode prog_9_method_14_code 181 = .ok (.iload 7, 2) := by decide +kernel
theorem d_Md_house_183 : decode prog_9_method_14_code 183 = .ok (.iaload, 1) := by decide +kernel
theorem d_Md_house_184 : decode prog_9_method_14_code 184 = .ok (.if_icmp .ge 18, 3) := by decide +kernel
theorem d_Md_house_187 : decode prog_9_method_14_code 187 = .ok (.aload_n 0, 1) := by decide +kernel
theorem d_Md_house_188 : decode prog_9_method_14_code 188 = .ok (.getfield 37, 3) := by decide +kernel
theorem d_Md_house_191 : decode prog_9_method_14_code 191 = .ok (.iconst 3, 1) := by decide +kernel
theorem d_Md_house_192 : decode prog_9_method_14_code 192 = .ok (.iload 7, 2) := by decide +kernel
theorem d_Md_house_194 : decode prog_9_method_14_code 194 = .ok (.imul, 1) := by decide +kernel
theorem d_Md_house_195 : decode prog_9_method_14_code 195 = .ok (.iload 8, 2) := by decide +kernel
theorem d_Md_house_197 : decode prog_9_method_14_code 197 = .ok (.iadd, 1) := by decide +kernel
theorem d_Md_house_198 : decode prog_9_method_14_code 198 = .ok (.iaload, 1) := by decide +kernel
theorem d_Md_house_199 : decode prog_9_method_14_code 199 = .ok (.goto 4, 3) := by decide +kernel
theorem d_Md_house_202 : decode prog_9_method_14_code 202 = .ok (.iconst 0, 1) := by decide +kernel
theorem d_Md_house_203 : decode prog_9_method_14_code 203 = .ok (.iastore, 1) := by decide +kernel
theorem d_Md_house_204 : decode prog_9_method_14_code 204 = .ok (.iinc 8 1, 3) := by decide +kernel
theorem d_Md_house_207 : decode prog_9_method_14_code 207 = .ok (.goto (-49), 3) := by decide +kernel
theorem d_Md_house_210 : decode prog_9_method_14_code 210 = .ok (.iinc 7 1, 3) := by decide +kernel
theorem d_Md_house_213 : decode prog_9_method_14_code 213 = .ok (.goto (-118), 3) := by decide +kernel
theorem d_Md_house_216 : decode prog_9_method_14_code 216 = .ok (.aload_n 0, 1) := by decide +kernel
theorem d_Md_house_217 : decode prog_9_method_14_code 217 = .ok (.iconst 0, 1) := by decide +kernel
theorem d_Md_house_218 : decode prog_9_method_14_code 218 = .ok (.putfield 96, 3) := by decide +kernel
theorem d_Md_house_221 : decode prog_9_method_14_code 221 = .ok (.aload_n 0, 1) := by decide +kernel
theorem d_Md_house_222 : decode prog_9_method_14_code 222 = .ok (.iconst 0, 1) := by decide +kernel
theorem d_Md_house_223 : decode prog_9_method_14_code 223 = .ok (.putfield 137, 3) := by decide +kernel
theorem d_Md_house_226 : decode prog_9_method_14_code 226 = .ok (.aload_n 0, 1) := by decide +kernel
theorem d_Md_house_227 : decode prog_9_method_14_code 227 = .ok (.iconst 0, 1) := by decide +kernel
theorem d_Md_house_228 : decode prog_9_method_14_code 228 = .ok (.putfield 140, 3) := by decide +kernel
theorem d_Md_house_231 : decode prog_9_method_14_code 231 = .ok (.aload_n 0, 1) := by decide +kernel
theorem d_Md_house_232 : decode prog_9_method_14_code 232 = .ok (.iconst 0, 1) := by decide +kernel
theorem d_Md_house_233 : decode prog_9_method_14_code 233 = .ok (.putfield 143, 3) := by decide +kernel
theorem d_Md_house_236 : decode prog_9_method_14_code 236 = .ok (.aload_n 0, 1) := by decide +kernel
theorem d_Md_house_237 : decode prog_9_method_14_code 237 = .ok (.getfield 93, 3) := by decide +kernel
theorem d_Md_house_240 : decode prog_9_method_14_code 240 = .ok (.ireturn, 1) := by decide +kernel
abbrev y_Md_house : MethodName := ⟨"LoadCyclesModel", "house", "(IIII)I"⟩
theorem mi_Md_house : miV y_Md_house prog_9_method_14_code 9 (some .int) 4 := ⟨wd_834, wd_835, wd_72, wd_836, by decide, by decide, by decide +kernel⟩
def B_Md_house_203 (x1 : Int32) (x2 : Int32) (x3 : Int32) (x4 : Int32) (K : Int32 → Sg → Prop) (r95 : Int32 → Sg → Prop) (r158 : Int32 → Sg → Prop) (v7 : Int32) (v8 : Int32) (vs0 : Int32) (vs1 : Int32) (σ : Sg) : Prop :=
  (vp_in vs1 12 ∧ (∀ τ203 : Sg, τ203 = s2 σ 49 vs1.toNatClampNeg vs0 → r158 (v8 + (1 : Int32)) τ203))
theorem t_Md_house_203 {X : Bx} {Y : Yx} {x1 : Int32} {x2 : Int32} {x3 : Int32} {x4 : Int32} {v7 : Int32} {v8 : Int32} {vs0 : Int32} {vs1 : Int32} {K : Int32 → Sg → Prop} {r95 : Int32 → Sg → Prop} {r158 : Int32 → Sg → Prop} (hY : YD Y) (C : Cx X Y prog_9_method_14_code 9 "LoadCyclesModel" 3 69) (hr : (xh X).sig.returnType = some .int)  (H95 : ∀ (v7 : Int32) (σ : Sg), r95 v7 σ → St X Y 9 (QI X Y K) 95 [(0, .ref (ya Y 43)), (7, .int v7)] [] σ) (H158 : ∀ (v8 : Int32) (σ : Sg), r158 v8 σ → St X Y 9 (QI X Y K) 158 [(0, .ref (ya Y 43)), (7, .int v7), (8, .int v8)] [] σ)  {σ : Sg} (h : B_Md_house_203 x1 x2 x3 x4 K r95 r158 v7 v8 vs0 vs1 σ) : St X Y 9 (QI X Y K) 203 [(0, .ref (ya Y 43)), (7, .int v7), (8, .int v8)] [.int vs0, .int vs1, .ref (ya Y 49)] σ := by
  unfold B_Md_house_203 at h
  obtain ⟨h4, h⟩ := h
  refine q_iast (pc := 203) (c := 49) C ⟨rfl, rfl⟩ h4 d_Md_house_203 ?_
  refine q_nms (fun τ203 eτ203 => ?_)
  replace h := h τ203 eτ203
  refine q_iinc (pc := 204) (v8 + (1 : Int32)) [(8, .int (v8 + (1 : Int32))), (0, .ref (ya Y 43)), (7, .int v7)] C d_Md_house_204 2 rfl rfl (by decide) rfl ?_
  refine q_goto (pc := 207) 158 C d_Md_house_207 (by decide) ?_
  refine q_sub [(0, .ref (ya Y 43)), (7, .int v7), (8, .int (v8 + (1 : Int32)))] [1, 2, 0] rfl ?_
  exact H158 (v8 + (1 : Int32)) τ203 h
def L_Md_house_158 (x1 : Int32) (x2 : Int32) (x3 : Int32) (x4 : Int32) (v7 : Int32) (K : Int32 → Sg → Prop) (r95 : Int32 → Sg → Prop) : Nat → Int32 → Sg → Prop
  | 0, _, _ => False
  | n + 1, v8, σ =>
    (((3 : Int32) ≤ v8 → r95 (v7 + (1 : Int32)) σ) ∧ (¬ (3 : Int32) ≤ v8 → (vp_in v7 4 ∧ (((σ 48 v7.toNatClampNeg) ≤ v8 → B_Md_house_203 x1 x2 x3 x4 K r95 (fun a0 a1 => L_Md_house_158 x1 x2 x3 x4 v7 K r95 n a0 a1) v7 v8 (0 : Int32) (((3 : Int32) * v7) + v8) σ) ∧ (¬ (σ 48 v7.toNatClampNeg) ≤ v8 → (vp_in (((3 : Int32) * v7) + v8) 12 ∧ B_Md_house_203 x1 x2 x3 x4 K r95 (fun a0 a1 => L_Md_house_158 x1 x2 x3 x4 v7 K r95 n a0 a1) v7 v8 (σ 53 (((3 : Int32) * v7) + v8).toNatClampNeg) (((3 : Int32) * v7) + v8) σ))))))
theorem t_Md_house_158 {X : Bx} {Y : Yx} {x1 : Int32} {x2 : Int32} {x3 : Int32} {x4 : Int32} {v7 : Int32} {K : Int32 → Sg → Prop} {r95 : Int32 → Sg → Prop} (hY : YD Y) (C : Cx X Y prog_9_method_14_code 9 "LoadCyclesModel" 3 69) (hr : (xh X).sig.returnType = some .int)  (H95 : ∀ (v7 : Int32) (σ : Sg), r95 v7 σ → St X Y 9 (QI X Y K) 95 [(0, .ref (ya Y 43)), (7, .int v7)] [] σ) : ∀ (n : Nat) (v8 : Int32) (σ : Sg), L_Md_house_158 x1 x2 x3 x4 v7 K r95 n v8 σ → St X Y 9 (QI X Y K) 158 [(0, .ref (ya Y 43)), (7, .int v7), (8, .int v8)] [] σ := by
  intro n
  induction n with
  | zero => intro v8 σ h; exact h.elim
  | succ n ih =>
    intro v8 σ h
    unfold L_Md_house_158 at h
    refine q_iload (pc := 158) C d_Md_house_158 2 rfl ?_
    refine q_iconst (pc := 160) (v := 3) C d_Md_house_160 (by decide) ?_
    obtain ⟨h8, h9⟩ := h
    refine q_icmp_ge (pc := 161) 210 C d_Md_house_161 (by decide) (fun hc => ?_) (fun hc => ?_)
    · have h := h8 hc
      refine q_iinc (pc := 210) (v7 + (1 : Int32)) [(7, .int (v7 + (1 : Int32))), (0, .ref (ya Y 43)), (8, .int v8)] C d_Md_house_210 1 rfl rfl (by decide) rfl ?_
      refine q_goto (pc := 213) 95 C d_Md_house_213 (by decide) ?_
      refine q_sub [(0, .ref (ya Y 43)), (7, .int (v7 + (1 : Int32)))] [1, 0] rfl ?_
      exact H95 (v7 + (1 : Int32)) σ h
    have h := h9 hc
    refine q_aload_n (pc := 164) C d_Md_house_164 rfl 0 rfl ?_
    refine q_get (pc := 165) (c := 43) (ci := 7) (k := 8) (v := .ref (ya Y 49)) C rfl (by decide) (by decide) wd_741 rfl d_Md_house_165 ?_
    refine q_iconst (pc := 168) (v := 3) C d_Md_house_168 (by decide) ?_
    refine q_iload (pc := 169) C d_Md_house_169 1 rfl ?_
    refine q_imul (pc := 171) C d_Md_house_171 ?_
    refine q_iload (pc := 172) C d_Md_house_172 2 rfl ?_
    refine q_iadd (pc := 174) C d_Md_house_174 ?_
    refine q_iload (pc := 175) C d_Md_house_175 2 rfl ?_
    refine q_aload_n (pc := 177) C d_Md_house_177 rfl 0 rfl ?_
    refine q_get (pc := 178) (c := 43) (ci := 7) (k := 7) (v := .ref (ya Y 48)) C rfl (by decide) (by decide) wd_740 rfl d_Md_house_178 ?_
    refine q_iload (pc := 181) C d_Md_house_181 1 rfl ?_
    obtain ⟨h3, h⟩ := h
    refine q_iald (pc := 183) (c := 48) C ⟨rfl, rfl⟩ h3 d_Md_house_183 ?_
    obtain ⟨h6, h7⟩ := h
    refine q_icmp_ge (pc := 184) 202 C d_Md_house_184 (by decide) (fun hc => ?_) (fun hc => ?_)
    · have h := h6 hc
      refine q_iconst (pc := 202) (v := 0) C d_Md_house_202 (by decide) ?_
      exact t_Md_house_203 hY C hr H95 ih h
    have h := h7 hc
    refine q_aload_n (pc := 187) C d_Md_house_187 rfl 0 rfl ?_
    refine q_get (pc := 188) (c := 43) (ci := 7) (k := 16) (v := .ref (ya Y 53)) C rfl (by decide) (by decide) wd_749 rfl d_Md_house_188 ?_
    refine q_iconst (pc := 191) (v := 3) C d_Md_house_191 (by decide) ?_
    refine q_iload (pc := 192) C d_Md_house_192 1 rfl ?_
    refine q_imul (pc := 194) C d_Md_house_194 ?_
    refine q_iload (pc := 195) C d_Md_house_195 2 rfl ?_
    refine q_iadd (pc := 197) C d_Md_house_197 ?_
    obtain ⟨h5, h⟩ := h
    refine q_iald (pc := 198) (c := 53) C ⟨rfl, rfl⟩ h5 d_Md_house_198 ?_
    refine q_goto (pc := 199) 203 C d_Md_house_199 (by decide) ?_
    exact t_Md_house_203 hY C hr H95 ih h
def B_Md_house_154 (x1 : Int32) (x2 : Int32) (x3 : Int32) (x4 : Int32) (K : Int32 → Sg → Prop) (r95 : Int32 → Sg → Prop) (v7 : Int32) (vs0 : Int32) (vs1 : Int32) (σ : Sg) : Prop :=
  (vp_in vs1 4 ∧ (∀ τ154 : Sg, τ154 = s2 σ 48 vs1.toNatClampNeg vs0 → (∃ n10 : Nat, L_Md_house_158 x1 x2 x3 x4 v7 K r95 n10 (0 : Int32) τ154)))
theorem t_Md_house_154 {X : Bx} {Y : Yx} {x1 : Int32} {x2 : Int32} {x3 : Int32} {x4 : Int32} {v7 : Int32} {vs0 : Int32} {vs1 : Int32} {K : Int32 → Sg → Prop} {r95 : Int32 → Sg → Prop} (hY : YD Y) (C : Cx X Y prog_9_method_14_code 9 "LoadCyclesModel" 3 69) (hr : (xh X).sig.returnType = some .int)  (H95 : ∀ (v7 : Int32) (σ : Sg), r95 v7 σ → St X Y 9 (QI X Y K) 95 [(0, .ref (ya Y 43)), (7, .int v7)] [] σ)  {σ : Sg} (h : B_Md_house_154 x1 x2 x3 x4 K r95 v7 vs0 vs1 σ) : St X Y 9 (QI X Y K) 154 [(0, .ref (ya Y 43)), (7, .int v7)] [.int vs0, .int vs1, .ref (ya Y 48)] σ := by
  unfold B_Md_house_154 at h
  obtain ⟨h2, h⟩ := h
  refine q_iast (pc := 154) (c := 48) C ⟨rfl, rfl⟩ h2 d_Md_house_154 ?_
  refine q_nms (fun τ154 eτ154 => ?_)
  replace h := h τ154 eτ154
  refine q_iconst (pc := 155) (v := 0) C d_Md_house_155 (by decide) ?_
  refine q_istore (pc := 156) [(8, .int (0 : Int32)), (0, .ref (ya Y 43)), (7, .int v7)] C d_Md_house_156 (by decide) rfl ?_
  obtain ⟨n10, h⟩ := h
  refine q_sub [(0, .ref (ya Y 43)), (7, .int v7), (8, .int (0 : Int32))] [1, 2, 0] rfl ?_
  exact t_Md_house_158 hY C hr H95 n10 (0 : Int32) τ154 h
def B_Md_house_127 (x1 : Int32) (x2 : Int32) (x3 : Int32) (x4 : Int32) (K : Int32 → Sg → Prop) (r95 : Int32 → Sg → Prop) (v7 : Int32) (vs0 : Int32) (vs1 : Int32) (σ : Sg) : Prop :=
  (vp_in vs1 4 ∧ (∀ τ127 : Sg, τ127 = s2 σ 47 vs1.toNatClampNeg vs0 → (((τ127 43 5) ≤ v7 → B_Md_house_154 x1 x2 x3 x4 K r95 v7 (0 : Int32) v7 τ127) ∧ (¬ (τ127 43 5) ≤ v7 → (vp_in v7 4 ∧ B_Md_house_154 x1 x2 x3 x4 K r95 v7 (τ127 52 v7.toNatClampNeg) v7 τ127)))))
theorem t_Md_house_127 {X : Bx} {Y : Yx} {x1 : Int32} {x2 : Int32} {x3 : Int32} {x4 : Int32} {v7 : Int32} {vs0 : Int32} {vs1 : Int32} {K : Int32 → Sg → Prop} {r95 : Int32 → Sg → Prop} (hY : YD Y) (C : Cx X Y prog_9_method_14_code 9 "LoadCyclesModel" 3 69) (hr : (xh X).sig.returnType = some .int)  (H95 : ∀ (v7 : Int32) (σ : Sg), r95 v7 σ → St X Y 9 (QI X Y K) 95 [(0, .ref (ya Y 43)), (7, .int v7)] [] σ)  {σ : Sg} (h : B_Md_house_127 x1 x2 x3 x4 K r95 v7 vs0 vs1 σ) : St X Y 9 (QI X Y K) 127 [(0, .ref (ya Y 43)), (7, .int v7)] [.int vs0, .int vs1, .ref (ya Y 47)] σ := by
  unfold B_Md_house_127 at h
  obtain ⟨h1, h⟩ := h
  refine q_iast (pc := 127) (c := 47) C ⟨rfl, rfl⟩ h1 d_Md_house_127 ?_
  refine q_nms (fun τ127 eτ127 => ?_)
  replace h := h τ127 eτ127
  refine q_aload_n (pc := 128) C d_Md_house_128 rfl 0 rfl ?_
  refine q_get (pc := 129) (c := 43) (ci := 7) (k := 7) (v := .ref (ya Y 48)) C rfl (by decide) (by decide) wd_740 rfl d_Md_house_129 ?_
  refine q_iload (pc := 132) C d_Md_house_132 1 rfl ?_
  refine q_iload (pc := 134) C d_Md_house_134 1 rfl ?_
  refine q_aload_n (pc := 136) C d_Md_house_136 rfl 0 rfl ?_
  refine q_get (pc := 137) (c := 43) (ci := 7) (k := 5) (v := .int (τ127 43 5)) C rfl (by decide) (by decide) wd_738 rfl d_Md_house_137 ?_
  obtain ⟨h12, h13⟩ := h
  refine q_icmp_ge (pc := 140) 153 C d_Md_house_140 (by decide) (fun hc => ?_) (fun hc => ?_)
  · have h := h12 hc
    refine q_iconst (pc := 153) (v := 0) C d_Md_house_153 (by decide) ?_
    exact t_Md_house_154 hY C hr H95 h
  have h := h13 hc
  refine q_aload_n (pc := 143) C d_Md_house_143 rfl 0 rfl ?_
  refine q_get (pc := 144) (c := 43) (ci := 7) (k := 15) (v := .ref (ya Y 52)) C rfl (by decide) (by decide) wd_748 rfl d_Md_house_144 ?_
  refine q_iload (pc := 147) C d_Md_house_147 1 rfl ?_
  obtain ⟨h11, h⟩ := h
  refine q_iald (pc := 149) (c := 52) C ⟨rfl, rfl⟩ h11 d_Md_house_149 ?_
  refine q_goto (pc := 150) 154 C d_Md_house_150 (by decide) ?_
  exact t_Md_house_154 hY C hr H95 h
def L_Md_house_95 (x1 : Int32) (x2 : Int32) (x3 : Int32) (x4 : Int32) (K : Int32 → Sg → Prop) : Nat → Int32 → Sg → Prop
  | 0, _, _ => False
  | n + 1, v7, σ =>
    (((4 : Int32) ≤ v7 → (∀ τ218 : Sg, τ218 = s2 σ 43 9 (0 : Int32) → (∀ τ223 : Sg, τ223 = s2 τ218 43 11 (0 : Int32) → (∀ τ228 : Sg, τ228 = s2 τ223 43 30 (0 : Int32) → (∀ τ233 : Sg, τ233 = s2 τ228 43 17 (0 : Int32) → K (τ233 43 5) τ233))))) ∧ (¬ (4 : Int32) ≤ v7 → (((σ 43 5) ≤ v7 → B_Md_house_127 x1 x2 x3 x4 K (fun a0 a1 => L_Md_house_95 x1 x2 x3 x4 K n a0 a1) v7 (0 : Int32) v7 σ) ∧ (¬ (σ 43 5) ≤ v7 → (vp_in v7 4 ∧ B_Md_house_127 x1 x2 x3 x4 K (fun a0 a1 => L_Md_house_95 x1 x2 x3 x4 K n a0 a1) v7 (σ 51 v7.toNatClampNeg) v7 σ)))))
theorem t_Md_house_95 {X : Bx} {Y : Yx} {x1 : Int32} {x2 : Int32} {x3 : Int32} {x4 : Int32} {K : Int32 → Sg → Prop}  (hY : YD Y) (C : Cx X Y prog_9_method_14_code 9 "LoadCyclesModel" 3 69) (hr : (xh X).sig.returnType = some .int)  : ∀ (n : Nat) (v7 : Int32) (σ : Sg), L_Md_house_95 x1 x2 x3 x4 K n v7 σ → St X Y 9 (QI X Y K) 95 [(0, .ref (ya Y 43)), (7, .int v7)] [] σ := by
  intro n
  induction n with
  | zero => intro v7 σ h; exact h.elim
  | succ n ih =>
    intro v7 σ h
    unfold L_Md_house_95 at h
    refine q_iload (pc := 95) C d_Md_house_95 1 rfl ?_
    refine q_iconst (pc := 97) (v := 4) C d_Md_house_97 (by decide) ?_
    obtain ⟨h17, h18⟩ := h
    refine q_icmp_ge (pc := 98) 216 C d_Md_house_98 (by decide) (fun hc => ?_) (fun hc => ?_)
    · have h := h17 hc
      refine q_aload_n (pc := 216) C d_Md_house_216 rfl 0 rfl ?_
      refine q_iconst (pc := 217) (v := 0) C d_Md_house_217 (by decide) ?_
      refine q_put (pc := 218) (c := 43) (ci := 7) (k := 9) C rfl (by decide) (by decide) wd_742 rfl rfl rfl fs_7_9 d_Md_house_218 ?_
      refine q_nms (fun τ218 eτ218 => ?_)
      replace h := h τ218 eτ218
      refine q_aload_n (pc := 221) C d_Md_house_221 rfl 0 rfl ?_
      refine q_iconst (pc := 222) (v := 0) C d_Md_house_222 (by decide) ?_
      refine q_put (pc := 223) (c := 43) (ci := 7) (k := 11) C rfl (by decide) (by decide) wd_744 rfl rfl rfl fs_7_11 d_Md_house_223 ?_
      refine q_nms (fun τ223 eτ223 => ?_)
      replace h := h τ223 eτ223
      refine q_aload_n (pc := 226) C d_Md_house_226 rfl 0 rfl ?_
      refine q_iconst (pc := 227) (v := 0) C d_Md_house_227 (by decide) ?_
      refine q_put (pc := 228) (c := 43) (ci := 7) (k := 30) C rfl (by decide) (by decide) wd_763 rfl rfl rfl fs_7_30 d_Md_house_228 ?_
      refine q_nms (fun τ228 eτ228 => ?_)
      replace h := h τ228 eτ228
      refine q_aload_n (pc := 231) C d_Md_house_231 rfl 0 rfl ?_
      refine q_iconst (pc := 232) (v := 0) C d_Md_house_232 (by decide) ?_
      refine q_put (pc := 233) (c := 43) (ci := 7) (k := 17) C rfl (by decide) (by decide) wd_750 rfl rfl rfl fs_7_17 d_Md_house_233 ?_
      refine q_nms (fun τ233 eτ233 => ?_)
      replace h := h τ233 eτ233
      refine q_aload_n (pc := 236) C d_Md_house_236 rfl 0 rfl ?_
      refine q_get (pc := 237) (c := 43) (ci := 7) (k := 5) (v := .int (τ233 43 5)) C rfl (by decide) (by decide) wd_738 rfl d_Md_house_237 ?_
      exact q_iret (pc := 240) C hr d_Md_house_240 h
    have h := h18 hc
    refine q_aload_n (pc := 101) C d_Md_house_101 rfl 0 rfl ?_
    refine q_get (pc := 102) (c := 43) (ci := 7) (k := 6) (v := .ref (ya Y 47)) C rfl (by decide) (by decide) wd_739 rfl d_Md_house_102 ?_
    refine q_iload (pc := 105) C d_Md_house_105 1 rfl ?_
    refine q_iload (pc := 107) C d_Md_house_107 1 rfl ?_
    refine q_aload_n (pc := 109) C d_Md_house_109 rfl 0 rfl ?_
    refine q_get (pc := 110) (c := 43) (ci := 7) (k := 5) (v := .int (σ 43 5)) C rfl (by decide) (by decide) wd_738 rfl d_Md_house_110 ?_
    obtain ⟨h15, h16⟩ := h
    refine q_icmp_ge (pc := 113) 126 C d_Md_house_113 (by decide) (fun hc => ?_) (fun hc => ?_)
    · have h := h15 hc
      refine q_iconst (pc := 126) (v := 0) C d_Md_house_126 (by decide) ?_
      exact t_Md_house_127 hY C hr ih h
    have h := h16 hc
    refine q_aload_n (pc := 116) C d_Md_house_116 rfl 0 rfl ?_
    refine q_get (pc := 117) (c := 43) (ci := 7) (k := 14) (v := .ref (ya Y 51)) C rfl (by decide) (by decide) wd_747 rfl d_Md_house_117 ?_
    refine q_iload (pc := 120) C d_Md_house_120 1 rfl ?_
    obtain ⟨h14, h⟩ := h
    refine q_iald (pc := 122) (c := 51) C ⟨rfl, rfl⟩ h14 d_Md_house_122 ?_
    refine q_goto (pc := 123) 127 C d_Md_house_123 (by decide) ?_
    exact t_Md_house_127 hY C hr ih h
def w_Md_house (x1 : Int32) (x2 : Int32) (x3 : Int32) (x4 : Int32) (σ : Sg) (K : Int32 → Sg → Prop) : Prop :=
  (∀ τ2 : Sg, τ2 = s2 σ 43 0 (0 : Int32) → w_Md_isSheet x1 τ2 (fun u6 => ((¬ u6 = 0 → w_Md_isSort x2 τ2 (fun u15 => ((¬ u15 = 0 → w_Md_against x1 x2 x3 x4 τ2 (fun u30 => ((u30 = 0 → (∀ y6_53 : Int32, y6_53 = (((60 : Int32) * x1) + x3) → (∀ τ58 : Sg, τ58 = s2 τ2 43 12 y6_53 → w_Md_readAll (y6_53 + x4) τ58 (fun u67 τ67 => ((¬ u67 = 0 → (∀ τ89 : Sg, τ89 = s2 τ67 43 5 (τ67 43 13) → (∃ n19 : Nat, L_Md_house_95 x1 x2 x3 x4 K n19 (0 : Int32) τ89))) ∧ (u67 = 0 → K ((-100 : Int32) - ((τ67 43 12) - y6_53)) τ67)))))) ∧ (¬ u30 = 0 → w_Md_fails u30 τ2 (fun u43 τ43 => K u43 τ43))))) ∧ (u15 = 0 → K (-2 : Int32) τ2)))) ∧ (u6 = 0 → K (-1 : Int32) τ2))))
set_option maxHeartbeats 4000000 in
theorem m_Md_house {Y : Yx} {x1 : Int32} {x2 : Int32} {x3 : Int32} {x4 : Int32} {σ : Sg} {K : Int32 → Sg → Prop} (hY : YD Y)  (h : w_Md_house x1 x2 x3 x4 σ K) : MetI Y y_Md_house prog_9_method_14_code 9 (.int) 3 69 [.ref (ya Y 43), .int x1, .int x2, .int x3, .int x4] σ K := by
  refine met_I [(0, .ref (ya Y 43)), (1, .int x1), (2, .int x2), (3, .int x3), (4, .int x4)] hY (by decide) (Nat.le_of_ble_eq_true rfl) rfl (fun X C hr => ?_)
  unfold w_Md_house at h
  refine q_aload_n (pc := 0) C d_Md_house_0 rfl 0 rfl ?_
  refine q_iconst (pc := 1) (v := 0) C d_Md_house_1 (by decide) ?_
  refine q_put (pc := 2) (c := 43) (ci := 7) (k := 0) C rfl (by decide) (by decide) wd_733 rfl rfl rfl fs_7_0 d_Md_house_2 ?_
  refine q_nms (fun τ2 eτ2 => ?_)
  replace h := h τ2 eτ2
  refine q_iload_n (pc := 5) C d_Md_house_5 rfl 1 rfl ?_
  refine q_callSIr (pc := 6) (st := []) C (m_Md_isSheet hY h) mi_Md_isSheet wd_837 rfl rfl (Nat.le_of_ble_eq_true rfl) (by decide) (by decide) d_Md_house_6 (fun u6 h => ?_)
  obtain ⟨h26, h27⟩ := h
  refine q_if_ne (pc := 9) 14 C d_Md_house_9 (by decide) (fun hc => ?_) (fun hc => ?_)
  · have h := h26 hc
    refine q_iload_n (pc := 14) C d_Md_house_14 rfl 2 rfl ?_
    refine q_callSIr (pc := 15) (st := []) C (m_Md_isSort hY h) mi_Md_isSort wd_844 rfl rfl (Nat.le_of_ble_eq_true rfl) (by decide) (by decide) d_Md_house_15 (fun u15 h => ?_)
    obtain ⟨h24, h25⟩ := h
    refine q_if_ne (pc := 18) 24 C d_Md_house_18 (by decide) (fun hc => ?_) (fun hc => ?_)
    · have h := h24 hc
      refine q_aload_n (pc := 24) C d_Md_house_24 rfl 0 rfl ?_
      refine q_iload_n (pc := 25) C d_Md_house_25 rfl 1 rfl ?_
      refine q_iload_n (pc := 26) C d_Md_house_26 rfl 2 rfl ?_
      refine q_iload_n (pc := 27) C d_Md_house_27 rfl 3 rfl ?_
      refine q_iload (pc := 28) C d_Md_house_28 4 rfl ?_
      refine q_callVIr (pc := 30) (st := []) (d := 43) C (m_Md_against hY h) mi_Md_against rfl (by decide) rfl wd_848 rfl rfl (Nat.le_of_ble_eq_true rfl) (by decide) (by decide) d_Md_house_30 (fun u30 h => ?_)
      refine q_istore (pc := 33) [(5, .int u30), (0, .ref (ya Y 43)), (1, .int x1), (2, .int x2), (3, .int x3), (4, .int x4)] C d_Md_house_33 (by decide) rfl ?_
      refine q_iload (pc := 35) C d_Md_house_35 0 rfl ?_
      obtain ⟨h22, h23⟩ := h
      refine q_if_eq (pc := 37) 47 C d_Md_house_37 (by decide) (fun hc => ?_) (fun hc => ?_)
      · have h := h22 hc
        refine q_bipush (pc := 47) (v := 60) C d_Md_house_47 (by decide) ?_
        refine q_iload_n (pc := 49) C d_Md_house_49 rfl 2 rfl ?_
        refine q_imul (pc := 50) C d_Md_house_50 ?_
        refine q_iload_n (pc := 51) C d_Md_house_51 rfl 4 rfl ?_
        refine q_iadd (pc := 52) C d_Md_house_52 ?_
        refine q_nmi (fun y6_53 ey6_53 => ?_)
        replace h := h y6_53 ey6_53
        refine q_istore (pc := 53) [(6, .int y6_53), (5, .int u30), (0, .ref (ya Y 43)), (1, .int x1), (2, .int x2), (3, .int x3), (4, .int x4)] C d_Md_house_53 (by decide) rfl ?_
        refine q_aload_n (pc := 55) C d_Md_house_55 rfl 2 rfl ?_
        refine q_iload (pc := 56) C d_Md_house_56 0 rfl ?_
        refine q_put (pc := 58) (c := 43) (ci := 7) (k := 12) C rfl (by decide) (by decide) wd_745 rfl rfl rfl fs_7_12 d_Md_house_58 ?_
        refine q_nms (fun τ58 eτ58 => ?_)
        replace h := h τ58 eτ58
        refine q_aload_n (pc := 61) C d_Md_house_61 rfl 2 rfl ?_
        refine q_iload (pc := 62) C d_Md_house_62 0 rfl ?_
        refine q_iload (pc := 64) C d_Md_house_64 6 rfl ?_
        refine q_iadd (pc := 66) C d_Md_house_66 ?_
        refine q_callVI (pc := 67) (st := []) (d := 43) C (m_Md_readAll hY h) mi_Md_readAll rfl (by decide) rfl wd_856 rfl rfl (Nat.le_of_ble_eq_true rfl) (by decide) (by decide) d_Md_house_67 (fun u67 τ67 h => ?_)
        obtain ⟨h20, h21⟩ := h
        refine q_if_ne (pc := 70) 84 C d_Md_house_70 (by decide) (fun hc => ?_) (fun hc => ?_)
        · have h := h20 hc
          refine q_aload_n (pc := 84) C d_Md_house_84 rfl 2 rfl ?_
          refine q_aload_n (pc := 85) C d_Md_house_85 rfl 2 rfl ?_
          refine q_get (pc := 86) (c := 43) (ci := 7) (k := 13) (v := .int (τ67 43 13)) C rfl (by decide) (by decide) wd_746 rfl d_Md_house_86 ?_
          refine q_put (pc := 89) (c := 43) (ci := 7) (k := 5) C rfl (by decide) (by decide) wd_738 rfl rfl rfl fs_7_5 d_Md_house_89 ?_
          refine q_nms (fun τ89 eτ89 => ?_)
          replace h := h τ89 eτ89
          refine q_iconst (pc := 92) (v := 0) C d_Md_house_92 (by decide) ?_
          refine q_istore (pc := 93) [(7, .int (0 : Int32)), (6, .int y6_53), (5, .int u30), (0, .ref (ya Y 43)), (1, .int x1), (2, .int x2), (3, .int x3), (4, .int x4)] C d_Md_house_93 (by decide) rfl ?_
          obtain ⟨n19, h⟩ := h
          refine q_sub [(0, .ref (ya Y 43)), (7, .int (0 : Int32))] [3, 0] rfl ?_
          exact t_Md_house_95 hY C hr n19 (0 : Int32) τ89 h
        have h := h21 hc
        refine q_bipush (pc := 73) (v := -100) C d_Md_house_73 (by decide) ?_
        refine q_aload_n (pc := 75) C d_Md_house_75 rfl 2 rfl ?_
        refine q_get (pc := 76) (c := 43) (ci := 7) (k := 12) (v := .int (τ67 43 12)) C rfl (by decide) (by decide) wd_745 rfl d_Md_house_76 ?_
        refine q_iload (pc := 79) C d_Md_house_79 0 rfl ?_
        refine q_isub (pc := 81) C d_Md_house_81 ?_
        refine q_isub (pc := 82) C d_Md_house_82 ?_
        exact q_iret (pc := 83) C hr d_Md_house_83 h
      have h := h23 hc
      refine q_aload_n (pc := 40) C d_Md_house_40 rfl 1 rfl ?_
      refine q_iload (pc := 41) C d_Md_house_41 0 rfl ?_
      refine q_callVI (pc := 43) (st := []) (d := 43) C (m_Md_fails hY h) mi_Md_fails rfl (by decide) rfl wd_852 rfl rfl (Nat.le_of_ble_eq_true rfl) (by decide) (by decide) d_Md_house_43 (fun u43 τ43 h => ?_)
      exact q_iret (pc := 46) C hr d_Md_house_46 h
    have h := h25 hc
    refine q_bipush (pc := 21) (v := -2) C d_Md_house_21 (by decide) ?_
    exact q_iret (pc := 23) C hr d_Md_house_23 h
  have h := h27 hc
  refine q_iconst (pc := 12) (v := -1) C d_Md_house_12 (by decide) ?_
  exact q_iret (pc := 13) C hr d_Md_house_13 h
theorem d_Md_isAppliance_0 : decode prog_9_method_8_code 0 = .ok (.iload_n 1, 1) := by decide +kernel
theorem d_Md_isAppliance_1 : decode prog_9_method_8_code 1 = .ok (.i2l, 1) := by decide +kernel
theorem d_Md_isAppliance_2 : decode prog_9_method_8_code 2 = .ok (.lconst 0, 1) := by decide +kernel
theorem d_Md_isAppliance_3 : decode prog_9_method_8_code 3 = .ok (.aload_n 0, 1) := by decide +kernel
theorem d_Md_isAppliance_4 : decode prog_9_method_8_code 4 = .ok (.getfield 93, 3) := by decide +kernel
theorem d_Md_isAppliance_7 : decode prog_9_method_8_code 7 = .ok (.iconst 1, 1) := by decide +kernel
theorem d_Md_isAppliance_8 : decode prog_9_method_8_code 8 = .ok (.isub, 1) := by decide +kernel
theorem d_Md_isAppliance_9 : decode prog_9_method_8_code 9 = .ok (.i2l, 1) := by decide +kernel
theorem d_Md_isAppliance_10 : decode prog_9_method_8_code 10 = .ok (.invokestatic 87, 3) := by decide +kernel
theorem d_Md_isAppliance_13 : decode prog_9_method_8_code 13 = .ok (.ireturn, 1) := by decide +kernel
abbrev y_Md_isAppliance : MethodName := ⟨"LoadCyclesModel", "isAppliance", "(I)Z"⟩
theorem mi_Md_isAppliance : miV y_Md_isAppliance prog_9_method_8_code 2 (some .boolean) 1 := ⟨wd_879, wd_35, wd_72, wd_880, by decide, by decide, by decide +kernel⟩
def w_Md_isAppliance (x1 : Int32) (σ : Sg) (K : Int32 → Prop) : Prop :=
  w_Md_within (x1.toInt64) (0 : Int64) (((σ 43 5) - (1 : Int32)).toInt64) σ (fun u10 => (bz u10 ∧ K u10))
set_option maxHeartbeats 4000000 in
theorem m_Md_isAppliance {Y : Yx} {x1 : Int32} {σ : Sg} {K : Int32 → Prop} (hY : YD Y)  (h : w_Md_isAppliance x1 σ K) : MetI Y y_Md_isAppliance prog_9_method_8_code 2 (.boolean) 1 25 [.ref (ya Y 43), .int x1] σ (fun r τ => τ = σ ∧ K r) := by
  refine met_I [(0, .ref (ya Y 43)), (1, .int x1)] hY (by decide) (Nat.le_of_ble_eq_true rfl) rfl (fun X C hr => ?_)
  unfold w_Md_isAppliance at h
  refine q_iload_n (pc := 0) C d_Md_isAppliance_0 rfl 1 rfl ?_
  refine q_i2l (pc := 1) C d_Md_isAppliance_1 ?_
  refine q_lconst (pc := 2) (v := 0) C d_Md_isAppliance_2 (by decide) ?_
  refine q_aload_n (pc := 3) C d_Md_isAppliance_3 rfl 0 rfl ?_
  refine q_get (pc := 4) (c := 43) (ci := 7) (k := 5) (v := .int (σ 43 5)) C rfl (by decide) (by decide) wd_738 rfl d_Md_isAppliance_4 ?_
  refine q_iconst (pc := 7) (v := 1) C d_Md_isAppliance_7 (by decide) ?_
  refine q_isub (pc := 8) C d_Md_isAppliance_8 ?_
  refine q_i2l (pc := 9) C d_Md_isAppliance_9 ?_
  refine q_callSIr (pc := 10) (st := []) C (m_Md_within hY h) mi_Md_within wd_841 rfl rfl (Nat.le_of_ble_eq_true rfl) (by decide) (by decide) d_Md_isAppliance_10 (fun u10 h => ?_)
  obtain ⟨h1, h⟩ := h
  exact q_zret (pc := 13) C hr d_Md_isAppliance_13 h1 ⟨rfl, h⟩
theorem d_Md_powerOf_0 : decode prog_9_method_15_code 0 = .ok (.aload_n 0, 1) := by decide +kernel
theorem d_Md_powerOf_1 : decode prog_9_method_15_code 1 = .ok (.getfield 25, 3) := by decide +kernel
theorem d_Md_powerOf_4 : decode prog_9_method_15_code 4 = .ok (.iconst 3, 1) := by decide +kernel
theorem d_Md_powerOf_5 : decode prog_9_method_15_code 5 = .ok (.iload_n 1, 1) := by decide +kernel
theorem d_Md_powerOf_6 : decode prog_9_method_15_code 6 = .ok (.imul, 1) := by decide +kernel
theorem d_Md_powerOf_7 : decode prog_9_method_15_code 7 = .ok (.iload_n 2, 1) := by decide +kernel
theorem d_Md_powerOf_8 : decode prog_9_method_15_code 8 = .ok (.iadd, 1) := by decide +kernel
theorem d_Md_powerOf_9 : decode prog_9_method_15_code 9 = .ok (.iaload, 1) := by decide +kernel
theorem d_Md_powerOf_10 : decode prog_9_method_15_code 10 = .ok (.istore_n 3, 1) := by decide +kernel
theorem d_Md_powerOf_11 : decode prog_9_method_15_code 11 = .ok (.aload_n 0, 1) := by decide +kernel
theorem d_Md_powerOf_12 : decode prog_9_method_15_code 12 = .ok (.getfield 19, 3) := by decide +kernel
theorem d_Md_powerOf_15 : decode prog_9_method_15_code 15 = .ok (.iload_n 1, 1) := by decide +kernel
theorem d_Md_powerOf_16 : decode prog_9_method_15_code 16 = .ok (.iaload, 1) := by decide +kernel
theorem d_Md_powerOf_17 : decode prog_9_method_15_code 17 = .ok (.ifCond .ne 7, 3) := by decide +kernel
theorem d_Md_powerOf_20 : decode prog_9_method_15_code 20 = .ok (.iload_n 3, 1) := by decide +kernel
theorem d_Md_powerOf_21 : decode prog_9_method_15_code 21 = .ok (.goto 22, 3) := by decide +kernel
theorem d_Md_powerOf_24 : decode prog_9_method_15_code 24 = .ok (.aload_n 0, 1) := by decide +kernel
theorem d_Md_powerOf_25 : decode prog_9_method_15_code 25 = .ok (.getfield 19, 3) := by decide +kernel
theorem d_Md_powerOf_28 : decode prog_9_method_15_code 28 = .ok (.iload_n 1, 1) := by decide +kernel
theorem d_Md_powerOf_29 : decode prog_9_method_15_code 29 = .ok (.iaload, 1) := by decide +kernel
theorem d_Md_powerOf_30 : decode prog_9_method_15_code 30 = .ok (.iconst 1, 1) := by decide +kernel
theorem d_Md_powerOf_31 : decode prog_9_method_15_code 31 = .ok (.if_icmp .ne 9, 3) := by decide +kernel
theorem d_Md_powerOf_34 : decode prog_9_method_15_code 34 = .ok (.iload_n 3, 1) := by decide +kernel
theorem d_Md_powerOf_35 : decode prog_9_method_15_code 35 = .ok (.iconst 1, 1) := by decide +kernel
theorem d_Md_powerOf_36 : decode prog_9_method_15_code 36 = .ok (.iadd, 1) := by decide +kernel
theorem d_Md_powerOf_37 : decode prog_9_method_15_code 37 = .ok (.goto 6, 3) := by decide +kernel
theorem d_Md_powerOf_40 : decode prog_9_method_15_code 40 = .ok (.iload_n 3, 1) := by decide +kernel
theorem d_Md_powerOf_41 : decode prog_9_method_15_code 41 = .ok (.iload_n 3, 1) := by decide +kernel
theorem d_Md_powerOf_42 : decode prog_9_method_15_code 42 = .ok (.iadd, 1) := by decide +kernel
theorem d_Md_powerOf_43 : decode prog_9_method_15_code 43 = .ok (.ireturn, 1) := by decide +kernel
abbrev y_Md_powerOf : MethodName := ⟨"LoadCyclesModel", "powerOf", "(II)I"⟩
theorem mi_Md_powerOf : miV y_Md_powerOf prog_9_method_15_code 4 (some .int) 2 := ⟨wd_887, wd_36, wd_72, wd_888, by decide, by decide, by decide +kernel⟩
def w_Md_powerOf (x1 : Int32) (x2 : Int32) (σ : Sg) (K : Int32 → Prop) : Prop :=
  (vp_in (((3 : Int32) * x1) + x2) 12 ∧ (∀ y3_10 : Int32, y3_10 = (σ 49 (((3 : Int32) * x1) + x2).toNatClampNeg) → (vp_in x1 4 ∧ ((¬ (σ 47 x1.toNatClampNeg) = 0 → (vp_in x1 4 ∧ ((¬ (σ 47 x1.toNatClampNeg) = (1 : Int32) → K (y3_10 + y3_10)) ∧ ((σ 47 x1.toNatClampNeg) = (1 : Int32) → K (y3_10 + (1 : Int32)))))) ∧ ((σ 47 x1.toNatClampNeg) = 0 → K y3_10)))))
set_option maxHeartbeats 4000000 in
theorem m_Md_powerOf {Y : Yx} {x1 : Int32} {x2 : Int32} {σ : Sg} {K : Int32 → Prop} (hY : YD Y)  (h : w_Md_powerOf x1 x2 σ K) : MetI Y y_Md_powerOf prog_9_method_15_code 4 (.int) 0 0 [.ref (ya Y 43), .int x1, .int x2] σ (fun r τ => τ = σ ∧ K r) := by
  refine met_I [(0, .ref (ya Y 43)), (1, .int x1), (2, .int x2)] hY (by decide) (Nat.le_of_ble_eq_true rfl) rfl (fun X C hr => ?_)
  unfold w_Md_powerOf at h
  refine q_aload_n (pc := 0) C d_Md_powerOf_0 rfl 0 rfl ?_
  refine q_get (pc := 1) (c := 43) (ci := 7) (k := 8) (v := .ref (ya Y 49)) C rfl (by decide) (by decide) wd_741 rfl d_Md_powerOf_1 ?_
  refine q_iconst (pc := 4) (v := 3) C d_Md_powerOf_4 (by decide) ?_
  refine q_iload_n (pc := 5) C d_Md_powerOf_5 rfl 1 rfl ?_
  refine q_imul (pc := 6) C d_Md_powerOf_6 ?_
  refine q_iload_n (pc := 7) C d_Md_powerOf_7 rfl 2 rfl ?_
  refine q_iadd (pc := 8) C d_Md_powerOf_8 ?_
  obtain ⟨h1, h⟩ := h
  refine q_iald (pc := 9) (c := 49) C ⟨rfl, rfl⟩ h1 d_Md_powerOf_9 ?_
  refine q_nmi (fun y3_10 ey3_10 => ?_)
  replace h := h y3_10 ey3_10
  refine q_istore_n (pc := 10) [(3, .int y3_10), (0, .ref (ya Y 43)), (1, .int x1), (2, .int x2)] C d_Md_powerOf_10 rfl (by decide) rfl ?_
  refine q_aload_n (pc := 11) C d_Md_powerOf_11 rfl 1 rfl ?_
  refine q_get (pc := 12) (c := 43) (ci := 7) (k := 6) (v := .ref (ya Y 47)) C rfl (by decide) (by decide) wd_739 rfl d_Md_powerOf_12 ?_
  refine q_iload_n (pc := 15) C d_Md_powerOf_15 rfl 2 rfl ?_
  obtain ⟨h2, h⟩ := h
  refine q_iald (pc := 16) (c := 47) C ⟨rfl, rfl⟩ h2 d_Md_powerOf_16 ?_
  obtain ⟨h6, h7⟩ := h
  refine q_if_ne (pc := 17) 24 C d_Md_powerOf_17 (by decide) (fun hc => ?_) (fun hc => ?_)
  · have h := h6 hc
    refine q_aload_n (pc := 24) C d_Md_powerOf_24 rfl 1 rfl ?_
    refine q_get (pc := 25) (c := 43) (ci := 7) (k := 6) (v := .ref (ya Y 47)) C rfl (by decide) (by decide) wd_739 rfl d_Md_powerOf_25 ?_
    refine q_iload_n (pc := 28) C d_Md_powerOf_28 rfl 2 rfl ?_
    obtain ⟨h3, h⟩ := h
    refine q_iald (pc := 29) (c := 47) C ⟨rfl, rfl⟩ h3 d_Md_powerOf_29 ?_
    refine q_iconst (pc := 30) (v := 1) C d_Md_powerOf_30 (by decide) ?_
    obtain ⟨h4, h5⟩ := h
    refine q_icmp_ne (pc := 31) 40 C d_Md_powerOf_31 (by decide) (fun hc => ?_) (fun hc => ?_)
    · have h := h4 hc
      refine q_iload_n (pc := 40) C d_Md_powerOf_40 rfl 0 rfl ?_
      refine q_iload_n (pc := 41) C d_Md_powerOf_41 rfl 0 rfl ?_
      refine q_iadd (pc := 42) C d_Md_powerOf_42 ?_
      exact q_iret (pc := 43) C hr d_Md_powerOf_43 ⟨rfl, h⟩
    have h := h5 hc
    refine q_iload_n (pc := 34) C d_Md_powerOf_34 rfl 0 rfl ?_
    refine q_iconst (pc := 35) (v := 1) C d_Md_powerOf_35 (by decide) ?_
    refine q_iadd (pc := 36) C d_Md_powerOf_36 ?_
    refine q_goto (pc := 37) 43 C d_Md_powerOf_37 (by decide) ?_
    exact q_iret (pc := 43) C hr d_Md_powerOf_43 ⟨rfl, h⟩
  have h := h7 hc
  refine q_iload_n (pc := 20) C d_Md_powerOf_20 rfl 0 rfl ?_
  refine q_goto (pc := 21) 43 C d_Md_powerOf_21 (by decide) ?_
  exact q_iret (pc := 43) C hr d_Md_powerOf_43 ⟨rfl, h⟩
theorem d_Md_ofAppliance_0 : decode prog_9_method_16_code 0 = .ok (.aload_n 0, 1) := by decide +kernel
theorem d_Md_ofAppliance_1 : decode prog_9_method_16_code 1 = .ok (.iload_n 1, 1) := by decide +kernel
theorem d_Md_ofAppliance_2 : decode prog_9_method_16_code 2 = .ok (.invokevirtual 147, 3) := by decide +kernel
theorem d_Md_ofAppliance_5 : decode prog_9_method_16_code 5 = .ok (.ifCond .ne 5, 3) := by decide +kernel
theorem d_Md_ofAppliance_8 : decode prog_9_method_16_code 8 = .ok (.iconst (-1), 1) := by decide +kernel
theorem d_Md_ofAppliance_9 : decode prog_9_method_16_code 9 = .ok (.ireturn, 1) := by decide +kernel
theorem d_Md_ofAppliance_10 : decode prog_9_method_16_code 10 = .ok (.iload_n 2, 1) := by decide +kernel
theorem d_Md_ofAppliance_11 : decode prog_9_method_16_code 11 = .ok (.ifCond .ne 10, 3) := by decide +kernel
theorem d_Md_ofAppliance_14 : decode prog_9_method_16_code 14 = .ok (.aload_n 0, 1) := by decide +kernel
theorem d_Md_ofAppliance_15 : decode prog_9_method_16_code 15 = .ok (.getfield 19, 3) := by decide +kernel
theorem d_Md_ofAppliance_18 : decode prog_9_method_16_code 18 = .ok (.iload_n 1, 1) := by decide +kernel
theorem d_Md_ofAppliance_19 : decode prog_9_method_16_code 19 = .ok (.iaload, 1) := by decide +kernel
theorem d_Md_ofAppliance_20 : decode prog_9_method_16_code 20 = .ok (.ireturn, 1) := by decide +kernel
theorem d_Md_ofAppliance_21 : decode prog_9_method_16_code 21 = .ok (.iload_n 2, 1) := by decide +kernel
theorem d_Md_ofAppliance_22 : decode prog_9_method_16_code 22 = .ok (.iconst 1, 1) := by decide +kernel
theorem d_Md_ofAppliance_23 : decode prog_9_method_16_code 23 = .ok (.if_icmp .ne 10, 3) := by decide +kernel
theorem d_Md_ofAppliance_26 : decode prog_9_method_16_code 26 = .ok (.aload_n 0, 1) := by decide +kernel
theorem d_Md_ofAppliance_27 : decode prog_9_method_16_code 27 = .ok (.getfield 22, 3) := by decide +kernel
theorem d_Md_ofAppliance_30 : decode prog_9_method_16_code 30 = .ok (.iload_n 1, 1) := by decide +kernel
theorem d_Md_ofAppliance_31 : decode prog_9_method_16_code 31 = .ok (.iaload, 1) := by decide +kernel
theorem d_Md_ofAppliance_32 : decode prog_9_method_16_code 32 = .ok (.ireturn, 1) := by decide +kernel
theorem d_Md_ofAppliance_33 : decode prog_9_method_16_code 33 = .ok (.iload_n 2, 1) := by decide +kernel
theorem d_Md_ofAppliance_34 : decode prog_9_method_16_code 34 = .ok (.i2l, 1) := by decide +kernel
theorem d_Md_ofAppliance_35 : decode prog_9_method_16_code 35 = .ok (.ldc2_w 150, 3) := by decide +kernel
theorem d_Md_ofAppliance_38 : decode prog_9_method_16_code 38 = .ok (.ldc2_w 152, 3) := by decide +kernel
theorem d_Md_ofAppliance_41 : decode prog_9_method_16_code 41 = .ok (.invokestatic 87, 3) := by decide +kernel
theorem d_Md_ofAppliance_44 : decode prog_9_method_16_code 44 = .ok (.ifCond .eq 35, 3) := by decide +kernel
theorem d_Md_ofAppliance_47 : decode prog_9_method_16_code 47 = .ok (.iload_n 2, 1) := by decide +kernel
theorem d_Md_ofAppliance_48 : decode prog_9_method_16_code 48 = .ok (.bipush 10, 2) := by decide +kernel
theorem d_Md_ofAppliance_50 : decode prog_9_method_16_code 50 = .ok (.isub, 1) := by decide +kernel
theorem d_Md_ofAppliance_51 : decode prog_9_method_16_code 51 = .ok (.aload_n 0, 1) := by decide +kernel
theorem d_Md_ofAppliance_52 : decode prog_9_method_16_code 52 = .ok (.getfield 22, 3) := by decide +kernel
theorem d_Md_ofAppliance_55 : decode prog_9_method_16_code 55 = .ok (.iload_n 1, 1) := by decide +kernel
theorem d_Md_ofAppliance_56 : decode prog_9_method_16_code 56 = .ok (.iaload, 1) := by decide +kernel
theorem d_Md_ofAppliance_57 : decode prog_9_method_16_code 57 = .ok (.if_icmp .ge 19, 3) := by decide +kernel
theorem d_Md_ofAppliance_60 : decode prog_9_method_16_code 60 = .ok (.aload_n 0, 1) := by decide +kernel
theorem d_Md_ofAppliance_61 : decode prog_9_method_16_code 61 = .ok (.getfield 25, 3) := by decide +kernel
theorem d_Md_ofAppliance_64 : decode prog_9_method_16_code 64 = .ok (.iconst 3, 1) := by decide +kernel
theorem d_Md_ofAppliance_65 : decode prog_9_method_16_code 65 = .ok (.iload_n 1, 1) := by decide +kernel
theorem d_Md_ofAppliance_66 : decode prog_9_method_16_code 66 = .ok (.imul, 1) := by decide +kernel
theorem d_Md_ofAppliance_67 : decode prog_9_method_16_code 67 = .ok (.iload_n 2, 1) := by decide +kernel
theorem d_Md_ofAppliance_68 : decode prog_9_method_16_code 68 = .ok (.iadd, 1) := by decide +kernel
theorem d_Md_ofAppliance_69 : decode prog_9_method_16_code 69 = .ok (.bipush 10, 2) := by decide +kernel
theorem d_Md_ofAppliance_71 : decode prog_9_method_16_code 71 = .ok (.isub, 1) := by decide +kernel
theorem d_Md_ofAppliance_72 : decode prog_9_method_16_code 72 = .ok (.iaload, 1) := by decide +kernel
theorem d_Md_ofAppliance_73 : decode prog_9_method_16_code 73 = .ok (.goto 5, 3) := by decide +kernel
theorem d_Md_ofAppliance_76 : decode prog_9_method_16_code 76 = .ok (.bipush (-9), 2) := by decide +kernel
theorem d_Md_ofAppliance_78 : decode prog_9_method_16_code 78 = .ok (.ireturn, 1) := by decide +kernel
theorem d_Md_ofAppliance_79 : decode prog_9_method_16_code 79 = .ok (.iload_n 2, 1) := by decide +kernel
theorem d_Md_ofAppliance_80 : decode prog_9_method_16_code 80 = .ok (.i2l, 1) := by decide +kernel
theorem d_Md_ofAppliance_81 : decode prog_9_method_16_code 81 = .ok (.ldc2_w 154, 3) := by decide +kernel
theorem d_Md_ofAppliance_84 : decode prog_9_method_16_code 84 = .ok (.ldc2_w 156, 3) := by decide +kernel
theorem d_Md_ofAppliance_87 : decode prog_9_method_16_code 87 = .ok (.invokestatic 87, 3) := by decide +kernel
theorem d_Md_ofAppliance_90 : decode prog_9_method_16_code 90 = .ok (.ifCond .eq 31, 3) := by decide +kernel
theorem d_Md_ofAppliance_93 : decode prog_9_method_16_code 93 = .ok (.iload_n 2, 1) := by decide +kernel
theorem d_Md_ofAppliance_94 : decode prog_9_method_16_code 94 = .ok (.bipush 20, 2) := by decide +kernel
theorem d_Md_ofAppliance_96 : decode prog_9_method_16_code 96 = .ok (.isub, 1) := by decide +kernel
theorem d_Md_ofAppliance_97 : decode prog_9_method_16_code 97 = .ok (.aload_n 0, 1) := by decide +kernel
theorem d_Md_ofAppliance_98 : decode prog_9_method_16_code 98 = .ok (.getfield 22, 3) := by decide +kernel
theorem d_Md_ofAppliance_101 : decode prog_9_method_16_code 101 = .ok (.iload_n 1, 1) := by decide +kernel
theorem d_Md_ofAppliance_102 : decode prog_9_method_16_code 102 = .ok (.iaload, 1) := by decide +kernel
theorem d_Md_ofAppliance_103 : decode prog_9_method_16_code 103 = .ok (.if_icmp .ge 15, 3) := by decide +kernel
theorem d_Md_ofAppliance_106 : decode prog_9_method_16_code 106 = .ok (.aload_n 0, 1) := by decide +kernel
theorem d_Md_ofAppliance_107 : decode prog_9_method_16_code 107 = .ok (.iload_n 1, 1) := by decide +kernel
theorem d_Md_ofAppliance_108 : decode prog_9_method_16_code 108 = .ok (.iload_n 2, 1) := by decide +kernel
theorem d_Md_ofAppliance_109 : decode prog_9_method_16_code 109 = .ok (.bipush 20, 2) := by decide +kernel
theorem d_Md_ofAppliance_111 : decode prog_9_method_16_code 111 = .ok (.isub, 1) := by decide +kernel
theorem d_Md_ofAppliance_112 : decode prog_9_method_16_code 112 = .ok (.invokevirtual 158, 3) := by decide +kernel
theorem d_Md_ofAppliance_115 : decode prog_9_method_16_code 115 = .ok (.goto 5, 3) := by decide +kernel
theorem d_Md_ofAppliance_118 : decode prog_9_method_16_code 118 = .ok (.bipush (-9), 2) := by decide +kernel
theorem d_Md_ofAppliance_120 : decode prog_9_method_16_code 120 = .ok (.ireturn, 1) := by decide +kernel
theorem d_Md_ofAppliance_121 : decode prog_9_method_16_code 121 = .ok (.bipush (-2), 2) := by decide +kernel
theorem d_Md_ofAppliance_123 : decode prog_9_method_16_code 123 = .ok (.ireturn, 1) := by decide +kernel
abbrev y_Md_ofAppliance : MethodName := ⟨"LoadCyclesModel", "ofAppliance", "(II)I"⟩
theorem mi_Md_ofAppliance : miV y_Md_ofAppliance prog_9_method_16_code 3 (some .int) 2 := ⟨wd_874, wd_875, wd_72, wd_876, by decide, by decide, by decide +kernel⟩
def w_Md_ofAppliance (x1 : Int32) (x2 : Int32) (σ : Sg) (K : Int32 → Prop) : Prop :=
  w_Md_isAppliance x1 σ (fun u2 => ((¬ u2 = 0 → ((¬ x2 = 0 → ((¬ x2 = (1 : Int32) → w_Md_within (x2.toInt64) (10 : Int64) (12 : Int64) σ (fun u41 => ((u41 = 0 → w_Md_within (x2.toInt64) (20 : Int64) (22 : Int64) σ (fun u87 => ((u87 = 0 → K (-2 : Int32)) ∧ (¬ u87 = 0 → (vp_in x1 4 ∧ (((σ 48 x1.toNatClampNeg) ≤ (x2 - (20 : Int32)) → K (-9 : Int32)) ∧ (¬ (σ 48 x1.toNatClampNeg) ≤ (x2 - (20 : Int32)) → w_Md_powerOf x1 (x2 - (20 : Int32)) σ (fun u112 => K u112)))))))) ∧ (¬ u41 = 0 → (vp_in x1 4 ∧ (((σ 48 x1.toNatClampNeg) ≤ (x2 - (10 : Int32)) → K (-9 : Int32)) ∧ (¬ (σ 48 x1.toNatClampNeg) ≤ (x2 - (10 : Int32)) → (vp_in ((((3 : Int32) * x1) + x2) - (10 : Int32)) 12 ∧ K (σ 49 ((((3 : Int32) * x1) + x2) - (10 : Int32)).toNatClampNeg))))))))) ∧ (x2 = (1 : Int32) → (vp_in x1 4 ∧ K (σ 48 x1.toNatClampNeg))))) ∧ (x2 = 0 → (vp_in x1 4 ∧ K (σ 47 x1.toNatClampNeg))))) ∧ (u2 = 0 → K (-1 : Int32))))
set_option maxHeartbeats 4000000 in
theorem m_Md_ofAppliance {Y : Yx} {x1 : Int32} {x2 : Int32} {σ : Sg} {K : Int32 → Prop} (hY : YD Y)  (h : w_Md_ofAppliance x1 x2 σ K) : MetI Y y_Md_ofAppliance prog_9_method_16_code 3 (.int) 2 46 [.ref (ya Y 43), .int x1, .int x2] σ (fun r τ => τ = σ ∧ K r) := by
  refine met_I [(0, .ref (ya Y 43)), (1, .int x1), (2, .int x2)] hY (by decide) (Nat.le_of_ble_eq_true rfl) rfl (fun X C hr => ?_)
  unfold w_Md_ofAppliance at h
  refine q_aload_n (pc := 0) C d_Md_ofAppliance_0 rfl 0 rfl ?_
  refine q_iload_n (pc := 1) C d_Md_ofAppliance_1 rfl 1 rfl ?_
  refine q_callVIr (pc := 2) (st := []) (d := 43) C (m_Md_isAppliance hY h) mi_Md_isAppliance rfl (by decide) rfl wd_877 rfl rfl (Nat.le_of_ble_eq_true rfl) (by decide) (by decide) d_Md_ofAppliance_2 (fun u2 h => ?_)
  obtain ⟨h18, h19⟩ := h
  refine q_if_ne (pc := 5) 10 C d_Md_ofAppliance_5 (by decide) (fun hc => ?_) (fun hc => ?_)
  · have h := h18 hc
    refine q_iload_n (pc := 10) C d_Md_ofAppliance_10 rfl 2 rfl ?_
    obtain ⟨h16, h17⟩ := h
    refine q_if_ne (pc := 11) 21 C d_Md_ofAppliance_11 (by decide) (fun hc => ?_) (fun hc => ?_)
    · have h := h16 hc
      refine q_iload_n (pc := 21) C d_Md_ofAppliance_21 rfl 2 rfl ?_
      refine q_iconst (pc := 22) (v := 1) C d_Md_ofAppliance_22 (by decide) ?_
      obtain ⟨h13, h14⟩ := h
      refine q_icmp_ne (pc := 23) 33 C d_Md_ofAppliance_23 (by decide) (fun hc => ?_) (fun hc => ?_)
      · have h := h13 hc
        refine q_iload_n (pc := 33) C d_Md_ofAppliance_33 rfl 2 rfl ?_
        refine q_i2l (pc := 34) C d_Md_ofAppliance_34 ?_
        refine q_ldc2 (pc := 35) C wd_881 d_Md_ofAppliance_35 ?_
        refine q_ldc2 (pc := 38) C wd_882 d_Md_ofAppliance_38 ?_
        refine q_callSIr (pc := 41) (st := []) C (m_Md_within hY h) mi_Md_within wd_841 rfl rfl (Nat.le_of_ble_eq_true rfl) (by decide) (by decide) d_Md_ofAppliance_41 (fun u41 h => ?_)
        obtain ⟨h10, h11⟩ := h
        refine q_if_eq (pc := 44) 79 C d_Md_ofAppliance_44 (by decide) (fun hc => ?_) (fun hc => ?_)
        · have h := h10 hc
          refine q_iload_n (pc := 79) C d_Md_ofAppliance_79 rfl 2 rfl ?_
          refine q_i2l (pc := 80) C d_Md_ofAppliance_80 ?_
          refine q_ldc2 (pc := 81) C wd_883 d_Md_ofAppliance_81 ?_
          refine q_ldc2 (pc := 84) C wd_884 d_Md_ofAppliance_84 ?_
          refine q_callSIr (pc := 87) (st := []) C (m_Md_within hY h) mi_Md_within wd_841 rfl rfl (Nat.le_of_ble_eq_true rfl) (by decide) (by decide) d_Md_ofAppliance_87 (fun u87 h => ?_)
          obtain ⟨h4, h5⟩ := h
          refine q_if_eq (pc := 90) 121 C d_Md_ofAppliance_90 (by decide) (fun hc => ?_) (fun hc => ?_)
          · have h := h4 hc
            refine q_bipush (pc := 121) (v := -2) C d_Md_ofAppliance_121 (by decide) ?_
            exact q_iret (pc := 123) C hr d_Md_ofAppliance_123 ⟨rfl, h⟩
          have h := h5 hc
          refine q_iload_n (pc := 93) C d_Md_ofAppliance_93 rfl 2 rfl ?_
          refine q_bipush (pc := 94) (v := 20) C d_Md_ofAppliance_94 (by decide) ?_
          refine q_isub (pc := 96) C d_Md_ofAppliance_96 ?_
          refine q_aload_n (pc := 97) C d_Md_ofAppliance_97 rfl 0 rfl ?_
          refine q_get (pc := 98) (c := 43) (ci := 7) (k := 7) (v := .ref (ya Y 48)) C rfl (by decide) (by decide) wd_740 rfl d_Md_ofAppliance_98 ?_
          refine q_iload_n (pc := 101) C d_Md_ofAppliance_101 rfl 1 rfl ?_
          obtain ⟨h1, h⟩ := h
          refine q_iald (pc := 102) (c := 48) C ⟨rfl, rfl⟩ h1 d_Md_ofAppliance_102 ?_
          obtain ⟨h2, h3⟩ := h
          refine q_icmp_ge (pc := 103) 118 C d_Md_ofAppliance_103 (by decide) (fun hc => ?_) (fun hc => ?_)
          · have h := h2 hc
            refine q_bipush (pc := 118) (v := -9) C d_Md_ofAppliance_118 (by decide) ?_
            exact q_iret (pc := 120) C hr d_Md_ofAppliance_120 ⟨rfl, h⟩
          have h := h3 hc
          refine q_aload_n (pc := 106) C d_Md_ofAppliance_106 rfl 0 rfl ?_
          refine q_iload_n (pc := 107) C d_Md_ofAppliance_107 rfl 1 rfl ?_
          refine q_iload_n (pc := 108) C d_Md_ofAppliance_108 rfl 2 rfl ?_
          refine q_bipush (pc := 109) (v := 20) C d_Md_ofAppliance_109 (by decide) ?_
          refine q_isub (pc := 111) C d_Md_ofAppliance_111 ?_
          refine q_callVIr (pc := 112) (st := []) (d := 43) C (m_Md_powerOf hY h) mi_Md_powerOf rfl (by decide) rfl wd_885 rfl rfl (Nat.le_of_ble_eq_true rfl) (by decide) (by decide) d_Md_ofAppliance_112 (fun u112 h => ?_)
          refine q_goto (pc := 115) 120 C d_Md_ofAppliance_115 (by decide) ?_
          exact q_iret (pc := 120) C hr d_Md_ofAppliance_120 ⟨rfl, h⟩
        have h := h11 hc
        refine q_iload_n (pc := 47) C d_Md_ofAppliance_47 rfl 2 rfl ?_
        refine q_bipush (pc := 48) (v := 10) C d_Md_ofAppliance_48 (by decide) ?_
        refine q_isub (pc := 50) C d_Md_ofAppliance_50 ?_
        refine q_aload_n (pc := 51) C d_Md_ofAppliance_51 rfl 0 rfl ?_
        refine q_get (pc := 52) (c := 43) (ci := 7) (k := 7) (v := .ref (ya Y 48)) C rfl (by decide) (by decide) wd_740 rfl d_Md_ofAppliance_52 ?_
        refine q_iload_n (pc := 55) C d_Md_ofAppliance_55 rfl 1 rfl ?_
        obtain ⟨h6, h⟩ := h
        refine q_iald (pc := 56) (c := 48) C ⟨rfl, rfl⟩ h6 d_Md_ofAppliance_56 ?_
        obtain ⟨h8, h9⟩ := h
        refine q_icmp_ge (pc := 57) 76 C d_Md_ofAppliance_57 (by decide) (fun hc => ?_) (fun hc => ?_)
        · have h := h8 hc
          refine q_bipush (pc := 76) (v := -9) C d_Md_ofAppliance_76 (by decide) ?_
          exact q_iret (pc := 78) C hr d_Md_ofAppliance_78 ⟨rfl, h⟩
        have h := h9 hc
        refine q_aload_n (pc := 60) C d_Md_ofAppliance_60 rfl 0 rfl ?_
        refine q_get (pc := 61) (c := 43) (ci := 7) (k := 8) (v := .ref (ya Y 49)) C rfl (by decide) (by decide) wd_741 rfl d_Md_ofAppliance_61 ?_
        refine q_iconst (pc := 64) (v := 3) C d_Md_ofAppliance_64 (by decide) ?_
        refine q_iload_n (pc := 65) C d_Md_ofAppliance_65 rfl 1 rfl ?_
        refine q_imul (pc := 66) C d_Md_ofAppliance_66 ?_
        refine q_iload_n (pc := 67) C d_Md_ofAppliance_67 rfl 2 rfl ?_
        refine q_iadd (pc := 68) C d_Md_ofAppliance_68 ?_
        refine q_bipush (pc := 69) (v := 10) C d_Md_ofAppliance_69 (by decide) ?_
        refine q_isub (pc := 71) C d_Md_ofAppliance_71 ?_
        obtain ⟨h7, h⟩ := h
        refine q_iald (pc := 72) (c := 49) C ⟨rfl, rfl⟩ h7 d_Md_ofAppliance_72 ?_
        refine q_goto (pc := 73) 78 C d_Md_ofAppliance_73 (by decide) ?_
        exact q_iret (pc := 78) C hr d_Md_ofAppliance_78 ⟨rfl, h⟩
      have h := h14 hc
      refine q_aload_n (pc := 26) C d_Md_ofAppliance_26 rfl 0 rfl ?_
      refine q_get (pc := 27) (c := 43) (ci := 7) (k := 7) (v := .ref (ya Y 48)) C rfl (by decide) (by decide) wd_740 rfl d_Md_ofAppliance_27 ?_
      refine q_iload_n (pc := 30) C d_Md_ofAppliance_30 rfl 1 rfl ?_
      obtain ⟨h12, h⟩ := h
      refine q_iald (pc := 31) (c := 48) C ⟨rfl, rfl⟩ h12 d_Md_ofAppliance_31 ?_
      exact q_iret (pc := 32) C hr d_Md_ofAppliance_32 ⟨rfl, h⟩
    have h := h17 hc
    refine q_aload_n (pc := 14) C d_Md_ofAppliance_14 rfl 0 rfl ?_
    refine q_get (pc := 15) (c := 43) (ci := 7) (k := 6) (v := .ref (ya Y 47)) C rfl (by decide) (by decide) wd_739 rfl d_Md_ofAppliance_15 ?_
    refine q_iload_n (pc := 18) C d_Md_ofAppliance_18 rfl 1 rfl ?_
    obtain ⟨h15, h⟩ := h
    refine q_iald (pc := 19) (c := 47) C ⟨rfl, rfl⟩ h15 d_Md_ofAppliance_19 ?_
    exact q_iret (pc := 20) C hr d_Md_ofAppliance_20 ⟨rfl, h⟩
  have h := h19 hc
  refine q_iconst (pc := 8) (v := -1) C d_Md_ofAppliance_8 (by decide) ?_
  exact q_iret (pc := 9) C hr d_Md_ofAppliance_9 ⟨rfl, h⟩
theorem d_Md_level_0 : decode prog_9_method_17_code 0 = .ok (.aload_n 0, 1) := by decide +kernel
theorem d_Md_level_1 : decode prog_9_method_17_code 1 = .ok (.iload_n 1, 1) := by decide +kernel
theorem d_Md_level_2 : decode prog_9_method_17_code 2 = .ok (.invokevirtual 147, 3) := by decide +kernel
theorem d_Md_level_5 : decode prog_9_method_17_code 5 = .ok (.ifCond .eq 21, 3) := by decide +kernel
theorem d_Md_level_8 : decode prog_9_method_17_code 8 = .ok (.iload_n 2, 1) := by decide +kernel
theorem d_Md_level_9 : decode prog_9_method_17_code 9 = .ok (.i2l, 1) := by decide +kernel
theorem d_Md_level_10 : decode prog_9_method_17_code 10 = .ok (.lconst 0, 1) := by decide +kernel
theorem d_Md_level_11 : decode prog_9_method_17_code 11 = .ok (.aload_n 0, 1) := by decide +kernel
theorem d_Md_level_12 : decode prog_9_method_17_code 12 = .ok (.getfield 22, 3) := by decide +kernel
theorem d_Md_level_15 : decode prog_9_method_17_code 15 = .ok (.iload_n 1, 1) := by decide +kernel
theorem d_Md_level_16 : decode prog_9_method_17_code 16 = .ok (.iaload, 1) := by decide +kernel
theorem d_Md_level_17 : decode prog_9_method_17_code 17 = .ok (.iconst 1, 1) := by decide +kernel
theorem d_Md_level_18 : decode prog_9_method_17_code 18 = .ok (.isub, 1) := by decide +kernel
theorem d_Md_level_19 : decode prog_9_method_17_code 19 = .ok (.i2l, 1) := by decide +kernel
theorem d_Md_level_20 : decode prog_9_method_17_code 20 = .ok (.invokestatic 87, 3) := by decide +kernel
theorem d_Md_level_23 : decode prog_9_method_17_code 23 = .ok (.ifCond .ne 5, 3) := by decide +kernel
theorem d_Md_level_26 : decode prog_9_method_17_code 26 = .ok (.iconst (-1), 1) := by decide +kernel
theorem d_Md_level_27 : decode prog_9_method_17_code 27 = .ok (.ireturn, 1) := by decide +kernel
theorem d_Md_level_28 : decode prog_9_method_17_code 28 = .ok (.iload_n 3, 1) := by decide +kernel
theorem d_Md_level_29 : decode prog_9_method_17_code 29 = .ok (.i2l, 1) := by decide +kernel
theorem d_Md_level_30 : decode prog_9_method_17_code 30 = .ok (.lconst 1, 1) := by decide +kernel
theorem d_Md_level_31 : decode prog_9_method_17_code 31 = .ok (.ldc2_w 162, 3) := by decide +kernel
theorem d_Md_level_34 : decode prog_9_method_17_code 34 = .ok (.invokestatic 87, 3) := by decide +kernel
theorem d_Md_level_37 : decode prog_9_method_17_code 37 = .ok (.ifCond .ne 6, 3) := by decide +kernel
theorem d_Md_level_40 : decode prog_9_method_17_code 40 = .ok (.bipush (-2), 2) := by decide +kernel
theorem d_Md_level_42 : decode prog_9_method_17_code 42 = .ok (.ireturn, 1) := by decide +kernel
theorem d_Md_level_43 : decode prog_9_method_17_code 43 = .ok (.aload_n 0, 1) := by decide +kernel
theorem d_Md_level_44 : decode prog_9_method_17_code 44 = .ok (.getfield 25, 3) := by decide +kernel
theorem d_Md_level_47 : decode prog_9_method_17_code 47 = .ok (.iconst 3, 1) := by decide +kernel
theorem d_Md_level_48 : decode prog_9_method_17_code 48 = .ok (.iload_n 1, 1) := by decide +kernel
theorem d_Md_level_49 : decode prog_9_method_17_code 49 = .ok (.imul, 1) := by decide +kernel
theorem d_Md_level_50 : decode prog_9_method_17_code 50 = .ok (.iload_n 2, 1) := by decide +kernel
theorem d_Md_level_51 : decode prog_9_method_17_code 51 = .ok (.iadd, 1) := by decide +kernel
theorem d_Md_level_52 : decode prog_9_method_17_code 52 = .ok (.iaload, 1) := by decide +kernel
theorem d_Md_level_53 : decode prog_9_method_17_code 53 = .ok (.istore 4, 2) := by decide +kernel
theorem d_Md_level_55 : decode prog_9_method_17_code 55 = .ok (.aload_n 0, 1) := by decide +kernel
theorem d_Md_level_56 : decode prog_9_method_17_code 56 = .ok (.getfield 25, 3) := by decide +kernel
theorem d_Md_level_59 : decode prog_9_method_17_code 59 = .ok (.iconst 3, 1) := by decide +kernel
theorem d_Md_level_60 : decode prog_9_method_17_code 60 = .ok (.iload_n 1, 1) := by decide +kernel
theorem d_Md_level_61 : decode prog_9_method_17_code 61 = .ok (.imul, 1) := by decide +kernel
theorem d_Md_level_62 : decode prog_9_method_17_code 62 = .ok (.iload_n 2, 1) := by decide +kernel
theorem d_Md_level_63 : decode prog_9_method_17_code 63 = .ok (.iadd, 1) := by decide +kernel
theorem d_Md_level_64 : decode prog_9_method_17_code 64 = .ok (.iload_n 3, 1) := by decide +kernel
theorem d_Md_level_65 : decode prog_9_method_17_code 65 = .ok (.iastore, 1) := by decide +kernel
theorem d_Md_level_66 : decode prog_9_method_17_code 66 = .ok (.aload_n 0, 1) := by decide +kernel
theorem d_Md_level_67 : decode prog_9_method_17_code 67 = .ok (.iconst 0, 1) := by decide +kernel
theorem d_Md_level_68 : decode prog_9_method_17_code 68 = .ok (.putfield 143, 3) := by decide +kernel
theorem d_Md_level_71 : decode prog_9_method_17_code 71 = .ok (.iload 4, 2) := by decide +kernel
theorem d_Md_level_73 : decode prog_9_method_17_code 73 = .ok (.ireturn, 1) := by decide +kernel
abbrev y_Md_level : MethodName := ⟨"LoadCyclesModel", "level", "(III)I"⟩
theorem mi_Md_level : miV y_Md_level prog_9_method_17_code 5 (some .int) 3 := ⟨wd_890, wd_891, wd_72, wd_892, by decide, by decide, by decide +kernel⟩
def w_Md_level (x1 : Int32) (x2 : Int32) (x3 : Int32) (σ : Sg) (K : Int32 → Sg → Prop) : Prop :=
  w_Md_isAppliance x1 σ (fun u2 => ((u2 = 0 → K (-1 : Int32) σ) ∧ (¬ u2 = 0 → (vp_in x1 4 ∧ w_Md_within (x2.toInt64) (0 : Int64) (((σ 48 x1.toNatClampNeg) - (1 : Int32)).toInt64) σ (fun u20 => ((¬ u20 = 0 → w_Md_within (x3.toInt64) (1 : Int64) (9 : Int64) σ (fun u34 => ((¬ u34 = 0 → (vp_in (((3 : Int32) * x1) + x2) 12 ∧ (∀ y4_53 : Int32, y4_53 = (σ 49 (((3 : Int32) * x1) + x2).toNatClampNeg) → (vp_in (((3 : Int32) * x1) + x2) 12 ∧ (∀ τ65 : Sg, τ65 = s2 σ 49 (((3 : Int32) * x1) + x2).toNatClampNeg x3 → (∀ τ68 : Sg, τ68 = s2 τ65 43 17 (0 : Int32) → K y4_53 τ68)))))) ∧ (u34 = 0 → K (-2 : Int32) σ)))) ∧ (u20 = 0 → K (-1 : Int32) σ)))))))
set_option maxHeartbeats 4000000 in
theorem m_Md_level {Y : Yx} {x1 : Int32} {x2 : Int32} {x3 : Int32} {σ : Sg} {K : Int32 → Sg → Prop} (hY : YD Y)  (h : w_Md_level x1 x2 x3 σ K) : MetI Y y_Md_level prog_9_method_17_code 5 (.int) 2 46 [.ref (ya Y 43), .int x1, .int x2, .int x3] σ K := by
  refine met_I [(0, .ref (ya Y 43)), (1, .int x1), (2, .int x2), (3, .int x3)] hY (by decide) (Nat.le_of_ble_eq_true rfl) rfl (fun X C hr => ?_)
  unfold w_Md_level at h
  refine q_aload_n (pc := 0) C d_Md_level_0 rfl 0 rfl ?_
  refine q_iload_n (pc := 1) C d_Md_level_1 rfl 1 rfl ?_
  refine q_callVIr (pc := 2) (st := []) (d := 43) C (m_Md_isAppliance hY h) mi_Md_isAppliance rfl (by decide) rfl wd_877 rfl rfl (Nat.le_of_ble_eq_true rfl) (by decide) (by decide) d_Md_level_2 (fun u2 h => ?_)
  obtain ⟨h8, h9⟩ := h
  refine q_if_eq (pc := 5) 26 C d_Md_level_5 (by decide) (fun hc => ?_) (fun hc => ?_)
  · have h := h8 hc
    refine q_iconst (pc := 26) (v := -1) C d_Md_level_26 (by decide) ?_
    exact q_iret (pc := 27) C hr d_Md_level_27 h
  have h := h9 hc
  refine q_iload_n (pc := 8) C d_Md_level_8 rfl 2 rfl ?_
  refine q_i2l (pc := 9) C d_Md_level_9 ?_
  refine q_lconst (pc := 10) (v := 0) C d_Md_level_10 (by decide) ?_
  refine q_aload_n (pc := 11) C d_Md_level_11 rfl 0 rfl ?_
  refine q_get (pc := 12) (c := 43) (ci := 7) (k := 7) (v := .ref (ya Y 48)) C rfl (by decide) (by decide) wd_740 rfl d_Md_level_12 ?_
  refine q_iload_n (pc := 15) C d_Md_level_15 rfl 1 rfl ?_
  obtain ⟨h1, h⟩ := h
  refine q_iald (pc := 16) (c := 48) C ⟨rfl, rfl⟩ h1 d_Md_level_16 ?_
  refine q_iconst (pc := 17) (v := 1) C d_Md_level_17 (by decide) ?_
  refine q_isub (pc := 18) C d_Md_level_18 ?_
  refine q_i2l (pc := 19) C d_Md_level_19 ?_
  refine q_callSIr (pc := 20) (st := []) C (m_Md_within hY h) mi_Md_within wd_841 rfl rfl (Nat.le_of_ble_eq_true rfl) (by decide) (by decide) d_Md_level_20 (fun u20 h => ?_)
  obtain ⟨h6, h7⟩ := h
  refine q_if_ne (pc := 23) 28 C d_Md_level_23 (by decide) (fun hc => ?_) (fun hc => ?_)
  · have h := h6 hc
    refine q_iload_n (pc := 28) C d_Md_level_28 rfl 3 rfl ?_
    refine q_i2l (pc := 29) C d_Md_level_29 ?_
    refine q_lconst (pc := 30) (v := 1) C d_Md_level_30 (by decide) ?_
    refine q_ldc2 (pc := 31) C wd_893 d_Md_level_31 ?_
    refine q_callSIr (pc := 34) (st := []) C (m_Md_within hY h) mi_Md_within wd_841 rfl rfl (Nat.le_of_ble_eq_true rfl) (by decide) (by decide) d_Md_level_34 (fun u34 h => ?_)
    obtain ⟨h4, h5⟩ := h
    refine q_if_ne (pc := 37) 43 C d_Md_level_37 (by decide) (fun hc => ?_) (fun hc => ?_)
    · have h := h4 hc
      refine q_aload_n (pc := 43) C d_Md_level_43 rfl 0 rfl ?_
      refine q_get (pc := 44) (c := 43) (ci := 7) (k := 8) (v := .ref (ya Y 49)) C rfl (by decide) (by decide) wd_741 rfl d_Md_level_44 ?_
      refine q_iconst (pc := 47) (v := 3) C d_Md_level_47 (by decide) ?_
      refine q_iload_n (pc := 48) C d_Md_level_48 rfl 1 rfl ?_
      refine q_imul (pc := 49) C d_Md_level_49 ?_
      refine q_iload_n (pc := 50) C d_Md_level_50 rfl 2 rfl ?_
      refine q_iadd (pc := 51) C d_Md_level_51 ?_
      obtain ⟨h2, h⟩ := h
      refine q_iald (pc := 52) (c := 49) C ⟨rfl, rfl⟩ h2 d_Md_level_52 ?_
      refine q_nmi (fun y4_53 ey4_53 => ?_)
      replace h := h y4_53 ey4_53
      refine q_istore (pc := 53) [(4, .int y4_53), (0, .ref (ya Y 43)), (1, .int x1), (2, .int x2), (3, .int x3)] C d_Md_level_53 (by decide) rfl ?_
      refine q_aload_n (pc := 55) C d_Md_level_55 rfl 1 rfl ?_
      refine q_get (pc := 56) (c := 43) (ci := 7) (k := 8) (v := .ref (ya Y 49)) C rfl (by decide) (by decide) wd_741 rfl d_Md_level_56 ?_
      refine q_iconst (pc := 59) (v := 3) C d_Md_level_59 (by decide) ?_
      refine q_iload_n (pc := 60) C d_Md_level_60 rfl 2 rfl ?_
      refine q_imul (pc := 61) C d_Md_level_61 ?_
      refine q_iload_n (pc := 62) C d_Md_level_62 rfl 3 rfl ?_
      refine q_iadd (pc := 63) C d_Md_level_63 ?_
      refine q_iload_n (pc := 64) C d_Md_level_64 rfl 4 rfl ?_
      obtain ⟨h3, h⟩ := h
      refine q_iast (pc := 65) (c := 49) C ⟨rfl, rfl⟩ h3 d_Md_level_65 ?_
      refine q_nms (fun τ65 eτ65 => ?_)
      replace h := h τ65 eτ65
      refine q_aload_n (pc := 66) C d_Md_level_66 rfl 1 rfl ?_
      refine q_iconst (pc := 67) (v := 0) C d_Md_level_67 (by decide) ?_
      refine q_put (pc := 68) (c := 43) (ci := 7) (k := 17) C rfl (by decide) (by decide) wd_750 rfl rfl rfl fs_7_17 d_Md_level_68 ?_
      refine q_nms (fun τ68 eτ68 => ?_)
      replace h := h τ68 eτ68
      refine q_iload (pc := 71) C d_Md_level_71 0 rfl ?_
      exact q_iret (pc := 73) C hr d_Md_level_73 h
    have h := h5 hc
    refine q_bipush (pc := 40) (v := -2) C d_Md_level_40 (by decide) ?_
    exact q_iret (pc := 42) C hr d_Md_level_42 h
  have h := h7 hc
  refine q_iconst (pc := 26) (v := -1) C d_Md_level_26 (by decide) ?_
  exact q_iret (pc := 27) C hr d_Md_level_27 h
theorem d_Md_meter_0 : decode prog_9_method_18_code 0 = .ok (.aload_n 0, 1) := by decide +kernel
theorem d_Md_meter_1 : decode prog_9_method_18_code 1 = .ok (.iconst 0, 1) := by decide +kernel
theorem d_Md_meter_2 : decode prog_9_method_18_code 2 = .ok (.putfield 79, 3) := by decide +kernel
theorem d_Md_meter_5 : decode prog_9_method_18_code 5 = .ok (.iload_n 1, 1) := by decide +kernel
theorem d_Md_meter_6 : decode prog_9_method_18_code 6 = .ok (.invokestatic 121, 3) := by decide +kernel
theorem d_Md_meter_9 : decode prog_9_method_18_code 9 = .ok (.ifCond .ne 5, 3) := by decide +kernel
theorem d_Md_meter_12 : decode prog_9_method_18_code 12 = .ok (.iconst (-1), 1) := by decide +kernel
theorem d_Md_meter_13 : decode prog_9_method_18_code 13 = .ok (.ireturn, 1) := by decide +kernel
theorem d_Md_meter_14 : decode prog_9_method_18_code 14 = .ok (.iload_n 2, 1) := by decide +kernel
theorem d_Md_meter_15 : decode prog_9_method_18_code 15 = .ok (.invokestatic 124, 3) := by decide +kernel
theorem d_Md_meter_18 : decode prog_9_method_18_code 18 = .ok (.ifCond .eq 16, 3) := by decide +kernel
theorem d_Md_meter_21 : decode prog_9_method_18_code 21 = .ok (.iload 4, 2) := by decide +kernel
theorem d_Md_meter_23 : decode prog_9_method_18_code 23 = .ok (.i2l, 1) := by decide +kernel
theorem d_Md_meter_24 : decode prog_9_method_18_code 24 = .ok (.lconst 0, 1) := by decide +kernel
theorem d_Md_meter_25 : decode prog_9_method_18_code 25 = .ok (.ldc2_w 154, 3) := by decide +kernel
theorem d_Md_meter_28 : decode prog_9_method_18_code 28 = .ok (.invokestatic 87, 3) := by decide +kernel
theorem d_Md_meter_31 : decode prog_9_method_18_code 31 = .ok (.ifCond .ne 6, 3) := by decide +kernel
theorem d_Md_meter_34 : decode prog_9_method_18_code 34 = .ok (.bipush (-2), 2) := by decide +kernel
theorem d_Md_meter_36 : decode prog_9_method_18_code 36 = .ok (.ireturn, 1) := by decide +kernel
theorem d_Md_meter_37 : decode prog_9_method_18_code 37 = .ok (.aload_n 0, 1) := by decide +kernel
theorem d_Md_meter_38 : decode prog_9_method_18_code 38 = .ok (.iload_n 1, 1) := by decide +kernel
theorem d_Md_meter_39 : decode prog_9_method_18_code 39 = .ok (.iload_n 2, 1) := by decide +kernel
theorem d_Md_meter_40 : decode prog_9_method_18_code 40 = .ok (.iload_n 3, 1) := by decide +kernel
theorem d_Md_meter_41 : decode prog_9_method_18_code 41 = .ok (.iload 4, 2) := by decide +kernel
theorem d_Md_meter_43 : decode prog_9_method_18_code 43 = .ok (.invokevirtual 127, 3) := by decide +kernel
theorem d_Md_meter_46 : decode prog_9_method_18_code 46 = .ok (.istore 5, 2) := by decide +kernel
theorem d_Md_meter_48 : decode prog_9_method_18_code 48 = .ok (.iload 5, 2) := by decide +kernel
theorem d_Md_meter_50 : decode prog_9_method_18_code 50 = .ok (.ifCond .eq 10, 3) := by decide +kernel
theorem d_Md_meter_53 : decode prog_9_method_18_code 53 = .ok (.aload_n 0, 1) := by decide +kernel
theorem d_Md_meter_54 : decode prog_9_method_18_code 54 = .ok (.iload 5, 2) := by decide +kernel
theorem d_Md_meter_56 : decode prog_9_method_18_code 56 = .ok (.invokevirtual 131, 3) := by decide +kernel
theorem d_Md_meter_59 : decode prog_9_method_18_code 59 = .ok (.ireturn, 1) := by decide +kernel
theorem d_Md_meter_60 : decode prog_9_method_18_code 60 = .ok (.aload_n 0, 1) := by decide +kernel
theorem d_Md_meter_61 : decode prog_9_method_18_code 61 = .ok (.getfield 93, 3) := by decide +kernel
theorem d_Md_meter_64 : decode prog_9_method_18_code 64 = .ok (.ifCond .ne 6, 3) := by decide +kernel
theorem d_Md_meter_67 : decode prog_9_method_18_code 67 = .ok (.bipush (-3), 2) := by decide +kernel
theorem d_Md_meter_69 : decode prog_9_method_18_code 69 = .ok (.ireturn, 1) := by decide +kernel
theorem d_Md_meter_70 : decode prog_9_method_18_code 70 = .ok (.bipush 60, 2) := by decide +kernel
theorem d_Md_meter_72 : decode prog_9_method_18_code 72 = .ok (.iload_n 1, 1) := by decide +kernel
theorem d_Md_meter_73 : decode prog_9_method_18_code 73 = .ok (.imul, 1) := by decide +kernel
theorem d_Md_meter_74 : decode prog_9_method_18_code 74 = .ok (.iload_n 3, 1) := by decide +kernel
theorem d_Md_meter_75 : decode prog_9_method_18_code 75 = .ok (.iadd, 1) := by decide +kernel
theorem d_Md_meter_76 : decode prog_9_method_18_code 76 = .ok (.istore 6, 2) := by decide +kernel
theorem d_Md_meter_78 : decode prog_9_method_18_code 78 = .ok (.iconst 0, 1) := by decide +kernel
theorem d_Md_meter_79 : decode prog_9_method_18_code 79 = .ok (.istore 7, 2) := by decide +kernel
theorem d_Md_meter_81 : decode prog_9_method_18_code 81 = .ok (.iload 7, 2) := by decide +kernel
theorem d_Md_meter_83 : decode prog_9_method_18_code 83 = .ok (.iload 4, 2) := by decide +kernel
theorem d_Md_meter_85 : decode prog_9_method_18_code 85 = .ok (.if_icmp .ge 37, 3) := by decide +kernel
theorem d_Md_meter_88 : decode prog_9_method_18_code 88 = .ok (.aload_n 0, 1) := by decide +kernel
theorem d_Md_meter_89 : decode prog_9_method_18_code 89 = .ok (.getfield 16, 3) := by decide +kernel
theorem d_Md_meter_92 : decode prog_9_method_18_code 92 = .ok (.iload 6, 2) := by decide +kernel
theorem d_Md_meter_94 : decode prog_9_method_18_code 94 = .ok (.iload 7, 2) := by decide +kernel
theorem d_Md_meter_96 : decode prog_9_method_18_code 96 = .ok (.iadd, 1) := by decide +kernel
theorem d_Md_meter_97 : decode prog_9_method_18_code 97 = .ok (.iaload, 1) := by decide +kernel
theorem d_Md_meter_98 : decode prog_9_method_18_code 98 = .ok (.i2l, 1) := by decide +kernel
theorem d_Md_meter_99 : decode prog_9_method_18_code 99 = .ok (.aload_n 0, 1) := by decide +kernel
theorem d_Md_meter_100 : decode prog_9_method_18_code 100 = .ok (.getfield 137, 3) := by decide +kernel
theorem d_Md_meter_103 : decode prog_9_method_18_code 103 = .ok (.i2l, 1) := by decide +kernel
theorem d_Md_meter_104 : decode prog_9_method_18_code 104 = .ok (.ldc2_w 164, 3) := by decide +kernel
theorem d_Md_meter_107 : decode prog_9_method_18_code 107 = .ok (.invokestatic 87, 3) := by decide +kernel
theorem d_Md_meter_110 : decode prog_9_method_18_code 110 = .ok (.ifCond .ne 6, 3) := by decide +kernel
theorem d_Md_meter_113 : decode prog_9_method_18_code 113 = .ok (.bipush (-2), 2) := by decide +kernel
theorem d_Md_meter_115 : decode prog_9_method_18_code 115 = .ok (.ireturn, 1) := by decide +kernel
theorem d_Md_meter_116 : decode prog_9_method_18_code 116 = .ok (.iinc 7 1, 3) := by decide +kernel
theorem d_Md_meter_119 : decode prog_9_method_18_code 119 = .ok (.goto (-38), 3) := by decide +kernel
theorem d_Md_meter_122 : decode prog_9_method_18_code 122 = .ok (.aload_n 0, 1) := by decide +kernel
theorem d_Md_meter_123 : decode prog_9_method_18_code 123 = .ok (.iload 4, 2) := by decide +kernel
theorem d_Md_meter_125 : decode prog_9_method_18_code 125 = .ok (.putfield 96, 3) := by decide +kernel
theorem d_Md_meter_128 : decode prog_9_method_18_code 128 = .ok (.iconst 0, 1) := by decide +kernel
theorem d_Md_meter_129 : decode prog_9_method_18_code 129 = .ok (.istore 7, 2) := by decide +kernel
theorem d_Md_meter_131 : decode prog_9_method_18_code 131 = .ok (.iload 7, 2) := by decide +kernel
theorem d_Md_meter_133 : decode prog_9_method_18_code 133 = .ok (.iload 4, 2) := by decide +kernel
theorem d_Md_meter_135 : decode prog_9_method_18_code 135 = .ok (.if_icmp .ge 26, 3) := by decide +kernel
theorem d_Md_meter_138 : decode prog_9_method_18_code 138 = .ok (.aload_n 0, 1) := by decide +kernel
theorem d_Md_meter_139 : decode prog_9_method_18_code 139 = .ok (.getfield 28, 3) := by decide +kernel
theorem d_Md_meter_142 : decode prog_9_method_18_code 142 = .ok (.iload 7, 2) := by decide +kernel
theorem d_Md_meter_144 : decode prog_9_method_18_code 144 = .ok (.aload_n 0, 1) := by decide +kernel
theorem d_Md_meter_145 : decode prog_9_method_18_code 145 = .ok (.getfield 16, 3) := by decide +kernel
theorem d_Md_meter_148 : decode prog_9_method_18_code 148 = .ok (.iload 6, 2) := by decide +kernel
theorem d_Md_meter_150 : decode prog_9_method_18_code 150 = .ok (.iload 7, 2) := by decide +kernel
theorem d_Md_meter_152 : decode prog_9_method_18_code 152 = .ok (.iadd, 1) := by decide +kernel
theorem d_Md_meter_153 : decode prog_9_method_18_code 153 = .ok (.iaload, 1) := by decide +kernel
theorem d_Md_meter_154 : decode prog_9_method_18_code 154 = .ok (.iastore, 1) := by decide +kernel
theorem d_Md_meter_155 : decode prog_9_method_18_code 155 = .ok (.iinc 7 1, 3) := by decide +kernel
theorem d_Md_meter_158 : decode prog_9_method_18_code 158 = .ok (.goto (-27), 3) := by decide +kernel
theorem d_Md_meter_161 : decode prog_9_method_18_code 161 = .ok (.aload_n 0, 1) := by decide +kernel
theorem d_Md_meter_162 : decode prog_9_method_18_code 162 = .ok (.iconst 0, 1) := by decide +kernel
theorem d_Md_meter_163 : decode prog_9_method_18_code 163 = .ok (.putfield 143, 3) := by decide +kernel
theorem d_Md_meter_166 : decode prog_9_method_18_code 166 = .ok (.iload 4, 2) := by decide +kernel
theorem d_Md_meter_168 : decode prog_9_method_18_code 168 = .ok (.ireturn, 1) := by decide +kernel
abbrev y_Md_meter : MethodName := ⟨"LoadCyclesModel", "meter", "(IIII)I"⟩
theorem mi_Md_meter : miV y_Md_meter prog_9_method_18_code 8 (some .int) 4 := ⟨wd_895, wd_896, wd_72, wd_897, by decide, by decide, by decide +kernel⟩
def L_Md_meter_131 (x1 : Int32) (x2 : Int32) (x3 : Int32) (x4 : Int32) (v6 : Int32) (K : Int32 → Sg → Prop) : Nat → Int32 → Sg → Prop
  | 0, _, _ => False
  | n + 1, v7, σ =>
    ((x4 ≤ v7 → (∀ τ163 : Sg, τ163 = s2 σ 43 17 (0 : Int32) → K x4 τ163)) ∧ (¬ x4 ≤ v7 → (vp_in (v6 + v7) 240 ∧ (vp_in v7 20 ∧ (∀ τ154 : Sg, τ154 = s2 σ 50 v7.toNatClampNeg (σ 46 (v6 + v7).toNatClampNeg) → L_Md_meter_131 x1 x2 x3 x4 v6 K n (v7 + (1 : Int32)) τ154)))))
theorem t_Md_meter_131 {X : Bx} {Y : Yx} {x1 : Int32} {x2 : Int32} {x3 : Int32} {x4 : Int32} {v6 : Int32} {K : Int32 → Sg → Prop}  (hY : YD Y) (C : Cx X Y prog_9_method_18_code 8 "LoadCyclesModel" 2 45) (hr : (xh X).sig.returnType = some .int)  : ∀ (n : Nat) (v7 : Int32) (σ : Sg), L_Md_meter_131 x1 x2 x3 x4 v6 K n v7 σ → St X Y 8 (QI X Y K) 131 [(0, .ref (ya Y 43)), (4, .int x4), (6, .int v6), (7, .int v7)] [] σ := by
  intro n
  induction n with
  | zero => intro v7 σ h; exact h.elim
  | succ n ih =>
    intro v7 σ h
    unfold L_Md_meter_131 at h
    refine q_iload (pc := 131) C d_Md_meter_131 3 rfl ?_
    refine q_iload (pc := 133) C d_Md_meter_133 1 rfl ?_
    obtain ⟨h3, h4⟩ := h
    refine q_icmp_ge (pc := 135) 161 C d_Md_meter_135 (by decide) (fun hc => ?_) (fun hc => ?_)
    · have h := h3 hc
      refine q_aload_n (pc := 161) C d_Md_meter_161 rfl 0 rfl ?_
      refine q_iconst (pc := 162) (v := 0) C d_Md_meter_162 (by decide) ?_
      refine q_put (pc := 163) (c := 43) (ci := 7) (k := 17) C rfl (by decide) (by decide) wd_750 rfl rfl rfl fs_7_17 d_Md_meter_163 ?_
      refine q_nms (fun τ163 eτ163 => ?_)
      replace h := h τ163 eτ163
      refine q_iload (pc := 166) C d_Md_meter_166 1 rfl ?_
      exact q_iret (pc := 168) C hr d_Md_meter_168 h
    have h := h4 hc
    refine q_aload_n (pc := 138) C d_Md_meter_138 rfl 0 rfl ?_
    refine q_get (pc := 139) (c := 43) (ci := 7) (k := 10) (v := .ref (ya Y 50)) C rfl (by decide) (by decide) wd_743 rfl d_Md_meter_139 ?_
    refine q_iload (pc := 142) C d_Md_meter_142 3 rfl ?_
    refine q_aload_n (pc := 144) C d_Md_meter_144 rfl 0 rfl ?_
    refine q_get (pc := 145) (c := 43) (ci := 7) (k := 4) (v := .ref (ya Y 46)) C rfl (by decide) (by decide) wd_737 rfl d_Md_meter_145 ?_
    refine q_iload (pc := 148) C d_Md_meter_148 2 rfl ?_
    refine q_iload (pc := 150) C d_Md_meter_150 3 rfl ?_
    refine q_iadd (pc := 152) C d_Md_meter_152 ?_
    obtain ⟨h1, h⟩ := h
    refine q_iald (pc := 153) (c := 46) C ⟨rfl, rfl⟩ h1 d_Md_meter_153 ?_
    obtain ⟨h2, h⟩ := h
    refine q_iast (pc := 154) (c := 50) C ⟨rfl, rfl⟩ h2 d_Md_meter_154 ?_
    refine q_nms (fun τ154 eτ154 => ?_)
    replace h := h τ154 eτ154
    refine q_iinc (pc := 155) (v7 + (1 : Int32)) [(7, .int (v7 + (1 : Int32))), (0, .ref (ya Y 43)), (4, .int x4), (6, .int v6)] C d_Md_meter_155 3 rfl rfl (by decide) rfl ?_
    refine q_goto (pc := 158) 131 C d_Md_meter_158 (by decide) ?_
    refine q_sub [(0, .ref (ya Y 43)), (4, .int x4), (6, .int v6), (7, .int (v7 + (1 : Int32)))] [1, 2, 3, 0] rfl ?_
    exact ih (v7 + (1 : Int32)) τ154 h
def L_Md_meter_81 (x1 : Int32) (x2 : Int32) (x3 : Int32) (x4 : Int32) (v6 : Int32) (K : Int32 → Sg → Prop) : Nat → Int32 → Sg → Prop
  | 0, _, _ => False
  | n + 1, v7, σ =>
    ((x4 ≤ v7 → (∀ τ125 : Sg, τ125 = s2 σ 43 9 x4 → (∃ n5 : Nat, L_Md_meter_131 x1 x2 x3 x4 v6 K n5 (0 : Int32) τ125))) ∧ (¬ x4 ≤ v7 → (vp_in (v6 + v7) 240 ∧ w_Md_within ((σ 46 (v6 + v7).toNatClampNeg).toInt64) ((σ 43 11).toInt64) (99 : Int64) σ (fun u107 => ((¬ u107 = 0 → L_Md_meter_81 x1 x2 x3 x4 v6 K n (v7 + (1 : Int32)) σ) ∧ (u107 = 0 → K (-2 : Int32) σ))))))
theorem t_Md_meter_81 {X : Bx} {Y : Yx} {x1 : Int32} {x2 : Int32} {x3 : Int32} {x4 : Int32} {v6 : Int32} {K : Int32 → Sg → Prop}  (hY : YD Y) (C : Cx X Y prog_9_method_18_code 8 "LoadCyclesModel" 2 45) (hr : (xh X).sig.returnType = some .int)  : ∀ (n : Nat) (v7 : Int32) (σ : Sg), L_Md_meter_81 x1 x2 x3 x4 v6 K n v7 σ → St X Y 8 (QI X Y K) 81 [(0, .ref (ya Y 43)), (4, .int x4), (6, .int v6), (7, .int v7)] [] σ := by
  intro n
  induction n with
  | zero => intro v7 σ h; exact h.elim
  | succ n ih =>
    intro v7 σ h
    unfold L_Md_meter_81 at h
    refine q_iload (pc := 81) C d_Md_meter_81 3 rfl ?_
    refine q_iload (pc := 83) C d_Md_meter_83 1 rfl ?_
    obtain ⟨h9, h10⟩ := h
    refine q_icmp_ge (pc := 85) 122 C d_Md_meter_85 (by decide) (fun hc => ?_) (fun hc => ?_)
    · have h := h9 hc
      refine q_aload_n (pc := 122) C d_Md_meter_122 rfl 0 rfl ?_
      refine q_iload (pc := 123) C d_Md_meter_123 1 rfl ?_
      refine q_put (pc := 125) (c := 43) (ci := 7) (k := 9) C rfl (by decide) (by decide) wd_742 rfl rfl rfl fs_7_9 d_Md_meter_125 ?_
      refine q_nms (fun τ125 eτ125 => ?_)
      replace h := h τ125 eτ125
      refine q_iconst (pc := 128) (v := 0) C d_Md_meter_128 (by decide) ?_
      refine q_istore (pc := 129) [(7, .int (0 : Int32)), (0, .ref (ya Y 43)), (4, .int x4), (6, .int v6)] C d_Md_meter_129 (by decide) rfl ?_
      obtain ⟨n5, h⟩ := h
      refine q_sub [(0, .ref (ya Y 43)), (4, .int x4), (6, .int v6), (7, .int (0 : Int32))] [1, 2, 3, 0] rfl ?_
      exact t_Md_meter_131 hY C hr n5 (0 : Int32) τ125 h
    have h := h10 hc
    refine q_aload_n (pc := 88) C d_Md_meter_88 rfl 0 rfl ?_
    refine q_get (pc := 89) (c := 43) (ci := 7) (k := 4) (v := .ref (ya Y 46)) C rfl (by decide) (by decide) wd_737 rfl d_Md_meter_89 ?_
    refine q_iload (pc := 92) C d_Md_meter_92 2 rfl ?_
    refine q_iload (pc := 94) C d_Md_meter_94 3 rfl ?_
    refine q_iadd (pc := 96) C d_Md_meter_96 ?_
    obtain ⟨h6, h⟩ := h
    refine q_iald (pc := 97) (c := 46) C ⟨rfl, rfl⟩ h6 d_Md_meter_97 ?_
    refine q_i2l (pc := 98) C d_Md_meter_98 ?_
    refine q_aload_n (pc := 99) C d_Md_meter_99 rfl 0 rfl ?_
    refine q_get (pc := 100) (c := 43) (ci := 7) (k := 11) (v := .int (σ 43 11)) C rfl (by decide) (by decide) wd_744 rfl d_Md_meter_100 ?_
    refine q_i2l (pc := 103) C d_Md_meter_103 ?_
    refine q_ldc2 (pc := 104) C wd_898 d_Md_meter_104 ?_
    refine q_callSIr (pc := 107) (st := []) C (m_Md_within hY h) mi_Md_within wd_841 rfl rfl (Nat.le_of_ble_eq_true rfl) (by decide) (by decide) d_Md_meter_107 (fun u107 h => ?_)
    obtain ⟨h7, h8⟩ := h
    refine q_if_ne (pc := 110) 116 C d_Md_meter_110 (by decide) (fun hc => ?_) (fun hc => ?_)
    · have h := h7 hc
      refine q_iinc (pc := 116) (v7 + (1 : Int32)) [(7, .int (v7 + (1 : Int32))), (0, .ref (ya Y 43)), (4, .int x4), (6, .int v6)] C d_Md_meter_116 3 rfl rfl (by decide) rfl ?_
      refine q_goto (pc := 119) 81 C d_Md_meter_119 (by decide) ?_
      refine q_sub [(0, .ref (ya Y 43)), (4, .int x4), (6, .int v6), (7, .int (v7 + (1 : Int32)))] [1, 2, 3, 0] rfl ?_
      exact ih (v7 + (1 : Int32)) σ h
    have h := h8 hc
    refine q_bipush (pc := 113) (v := -2) C d_Md_meter_113 (by decide) ?_
    exact q_iret (pc := 115) C hr d_Md_meter_115 h
def w_Md_meter (x1 : Int32) (x2 : Int32) (x3 : Int32) (x4 : Int32) (σ : Sg) (K : Int32 → Sg → Prop) : Prop :=
  (∀ τ2 : Sg, τ2 = s2 σ 43 0 (0 : Int32) → w_Md_isSheet x1 τ2 (fun u6 => ((¬ u6 = 0 → w_Md_isSort x2 τ2 (fun u15 => ((u15 = 0 → K (-2 : Int32) τ2) ∧ (¬ u15 = 0 → w_Md_within (x4.toInt64) (0 : Int64) (20 : Int64) τ2 (fun u28 => ((¬ u28 = 0 → w_Md_against x1 x2 x3 x4 τ2 (fun u43 => ((u43 = 0 → ((¬ (τ2 43 5) = 0 → (∀ y6_76 : Int32, y6_76 = (((60 : Int32) * x1) + x3) → (∃ n11 : Nat, L_Md_meter_81 x1 x2 x3 x4 y6_76 K n11 (0 : Int32) τ2))) ∧ ((τ2 43 5) = 0 → K (-3 : Int32) τ2))) ∧ (¬ u43 = 0 → w_Md_fails u43 τ2 (fun u56 τ56 => K u56 τ56))))) ∧ (u28 = 0 → K (-2 : Int32) τ2))))))) ∧ (u6 = 0 → K (-1 : Int32) τ2))))
set_option maxHeartbeats 4000000 in
theorem m_Md_meter {Y : Yx} {x1 : Int32} {x2 : Int32} {x3 : Int32} {x4 : Int32} {σ : Sg} {K : Int32 → Sg → Prop} (hY : YD Y)  (h : w_Md_meter x1 x2 x3 x4 σ K) : MetI Y y_Md_meter prog_9_method_18_code 8 (.int) 2 45 [.ref (ya Y 43), .int x1, .int x2, .int x3, .int x4] σ K := by
  refine met_I [(0, .ref (ya Y 43)), (1, .int x1), (2, .int x2), (3, .int x3), (4, .int x4)] hY (by decide) (Nat.le_of_ble_eq_true rfl) rfl (fun X C hr => ?_)
  unfold w_Md_meter at h
  refine q_aload_n (pc := 0) C d_Md_meter_0 rfl 0 rfl ?_
  refine q_iconst (pc := 1) (v := 0) C d_Md_meter_1 (by decide) ?_
  refine q_put (pc := 2) (c := 43) (ci := 7) (k := 0) C rfl (by decide) (by decide) wd_733 rfl rfl rfl fs_7_0 d_Md_meter_2 ?_
  refine q_nms (fun τ2 eτ2 => ?_)
  replace h := h τ2 eτ2
  refine q_iload_n (pc := 5) C d_Md_meter_5 rfl 1 rfl ?_
  refine q_callSIr (pc := 6) (st := []) C (m_Md_isSheet hY h) mi_Md_isSheet wd_837 rfl rfl (Nat.le_of_ble_eq_true rfl) (by decide) (by decide) d_Md_meter_6 (fun u6 h => ?_)
  obtain ⟨h20, h21⟩ := h
  refine q_if_ne (pc := 9) 14 C d_Md_meter_9 (by decide) (fun hc => ?_) (fun hc => ?_)
  · have h := h20 hc
    refine q_iload_n (pc := 14) C d_Md_meter_14 rfl 2 rfl ?_
    refine q_callSIr (pc := 15) (st := []) C (m_Md_isSort hY h) mi_Md_isSort wd_844 rfl rfl (Nat.le_of_ble_eq_true rfl) (by decide) (by decide) d_Md_meter_15 (fun u15 h => ?_)
    obtain ⟨h18, h19⟩ := h
    refine q_if_eq (pc := 18) 34 C d_Md_meter_18 (by decide) (fun hc => ?_) (fun hc => ?_)
    · have h := h18 hc
      refine q_bipush (pc := 34) (v := -2) C d_Md_meter_34 (by decide) ?_
      exact q_iret (pc := 36) C hr d_Md_meter_36 h
    have h := h19 hc
    refine q_iload (pc := 21) C d_Md_meter_21 4 rfl ?_
    refine q_i2l (pc := 23) C d_Md_meter_23 ?_
    refine q_lconst (pc := 24) (v := 0) C d_Md_meter_24 (by decide) ?_
    refine q_ldc2 (pc := 25) C wd_883 d_Md_meter_25 ?_
    refine q_callSIr (pc := 28) (st := []) C (m_Md_within hY h) mi_Md_within wd_841 rfl rfl (Nat.le_of_ble_eq_true rfl) (by decide) (by decide) d_Md_meter_28 (fun u28 h => ?_)
    obtain ⟨h16, h17⟩ := h
    refine q_if_ne (pc := 31) 37 C d_Md_meter_31 (by decide) (fun hc => ?_) (fun hc => ?_)
    · have h := h16 hc
      refine q_aload_n (pc := 37) C d_Md_meter_37 rfl 0 rfl ?_
      refine q_iload_n (pc := 38) C d_Md_meter_38 rfl 1 rfl ?_
      refine q_iload_n (pc := 39) C d_Md_meter_39 rfl 2 rfl ?_
      refine q_iload_n (pc := 40) C d_Md_meter_40 rfl 3 rfl ?_
      refine q_iload (pc := 41) C d_Md_meter_41 4 rfl ?_
      refine q_callVIr (pc := 43) (st := []) (d := 43) C (m_Md_against hY h) mi_Md_against rfl (by decide) rfl wd_848 rfl rfl (Nat.le_of_ble_eq_true rfl) (by decide) (by decide) d_Md_meter_43 (fun u43 h => ?_)
      refine q_istore (pc := 46) [(5, .int u43), (0, .ref (ya Y 43)), (1, .int x1), (2, .int x2), (3, .int x3), (4, .int x4)] C d_Md_meter_46 (by decide) rfl ?_
      refine q_iload (pc := 48) C d_Md_meter_48 0 rfl ?_
      obtain ⟨h14, h15⟩ := h
      refine q_if_eq (pc := 50) 60 C d_Md_meter_50 (by decide) (fun hc => ?_) (fun hc => ?_)
      · have h := h14 hc
        refine q_aload_n (pc := 60) C d_Md_meter_60 rfl 1 rfl ?_
        refine q_get (pc := 61) (c := 43) (ci := 7) (k := 5) (v := .int (τ2 43 5)) C rfl (by decide) (by decide) wd_738 rfl d_Md_meter_61 ?_
        obtain ⟨h12, h13⟩ := h
        refine q_if_ne (pc := 64) 70 C d_Md_meter_64 (by decide) (fun hc => ?_) (fun hc => ?_)
        · have h := h12 hc
          refine q_bipush (pc := 70) (v := 60) C d_Md_meter_70 (by decide) ?_
          refine q_iload_n (pc := 72) C d_Md_meter_72 rfl 2 rfl ?_
          refine q_imul (pc := 73) C d_Md_meter_73 ?_
          refine q_iload_n (pc := 74) C d_Md_meter_74 rfl 4 rfl ?_
          refine q_iadd (pc := 75) C d_Md_meter_75 ?_
          refine q_nmi (fun y6_76 ey6_76 => ?_)
          replace h := h y6_76 ey6_76
          refine q_istore (pc := 76) [(6, .int y6_76), (5, .int u43), (0, .ref (ya Y 43)), (1, .int x1), (2, .int x2), (3, .int x3), (4, .int x4)] C d_Md_meter_76 (by decide) rfl ?_
          refine q_iconst (pc := 78) (v := 0) C d_Md_meter_78 (by decide) ?_
          refine q_istore (pc := 79) [(7, .int (0 : Int32)), (6, .int y6_76), (5, .int u43), (0, .ref (ya Y 43)), (1, .int x1), (2, .int x2), (3, .int x3), (4, .int x4)] C d_Md_meter_79 (by decide) rfl ?_
          obtain ⟨n11, h⟩ := h
          refine q_sub [(0, .ref (ya Y 43)), (4, .int x4), (6, .int y6_76), (7, .int (0 : Int32))] [3, 7, 1, 0] rfl ?_
          exact t_Md_meter_81 hY C hr n11 (0 : Int32) τ2 h
        have h := h13 hc
        refine q_bipush (pc := 67) (v := -3) C d_Md_meter_67 (by decide) ?_
        exact q_iret (pc := 69) C hr d_Md_meter_69 h
      have h := h15 hc
      refine q_aload_n (pc := 53) C d_Md_meter_53 rfl 1 rfl ?_
      refine q_iload (pc := 54) C d_Md_meter_54 0 rfl ?_
      refine q_callVI (pc := 56) (st := []) (d := 43) C (m_Md_fails hY h) mi_Md_fails rfl (by decide) rfl wd_852 rfl rfl (Nat.le_of_ble_eq_true rfl) (by decide) (by decide) d_Md_meter_56 (fun u56 τ56 h => ?_)
      exact q_iret (pc := 59) C hr d_Md_meter_59 h
    have h := h17 hc
    refine q_bipush (pc := 34) (v := -2) C d_Md_meter_34 (by decide) ?_
    exact q_iret (pc := 36) C hr d_Md_meter_36 h
  have h := h21 hc
  refine q_iconst (pc := 12) (v := -1) C d_Md_meter_12 (by decide) ?_
  exact q_iret (pc := 13) C hr d_Md_meter_13 h
theorem d_Md_isTime_0 : decode prog_9_method_9_code 0 = .ok (.iload_n 1, 1) := by decide +kernel
theorem d_Md_isTime_1 : decode prog_9_method_9_code 1 = .ok (.i2l, 1) := by decide +kernel
theorem d_Md_isTime_2 : decode prog_9_method_9_code 2 = .ok (.lconst 0, 1) := by decide +kernel
theorem d_Md_isTime_3 : decode prog_9_method_9_code 3 = .ok (.aload_n 0, 1) := by decide +kernel
theorem d_Md_isTime_4 : decode prog_9_method_9_code 4 = .ok (.getfield 96, 3) := by decide +kernel
theorem d_Md_isTime_7 : decode prog_9_method_9_code 7 = .ok (.iconst 1, 1) := by decide +kernel
theorem d_Md_isTime_8 : decode prog_9_method_9_code 8 = .ok (.isub, 1) := by decide +kernel
theorem d_Md_isTime_9 : decode prog_9_method_9_code 9 = .ok (.i2l, 1) := by decide +kernel
theorem d_Md_isTime_10 : decode prog_9_method_9_code 10 = .ok (.invokestatic 87, 3) := by decide +kernel
theorem d_Md_isTime_13 : decode prog_9_method_9_code 13 = .ok (.ireturn, 1) := by decide +kernel
abbrev y_Md_isTime : MethodName := ⟨"LoadCyclesModel", "isTime", "(I)Z"⟩
theorem mi_Md_isTime : miV y_Md_isTime prog_9_method_9_code 2 (some .boolean) 1 := ⟨wd_905, wd_37, wd_72, wd_906, by decide, by decide, by decide +kernel⟩
def w_Md_isTime (x1 : Int32) (σ : Sg) (K : Int32 → Prop) : Prop :=
  w_Md_within (x1.toInt64) (0 : Int64) (((σ 43 9) - (1 : Int32)).toInt64) σ (fun u10 => (bz u10 ∧ K u10))
set_option maxHeartbeats 4000000 in
theorem m_Md_isTime {Y : Yx} {x1 : Int32} {σ : Sg} {K : Int32 → Prop} (hY : YD Y)  (h : w_Md_isTime x1 σ K) : MetI Y y_Md_isTime prog_9_method_9_code 2 (.boolean) 1 25 [.ref (ya Y 43), .int x1] σ (fun r τ => τ = σ ∧ K r) := by
  refine met_I [(0, .ref (ya Y 43)), (1, .int x1)] hY (by decide) (Nat.le_of_ble_eq_true rfl) rfl (fun X C hr => ?_)
  unfold w_Md_isTime at h
  refine q_iload_n (pc := 0) C d_Md_isTime_0 rfl 1 rfl ?_
  refine q_i2l (pc := 1) C d_Md_isTime_1 ?_
  refine q_lconst (pc := 2) (v := 0) C d_Md_isTime_2 (by decide) ?_
  refine q_aload_n (pc := 3) C d_Md_isTime_3 rfl 0 rfl ?_
  refine q_get (pc := 4) (c := 43) (ci := 7) (k := 9) (v := .int (σ 43 9)) C rfl (by decide) (by decide) wd_742 rfl d_Md_isTime_4 ?_
  refine q_iconst (pc := 7) (v := 1) C d_Md_isTime_7 (by decide) ?_
  refine q_isub (pc := 8) C d_Md_isTime_8 ?_
  refine q_i2l (pc := 9) C d_Md_isTime_9 ?_
  refine q_callSIr (pc := 10) (st := []) C (m_Md_within hY h) mi_Md_within wd_841 rfl rfl (Nat.le_of_ble_eq_true rfl) (by decide) (by decide) d_Md_isTime_10 (fun u10 h => ?_)
  obtain ⟨h1, h⟩ := h
  exact q_zret (pc := 13) C hr d_Md_isTime_13 h1 ⟨rfl, h⟩
theorem d_Md_value_0 : decode prog_9_method_19_code 0 = .ok (.aload_n 0, 1) := by decide +kernel
theorem d_Md_value_1 : decode prog_9_method_19_code 1 = .ok (.iload_n 1, 1) := by decide +kernel
theorem d_Md_value_2 : decode prog_9_method_19_code 2 = .ok (.invokevirtual 166, 3) := by decide +kernel
theorem d_Md_value_5 : decode prog_9_method_19_code 5 = .ok (.ifCond .eq 12, 3) := by decide +kernel
theorem d_Md_value_8 : decode prog_9_method_19_code 8 = .ok (.aload_n 0, 1) := by decide +kernel
theorem d_Md_value_9 : decode prog_9_method_19_code 9 = .ok (.getfield 28, 3) := by decide +kernel
theorem d_Md_value_12 : decode prog_9_method_19_code 12 = .ok (.iload_n 1, 1) := by decide +kernel
theorem d_Md_value_13 : decode prog_9_method_19_code 13 = .ok (.iaload, 1) := by decide +kernel
theorem d_Md_value_14 : decode prog_9_method_19_code 14 = .ok (.goto 4, 3) := by decide +kernel
theorem d_Md_value_17 : decode prog_9_method_19_code 17 = .ok (.iconst (-1), 1) := by decide +kernel
theorem d_Md_value_18 : decode prog_9_method_19_code 18 = .ok (.ireturn, 1) := by decide +kernel
abbrev y_Md_value : MethodName := ⟨"LoadCyclesModel", "value", "(I)I"⟩
theorem mi_Md_value : miV y_Md_value prog_9_method_19_code 2 (some .int) 1 := ⟨wd_900, wd_901, wd_72, wd_902, by decide, by decide, by decide +kernel⟩
def w_Md_value (x1 : Int32) (σ : Sg) (K : Int32 → Prop) : Prop :=
  w_Md_isTime x1 σ (fun u2 => ((u2 = 0 → K (-1 : Int32)) ∧ (¬ u2 = 0 → (vp_in x1 20 ∧ K (σ 50 x1.toNatClampNeg)))))
set_option maxHeartbeats 4000000 in
theorem m_Md_value {Y : Yx} {x1 : Int32} {σ : Sg} {K : Int32 → Prop} (hY : YD Y)  (h : w_Md_value x1 σ K) : MetI Y y_Md_value prog_9_method_19_code 2 (.int) 2 46 [.ref (ya Y 43), .int x1] σ (fun r τ => τ = σ ∧ K r) := by
  refine met_I [(0, .ref (ya Y 43)), (1, .int x1)] hY (by decide) (Nat.le_of_ble_eq_true rfl) rfl (fun X C hr => ?_)
  unfold w_Md_value at h
  refine q_aload_n (pc := 0) C d_Md_value_0 rfl 0 rfl ?_
  refine q_iload_n (pc := 1) C d_Md_value_1 rfl 1 rfl ?_
  refine q_callVIr (pc := 2) (st := []) (d := 43) C (m_Md_isTime hY h) mi_Md_isTime rfl (by decide) rfl wd_903 rfl rfl (Nat.le_of_ble_eq_true rfl) (by decide) (by decide) d_Md_value_2 (fun u2 h => ?_)
  obtain ⟨h2, h3⟩ := h
  refine q_if_eq (pc := 5) 17 C d_Md_value_5 (by decide) (fun hc => ?_) (fun hc => ?_)
  · have h := h2 hc
    refine q_iconst (pc := 17) (v := -1) C d_Md_value_17 (by decide) ?_
    exact q_iret (pc := 18) C hr d_Md_value_18 ⟨rfl, h⟩
  have h := h3 hc
  refine q_aload_n (pc := 8) C d_Md_value_8 rfl 0 rfl ?_
  refine q_get (pc := 9) (c := 43) (ci := 7) (k := 10) (v := .ref (ya Y 50)) C rfl (by decide) (by decide) wd_743 rfl d_Md_value_9 ?_
  refine q_iload_n (pc := 12) C d_Md_value_12 rfl 1 rfl ?_
  obtain ⟨h1, h⟩ := h
  refine q_iald (pc := 13) (c := 50) C ⟨rfl, rfl⟩ h1 d_Md_value_13 ?_
  refine q_goto (pc := 14) 18 C d_Md_value_14 (by decide) ?_
  exact q_iret (pc := 18) C hr d_Md_value_18 ⟨rfl, h⟩
theorem d_Md_canBase_0 : decode prog_9_method_20_code 0 = .ok (.iconst 0, 1) := by decide +kernel
theorem d_Md_canBase_1 : decode prog_9_method_20_code 1 = .ok (.istore_n 2, 1) := by decide +kernel
theorem d_Md_canBase_2 : decode prog_9_method_20_code 2 = .ok (.iload_n 2, 1) := by decide +kernel
theorem d_Md_canBase_3 : decode prog_9_method_20_code 3 = .ok (.aload_n 0, 1) := by decide +kernel
theorem d_Md_canBase_4 : decode prog_9_method_20_code 4 = .ok (.getfield 96, 3) := by decide +kernel
theorem d_Md_canBase_7 : decode prog_9_method_20_code 7 = .ok (.if_icmp .ge 21, 3) := by decide +kernel
theorem d_Md_canBase_10 : decode prog_9_method_20_code 10 = .ok (.aload_n 0, 1) := by decide +kernel
theorem d_Md_canBase_11 : decode prog_9_method_20_code 11 = .ok (.getfield 28, 3) := by decide +kernel
theorem d_Md_canBase_14 : decode prog_9_method_20_code 14 = .ok (.iload_n 2, 1) := by decide +kernel
theorem d_Md_canBase_15 : decode prog_9_method_20_code 15 = .ok (.iaload, 1) := by decide +kernel
theorem d_Md_canBase_16 : decode prog_9_method_20_code 16 = .ok (.iload_n 1, 1) := by decide +kernel
theorem d_Md_canBase_17 : decode prog_9_method_20_code 17 = .ok (.if_icmp .ge 5, 3) := by decide +kernel
theorem d_Md_canBase_20 : decode prog_9_method_20_code 20 = .ok (.iconst 0, 1) := by decide +kernel
theorem d_Md_canBase_21 : decode prog_9_method_20_code 21 = .ok (.ireturn, 1) := by decide +kernel
theorem d_Md_canBase_22 : decode prog_9_method_20_code 22 = .ok (.iinc 2 1, 3) := by decide +kernel
theorem d_Md_canBase_25 : decode prog_9_method_20_code 25 = .ok (.goto (-23), 3) := by decide +kernel
theorem d_Md_canBase_28 : decode prog_9_method_20_code 28 = .ok (.iconst 1, 1) := by decide +kernel
theorem d_Md_canBase_29 : decode prog_9_method_20_code 29 = .ok (.ireturn, 1) := by decide +kernel
abbrev y_Md_canBase : MethodName := ⟨"LoadCyclesModel", "canBase", "(I)Z"⟩
theorem mi_Md_canBase : miV y_Md_canBase prog_9_method_20_code 3 (some .boolean) 1 := ⟨wd_913, wd_38, wd_72, wd_914, by decide, by decide, by decide +kernel⟩
def L_Md_canBase_2 (x1 : Int32) (σ : Sg) (K : Int32 → Prop) : Nat → Int32 → Prop
  | 0, _ => False
  | n + 1, v2 =>
    (((σ 43 9) ≤ v2 → K (1 : Int32)) ∧ (¬ (σ 43 9) ≤ v2 → (vp_in v2 20 ∧ ((x1 ≤ (σ 50 v2.toNatClampNeg) → L_Md_canBase_2 x1 σ K n (v2 + (1 : Int32))) ∧ (¬ x1 ≤ (σ 50 v2.toNatClampNeg) → K (0 : Int32))))))
theorem t_Md_canBase_2 {X : Bx} {Y : Yx} {x1 : Int32} {σ : Sg} {K : Int32 → Prop}  (hY : YD Y) (C : Cx X Y prog_9_method_20_code 3 "LoadCyclesModel" 0 0) (hr : (xh X).sig.returnType = some .boolean)  : ∀ (n : Nat) (v2 : Int32), L_Md_canBase_2 x1 σ K n v2 → St X Y 3 (QI X Y (fun r τ => τ = σ ∧ K r)) 2 [(0, .ref (ya Y 43)), (1, .int x1), (2, .int v2)] [] σ := by
  intro n
  induction n with
  | zero => intro v2 h; exact h.elim
  | succ n ih =>
    intro v2 h
    unfold L_Md_canBase_2 at h
    refine q_iload_n (pc := 2) C d_Md_canBase_2 rfl 2 rfl ?_
    refine q_aload_n (pc := 3) C d_Md_canBase_3 rfl 0 rfl ?_
    refine q_get (pc := 4) (c := 43) (ci := 7) (k := 9) (v := .int (σ 43 9)) C rfl (by decide) (by decide) wd_742 rfl d_Md_canBase_4 ?_
    obtain ⟨h4, h5⟩ := h
    refine q_icmp_ge (pc := 7) 28 C d_Md_canBase_7 (by decide) (fun hc => ?_) (fun hc => ?_)
    · have h := h4 hc
      refine q_iconst (pc := 28) (v := 1) C d_Md_canBase_28 (by decide) ?_
      exact q_zret (pc := 29) C hr d_Md_canBase_29 bz1 ⟨rfl, h⟩
    have h := h5 hc
    refine q_aload_n (pc := 10) C d_Md_canBase_10 rfl 0 rfl ?_
    refine q_get (pc := 11) (c := 43) (ci := 7) (k := 10) (v := .ref (ya Y 50)) C rfl (by decide) (by decide) wd_743 rfl d_Md_canBase_11 ?_
    refine q_iload_n (pc := 14) C d_Md_canBase_14 rfl 2 rfl ?_
    obtain ⟨h1, h⟩ := h
    refine q_iald (pc := 15) (c := 50) C ⟨rfl, rfl⟩ h1 d_Md_canBase_15 ?_
    refine q_iload_n (pc := 16) C d_Md_canBase_16 rfl 1 rfl ?_
    obtain ⟨h2, h3⟩ := h
    refine q_icmp_ge (pc := 17) 22 C d_Md_canBase_17 (by decide) (fun hc => ?_) (fun hc => ?_)
    · have h := h2 hc
      refine q_iinc (pc := 22) (v2 + (1 : Int32)) [(2, .int (v2 + (1 : Int32))), (0, .ref (ya Y 43)), (1, .int x1)] C d_Md_canBase_22 2 rfl rfl (by decide) rfl ?_
      refine q_goto (pc := 25) 2 C d_Md_canBase_25 (by decide) ?_
      refine q_sub [(0, .ref (ya Y 43)), (1, .int x1), (2, .int (v2 + (1 : Int32)))] [1, 2, 0] rfl ?_
      exact ih (v2 + (1 : Int32)) h
    have h := h3 hc
    refine q_iconst (pc := 20) (v := 0) C d_Md_canBase_20 (by decide) ?_
    exact q_zret (pc := 21) C hr d_Md_canBase_21 bz0 ⟨rfl, h⟩
def w_Md_canBase (x1 : Int32) (σ : Sg) (K : Int32 → Prop) : Prop :=
  (∃ n6 : Nat, L_Md_canBase_2 x1 σ K n6 (0 : Int32))
set_option maxHeartbeats 4000000 in
theorem m_Md_canBase {Y : Yx} {x1 : Int32} {σ : Sg} {K : Int32 → Prop} (hY : YD Y)  (h : w_Md_canBase x1 σ K) : MetI Y y_Md_canBase prog_9_method_20_code 3 (.boolean) 0 0 [.ref (ya Y 43), .int x1] σ (fun r τ => τ = σ ∧ K r) := by
  refine met_I [(0, .ref (ya Y 43)), (1, .int x1)] hY (by decide) (Nat.le_of_ble_eq_true rfl) rfl (fun X C hr => ?_)
  unfold w_Md_canBase at h
  refine q_iconst (pc := 0) (v := 0) C d_Md_canBase_0 (by decide) ?_
  refine q_istore_n (pc := 1) [(2, .int (0 : Int32)), (0, .ref (ya Y 43)), (1, .int x1)] C d_Md_canBase_1 rfl (by decide) rfl ?_
  obtain ⟨n6, h⟩ := h
  refine q_sub [(0, .ref (ya Y 43)), (1, .int x1), (2, .int (0 : Int32))] [1, 2, 0] rfl ?_
  exact t_Md_canBase_2 hY C hr n6 (0 : Int32) h
theorem d_Md_base_0 : decode prog_9_method_21_code 0 = .ok (.iload_n 1, 1) := by decide +kernel
theorem d_Md_base_1 : decode prog_9_method_21_code 1 = .ok (.i2l, 1) := by decide +kernel
theorem d_Md_base_2 : decode prog_9_method_21_code 2 = .ok (.lconst 0, 1) := by decide +kernel
theorem d_Md_base_3 : decode prog_9_method_21_code 3 = .ok (.ldc2_w 164, 3) := by decide +kernel
theorem d_Md_base_6 : decode prog_9_method_21_code 6 = .ok (.invokestatic 87, 3) := by decide +kernel
theorem d_Md_base_9 : decode prog_9_method_21_code 9 = .ok (.ifCond .ne 6, 3) := by decide +kernel
theorem d_Md_base_12 : decode prog_9_method_21_code 12 = .ok (.bipush (-2), 2) := by decide +kernel
theorem d_Md_base_14 : decode prog_9_method_21_code 14 = .ok (.ireturn, 1) := by decide +kernel
theorem d_Md_base_15 : decode prog_9_method_21_code 15 = .ok (.aload_n 0, 1) := by decide +kernel
theorem d_Md_base_16 : decode prog_9_method_21_code 16 = .ok (.getfield 93, 3) := by decide +kernel
theorem d_Md_base_19 : decode prog_9_method_21_code 19 = .ok (.ifCond .eq 11, 3) := by decide +kernel
theorem d_Md_base_22 : decode prog_9_method_21_code 22 = .ok (.aload_n 0, 1) := by decide +kernel
theorem d_Md_base_23 : decode prog_9_method_21_code 23 = .ok (.iload_n 1, 1) := by decide +kernel
theorem d_Md_base_24 : decode prog_9_method_21_code 24 = .ok (.invokevirtual 169, 3) := by decide +kernel
theorem d_Md_base_27 : decode prog_9_method_21_code 27 = .ok (.ifCond .ne 6, 3) := by decide +kernel
theorem d_Md_base_30 : decode prog_9_method_21_code 30 = .ok (.bipush (-3), 2) := by decide +kernel
theorem d_Md_base_32 : decode prog_9_method_21_code 32 = .ok (.ireturn, 1) := by decide +kernel
theorem d_Md_base_33 : decode prog_9_method_21_code 33 = .ok (.aload_n 0, 1) := by decide +kernel
theorem d_Md_base_34 : decode prog_9_method_21_code 34 = .ok (.getfield 137, 3) := by decide +kernel
theorem d_Md_base_37 : decode prog_9_method_21_code 37 = .ok (.istore_n 2, 1) := by decide +kernel
theorem d_Md_base_38 : decode prog_9_method_21_code 38 = .ok (.aload_n 0, 1) := by decide +kernel
theorem d_Md_base_39 : decode prog_9_method_21_code 39 = .ok (.iload_n 1, 1) := by decide +kernel
theorem d_Md_base_40 : decode prog_9_method_21_code 40 = .ok (.putfield 137, 3) := by decide +kernel
theorem d_Md_base_43 : decode prog_9_method_21_code 43 = .ok (.aload_n 0, 1) := by decide +kernel
theorem d_Md_base_44 : decode prog_9_method_21_code 44 = .ok (.iconst 0, 1) := by decide +kernel
theorem d_Md_base_45 : decode prog_9_method_21_code 45 = .ok (.putfield 143, 3) := by decide +kernel
theorem d_Md_base_48 : decode prog_9_method_21_code 48 = .ok (.iload_n 2, 1) := by decide +kernel
theorem d_Md_base_49 : decode prog_9_method_21_code 49 = .ok (.ireturn, 1) := by decide +kernel
abbrev y_Md_base : MethodName := ⟨"LoadCyclesModel", "base", "(I)I"⟩
theorem mi_Md_base : miV y_Md_base prog_9_method_21_code 3 (some .int) 1 := ⟨wd_908, wd_909, wd_72, wd_910, by decide, by decide, by decide +kernel⟩
def w_Md_base (x1 : Int32) (σ : Sg) (K : Int32 → Sg → Prop) : Prop :=
  w_Md_within (x1.toInt64) (0 : Int64) (99 : Int64) σ (fun u6 => ((¬ u6 = 0 → (((σ 43 5) = 0 → K (-3 : Int32) σ) ∧ (¬ (σ 43 5) = 0 → w_Md_canBase x1 σ (fun u24 => ((¬ u24 = 0 → (∀ y2_37 : Int32, y2_37 = (σ 43 11) → (∀ τ40 : Sg, τ40 = s2 σ 43 11 x1 → (∀ τ45 : Sg, τ45 = s2 τ40 43 17 (0 : Int32) → K y2_37 τ45)))) ∧ (u24 = 0 → K (-3 : Int32) σ)))))) ∧ (u6 = 0 → K (-2 : Int32) σ)))
set_option maxHeartbeats 4000000 in
theorem m_Md_base {Y : Yx} {x1 : Int32} {σ : Sg} {K : Int32 → Sg → Prop} (hY : YD Y)  (h : w_Md_base x1 σ K) : MetI Y y_Md_base prog_9_method_21_code 3 (.int) 1 25 [.ref (ya Y 43), .int x1] σ K := by
  refine met_I [(0, .ref (ya Y 43)), (1, .int x1)] hY (by decide) (Nat.le_of_ble_eq_true rfl) rfl (fun X C hr => ?_)
  unfold w_Md_base at h
  refine q_iload_n (pc := 0) C d_Md_base_0 rfl 1 rfl ?_
  refine q_i2l (pc := 1) C d_Md_base_1 ?_
  refine q_lconst (pc := 2) (v := 0) C d_Md_base_2 (by decide) ?_
  refine q_ldc2 (pc := 3) C wd_898 d_Md_base_3 ?_
  refine q_callSIr (pc := 6) (st := []) C (m_Md_within hY h) mi_Md_within wd_841 rfl rfl (Nat.le_of_ble_eq_true rfl) (by decide) (by decide) d_Md_base_6 (fun u6 h => ?_)
  obtain ⟨h5, h6⟩ := h
  refine q_if_ne (pc := 9) 15 C d_Md_base_9 (by decide) (fun hc => ?_) (fun hc => ?_)
  · have h := h5 hc
    refine q_aload_n (pc := 15) C d_Md_base_15 rfl 0 rfl ?_
    refine q_get (pc := 16) (c := 43) (ci := 7) (k := 5) (v := .int (σ 43 5)) C rfl (by decide) (by decide) wd_738 rfl d_Md_base_16 ?_
    obtain ⟨h3, h4⟩ := h
    refine q_if_eq (pc := 19) 30 C d_Md_base_19 (by decide) (fun hc => ?_) (fun hc => ?_)
    · have h := h3 hc
      refine q_bipush (pc := 30) (v := -3) C d_Md_base_30 (by decide) ?_
      exact q_iret (pc := 32) C hr d_Md_base_32 h
    have h := h4 hc
    refine q_aload_n (pc := 22) C d_Md_base_22 rfl 0 rfl ?_
    refine q_iload_n (pc := 23) C d_Md_base_23 rfl 1 rfl ?_
    refine q_callVIr (pc := 24) (st := []) (d := 43) C (m_Md_canBase hY h) mi_Md_canBase rfl (by decide) rfl wd_911 rfl rfl (Nat.le_of_ble_eq_true rfl) (by decide) (by decide) d_Md_base_24 (fun u24 h => ?_)
    obtain ⟨h1, h2⟩ := h
    refine q_if_ne (pc := 27) 33 C d_Md_base_27 (by decide) (fun hc => ?_) (fun hc => ?_)
    · have h := h1 hc
      refine q_aload_n (pc := 33) C d_Md_base_33 rfl 0 rfl ?_
      refine q_get (pc := 34) (c := 43) (ci := 7) (k := 11) (v := .int (σ 43 11)) C rfl (by decide) (by decide) wd_744 rfl d_Md_base_34 ?_
      refine q_nmi (fun y2_37 ey2_37 => ?_)
      replace h := h y2_37 ey2_37
      refine q_istore_n (pc := 37) [(2, .int y2_37), (0, .ref (ya Y 43)), (1, .int x1)] C d_Md_base_37 rfl (by decide) rfl ?_
      refine q_aload_n (pc := 38) C d_Md_base_38 rfl 1 rfl ?_
      refine q_iload_n (pc := 39) C d_Md_base_39 rfl 2 rfl ?_
      refine q_put (pc := 40) (c := 43) (ci := 7) (k := 11) C rfl (by decide) (by decide) wd_744 rfl rfl rfl fs_7_11 d_Md_base_40 ?_
      refine q_nms (fun τ40 eτ40 => ?_)
      replace h := h τ40 eτ40
      refine q_aload_n (pc := 43) C d_Md_base_43 rfl 1 rfl ?_
      refine q_iconst (pc := 44) (v := 0) C d_Md_base_44 (by decide) ?_
      refine q_put (pc := 45) (c := 43) (ci := 7) (k := 17) C rfl (by decide) (by decide) wd_750 rfl rfl rfl fs_7_17 d_Md_base_45 ?_
      refine q_nms (fun τ45 eτ45 => ?_)
      replace h := h τ45 eτ45
      refine q_iload_n (pc := 48) C d_Md_base_48 rfl 0 rfl ?_
      exact q_iret (pc := 49) C hr d_Md_base_49 h
    have h := h2 hc
    refine q_bipush (pc := 30) (v := -3) C d_Md_base_30 (by decide) ?_
    exact q_iret (pc := 32) C hr d_Md_base_32 h
  have h := h6 hc
  refine q_bipush (pc := 12) (v := -2) C d_Md_base_12 (by decide) ?_
  exact q_iret (pc := 14) C hr d_Md_base_14 h
theorem d_Md_digit_0 : decode prog_9_method_22_code 0 = .ok (.iload_n 0, 1) := by decide +kernel
theorem d_Md_digit_1 : decode prog_9_method_22_code 1 = .ok (.iconst 2, 1) := by decide +kernel
theorem d_Md_digit_2 : decode prog_9_method_22_code 2 = .ok (.iconst 3, 1) := by decide +kernel
theorem d_Md_digit_3 : decode prog_9_method_22_code 3 = .ok (.iload_n 1, 1) := by decide +kernel
theorem d_Md_digit_4 : decode prog_9_method_22_code 4 = .ok (.isub, 1) := by decide +kernel
theorem d_Md_digit_5 : decode prog_9_method_22_code 5 = .ok (.imul, 1) := by decide +kernel
theorem d_Md_digit_6 : decode prog_9_method_22_code 6 = .ok (.ishr, 1) := by decide +kernel
theorem d_Md_digit_7 : decode prog_9_method_22_code 7 = .ok (.iconst 3, 1) := by decide +kernel
theorem d_Md_digit_8 : decode prog_9_method_22_code 8 = .ok (.iand, 1) := by decide +kernel
theorem d_Md_digit_9 : decode prog_9_method_22_code 9 = .ok (.ireturn, 1) := by decide +kernel
abbrev y_Md_digit : MethodName := ⟨"LoadCyclesModel", "digit", "(II)I"⟩
theorem mi_Md_digit : miS y_Md_digit prog_9_method_22_code 2 (some .int) 2 := ⟨wd_932, wd_72, wd_933, by decide, by decide, by decide +kernel⟩
def w_Md_digit (x0 : Int32) (x1 : Int32) (σ : Sg) (K : Int32 → Prop) : Prop :=
  K ((x0 >>> (((2 : Int32) * ((3 : Int32) - x1)) &&& 31)) &&& (3 : Int32))
set_option maxHeartbeats 4000000 in
theorem m_Md_digit {Y : Yx} {x0 : Int32} {x1 : Int32} {σ : Sg} {K : Int32 → Prop} (hY : YD Y)  (h : w_Md_digit x0 x1 σ K) : MetI Y y_Md_digit prog_9_method_22_code 2 (.int) 0 0 [.int x0, .int x1] σ (fun r τ => τ = σ ∧ K r) := by
  refine met_I [(0, .int x0), (1, .int x1)] hY (by decide) (Nat.le_of_ble_eq_true rfl) rfl (fun X C hr => ?_)
  unfold w_Md_digit at h
  refine q_iload_n (pc := 0) C d_Md_digit_0 rfl 0 rfl ?_
  refine q_iconst (pc := 1) (v := 2) C d_Md_digit_1 (by decide) ?_
  refine q_iconst (pc := 2) (v := 3) C d_Md_digit_2 (by decide) ?_
  refine q_iload_n (pc := 3) C d_Md_digit_3 rfl 1 rfl ?_
  refine q_isub (pc := 4) C d_Md_digit_4 ?_
  refine q_imul (pc := 5) C d_Md_digit_5 ?_
  refine q_ishr (pc := 6) C d_Md_digit_6 ?_
  refine q_iconst (pc := 7) (v := 3) C d_Md_digit_7 (by decide) ?_
  refine q_iand (pc := 8) C d_Md_digit_8 ?_
  exact q_iret (pc := 9) C hr d_Md_digit_9 ⟨rfl, h⟩
theorem d_Md_powerOfRow_0 : decode prog_9_method_23_code 0 = .ok (.iconst 0, 1) := by decide +kernel
theorem d_Md_powerOfRow_1 : decode prog_9_method_23_code 1 = .ok (.istore_n 2, 1) := by decide +kernel
theorem d_Md_powerOfRow_2 : decode prog_9_method_23_code 2 = .ok (.iconst 0, 1) := by decide +kernel
theorem d_Md_powerOfRow_3 : decode prog_9_method_23_code 3 = .ok (.istore_n 3, 1) := by decide +kernel
theorem d_Md_powerOfRow_4 : decode prog_9_method_23_code 4 = .ok (.iload_n 3, 1) := by decide +kernel
theorem d_Md_powerOfRow_5 : decode prog_9_method_23_code 5 = .ok (.aload_n 0, 1) := by decide +kernel
theorem d_Md_powerOfRow_6 : decode prog_9_method_23_code 6 = .ok (.getfield 93, 3) := by decide +kernel
theorem d_Md_powerOfRow_9 : decode prog_9_method_23_code 9 = .ok (.if_icmp .ge 48, 3) := by decide +kernel
theorem d_Md_powerOfRow_12 : decode prog_9_method_23_code 12 = .ok (.iload_n 1, 1) := by decide +kernel
theorem d_Md_powerOfRow_13 : decode prog_9_method_23_code 13 = .ok (.iload_n 3, 1) := by decide +kernel
theorem d_Md_powerOfRow_14 : decode prog_9_method_23_code 14 = .ok (.invokestatic 172, 3) := by decide +kernel
theorem d_Md_powerOfRow_17 : decode prog_9_method_23_code 17 = .ok (.istore 4, 2) := by decide +kernel
theorem d_Md_powerOfRow_19 : decode prog_9_method_23_code 19 = .ok (.iload_n 2, 1) := by decide +kernel
theorem d_Md_powerOfRow_20 : decode prog_9_method_23_code 20 = .ok (.iload 4, 2) := by decide +kernel
theorem d_Md_powerOfRow_22 : decode prog_9_method_23_code 22 = .ok (.ifCond .eq 14, 3) := by decide +kernel
theorem d_Md_powerOfRow_25 : decode prog_9_method_23_code 25 = .ok (.iload 4, 2) := by decide +kernel
theorem d_Md_powerOfRow_27 : decode prog_9_method_23_code 27 = .ok (.aload_n 0, 1) := by decide +kernel
theorem d_Md_powerOfRow_28 : decode prog_9_method_23_code 28 = .ok (.getfield 22, 3) := by decide +kernel
theorem d_Md_powerOfRow_31 : decode prog_9_method_23_code 31 = .ok (.iload_n 3, 1) := by decide +kernel
theorem d_Md_powerOfRow_32 : decode prog_9_method_23_code 32 = .ok (.iaload, 1) := by decide +kernel
theorem d_Md_powerOfRow_33 : decode prog_9_method_23_code 33 = .ok (.if_icmp .le 7, 3) := by decide +kernel
theorem d_Md_powerOfRow_36 : decode prog_9_method_23_code 36 = .ok (.iconst 0, 1) := by decide +kernel
theorem d_Md_powerOfRow_37 : decode prog_9_method_23_code 37 = .ok (.goto 12, 3) := by decide +kernel
theorem d_Md_powerOfRow_40 : decode prog_9_method_23_code 40 = .ok (.aload_n 0, 1) := by decide +kernel
theorem d_Md_powerOfRow_41 : decode prog_9_method_23_code 41 = .ok (.iload_n 3, 1) := by decide +kernel
theorem d_Md_powerOfRow_42 : decode prog_9_method_23_code 42 = .ok (.iload 4, 2) := by decide +kernel
theorem d_Md_powerOfRow_44 : decode prog_9_method_23_code 44 = .ok (.iconst 1, 1) := by decide +kernel
theorem d_Md_powerOfRow_45 : decode prog_9_method_23_code 45 = .ok (.isub, 1) := by decide +kernel
theorem d_Md_powerOfRow_46 : decode prog_9_method_23_code 46 = .ok (.invokevirtual 158, 3) := by decide +kernel
theorem d_Md_powerOfRow_49 : decode prog_9_method_23_code 49 = .ok (.iadd, 1) := by decide +kernel
theorem d_Md_powerOfRow_50 : decode prog_9_method_23_code 50 = .ok (.istore_n 2, 1) := by decide +kernel
theorem d_Md_powerOfRow_51 : decode prog_9_method_23_code 51 = .ok (.iinc 3 1, 3) := by decide +kernel
theorem d_Md_powerOfRow_54 : decode prog_9_method_23_code 54 = .ok (.goto (-50), 3) := by decide +kernel
theorem d_Md_powerOfRow_57 : decode prog_9_method_23_code 57 = .ok (.iload_n 2, 1) := by decide +kernel
theorem d_Md_powerOfRow_58 : decode prog_9_method_23_code 58 = .ok (.ireturn, 1) := by decide +kernel
abbrev y_Md_powerOfRow : MethodName := ⟨"LoadCyclesModel", "powerOfRow", "(I)I"⟩
theorem mi_Md_powerOfRow : miV y_Md_powerOfRow prog_9_method_23_code 5 (some .int) 1 := ⟨wd_929, wd_41, wd_72, wd_930, by decide, by decide, by decide +kernel⟩
def B_Md_powerOfRow_49 (x1 : Int32) (σ : Sg) (K : Int32 → Prop) (r4 : Int32 → Int32 → Prop) (v3 : Int32) (vs0 : Int32) (vs1 : Int32) : Prop :=
  (∀ y2_50 : Int32, y2_50 = (vs1 + vs0) → r4 y2_50 (v3 + (1 : Int32)))
theorem t_Md_powerOfRow_49 {X : Bx} {Y : Yx} {x1 : Int32} {v3 : Int32} {vs0 : Int32} {vs1 : Int32} {σ : Sg} {K : Int32 → Prop} {r4 : Int32 → Int32 → Prop} (hY : YD Y) (C : Cx X Y prog_9_method_23_code 5 "LoadCyclesModel" 1 23) (hr : (xh X).sig.returnType = some .int)  (H4 : ∀ (v2 : Int32) (v3 : Int32), r4 v2 v3 → St X Y 5 (QI X Y (fun r τ => τ = σ ∧ K r)) 4 [(0, .ref (ya Y 43)), (1, .int x1), (2, .int v2), (3, .int v3)] [] σ)  (h : B_Md_powerOfRow_49 x1 σ K r4 v3 vs0 vs1) : St X Y 5 (QI X Y (fun r τ => τ = σ ∧ K r)) 49 [(0, .ref (ya Y 43)), (1, .int x1), (3, .int v3)] [.int vs0, .int vs1] σ := by
  unfold B_Md_powerOfRow_49 at h
  refine q_iadd (pc := 49) C d_Md_powerOfRow_49 ?_
  refine q_nmi (fun y2_50 ey2_50 => ?_)
  replace h := h y2_50 ey2_50
  refine q_istore_n (pc := 50) [(2, .int y2_50), (0, .ref (ya Y 43)), (1, .int x1), (3, .int v3)] C d_Md_powerOfRow_50 rfl (by decide) rfl ?_
  refine q_iinc (pc := 51) (v3 + (1 : Int32)) [(3, .int (v3 + (1 : Int32))), (2, .int y2_50), (0, .ref (ya Y 43)), (1, .int x1)] C d_Md_powerOfRow_51 3 rfl rfl (by decide) rfl ?_
  refine q_goto (pc := 54) 4 C d_Md_powerOfRow_54 (by decide) ?_
  refine q_sub [(0, .ref (ya Y 43)), (1, .int x1), (2, .int y2_50), (3, .int (v3 + (1 : Int32)))] [2, 3, 1, 0] rfl ?_
  exact H4 y2_50 (v3 + (1 : Int32)) h
def B_Md_powerOfRow_36 (x1 : Int32) (σ : Sg) (K : Int32 → Prop) (r4 : Int32 → Int32 → Prop) (v3 : Int32) (vs0 : Int32) : Prop :=
  B_Md_powerOfRow_49 x1 σ K r4 v3 (0 : Int32) vs0
theorem t_Md_powerOfRow_36 {X : Bx} {Y : Yx} {x1 : Int32} {v3 : Int32} {vs0 : Int32} {σ : Sg} {K : Int32 → Prop} {r4 : Int32 → Int32 → Prop} (hY : YD Y) (C : Cx X Y prog_9_method_23_code 5 "LoadCyclesModel" 1 23) (hr : (xh X).sig.returnType = some .int)  (H4 : ∀ (v2 : Int32) (v3 : Int32), r4 v2 v3 → St X Y 5 (QI X Y (fun r τ => τ = σ ∧ K r)) 4 [(0, .ref (ya Y 43)), (1, .int x1), (2, .int v2), (3, .int v3)] [] σ)  (h : B_Md_powerOfRow_36 x1 σ K r4 v3 vs0) : St X Y 5 (QI X Y (fun r τ => τ = σ ∧ K r)) 36 [(0, .ref (ya Y 43)), (1, .int x1), (3, .int v3)] [.int vs0] σ := by
  unfold B_Md_powerOfRow_36 at h
  refine q_iconst (pc := 36) (v := 0) C d_Md_powerOfRow_36 (by decide) ?_
  refine q_goto (pc := 37) 49 C d_Md_powerOfRow_37 (by decide) ?_
  exact t_Md_powerOfRow_49 hY C hr H4 h
def L_Md_powerOfRow_4 (x1 : Int32) (σ : Sg) (K : Int32 → Prop) : Nat → Int32 → Int32 → Prop
  | 0, _, _ => False
  | n + 1, v2, v3 =>
    (((σ 43 5) ≤ v3 → K v2) ∧ (¬ (σ 43 5) ≤ v3 → w_Md_digit x1 v3 σ (fun u14 => ((u14 = 0 → B_Md_powerOfRow_36 x1 σ K (fun a0 a1 => L_Md_powerOfRow_4 x1 σ K n a0 a1) v3 v2) ∧ (¬ u14 = 0 → (vp_in v3 4 ∧ ((u14 ≤ (σ 48 v3.toNatClampNeg) → w_Md_powerOf v3 (u14 - (1 : Int32)) σ (fun u46 => B_Md_powerOfRow_49 x1 σ K (fun a0 a1 => L_Md_powerOfRow_4 x1 σ K n a0 a1) v3 u46 v2)) ∧ (¬ u14 ≤ (σ 48 v3.toNatClampNeg) → B_Md_powerOfRow_36 x1 σ K (fun a0 a1 => L_Md_powerOfRow_4 x1 σ K n a0 a1) v3 v2))))))))
theorem t_Md_powerOfRow_4 {X : Bx} {Y : Yx} {x1 : Int32} {σ : Sg} {K : Int32 → Prop}  (hY : YD Y) (C : Cx X Y prog_9_method_23_code 5 "LoadCyclesModel" 1 23) (hr : (xh X).sig.returnType = some .int)  : ∀ (n : Nat) (v2 : Int32) (v3 : Int32), L_Md_powerOfRow_4 x1 σ K n v2 v3 → St X Y 5 (QI X Y (fun r τ => τ = σ ∧ K r)) 4 [(0, .ref (ya Y 43)), (1, .int x1), (2, .int v2), (3, .int v3)] [] σ := by
  intro n
  induction n with
  | zero => intro v2 v3 h; exact h.elim
  | succ n ih =>
    intro v2 v3 h
    unfold L_Md_powerOfRow_4 at h
    refine q_iload_n (pc := 4) C d_Md_powerOfRow_4 rfl 3 rfl ?_
    refine q_aload_n (pc := 5) C d_Md_powerOfRow_5 rfl 0 rfl ?_
    refine q_get (pc := 6) (c := 43) (ci := 7) (k := 5) (v := .int (σ 43 5)) C rfl (by decide) (by decide) wd_738 rfl d_Md_powerOfRow_6 ?_
    obtain ⟨h6, h7⟩ := h
    refine q_icmp_ge (pc := 9) 57 C d_Md_powerOfRow_9 (by decide) (fun hc => ?_) (fun hc => ?_)
    · have h := h6 hc
      refine q_iload_n (pc := 57) C d_Md_powerOfRow_57 rfl 2 rfl ?_
      exact q_iret (pc := 58) C hr d_Md_powerOfRow_58 ⟨rfl, h⟩
    have h := h7 hc
    refine q_iload_n (pc := 12) C d_Md_powerOfRow_12 rfl 1 rfl ?_
    refine q_iload_n (pc := 13) C d_Md_powerOfRow_13 rfl 3 rfl ?_
    refine q_callSIr (pc := 14) (st := []) C (m_Md_digit hY h) mi_Md_digit wd_931 rfl rfl (Nat.le_of_ble_eq_true rfl) (by decide) (by decide) d_Md_powerOfRow_14 (fun u14 h => ?_)
    refine q_istore (pc := 17) [(4, .int u14), (0, .ref (ya Y 43)), (1, .int x1), (2, .int v2), (3, .int v3)] C d_Md_powerOfRow_17 (by decide) rfl ?_
    refine q_iload_n (pc := 19) C d_Md_powerOfRow_19 rfl 3 rfl ?_
    refine q_iload (pc := 20) C d_Md_powerOfRow_20 0 rfl ?_
    obtain ⟨h4, h5⟩ := h
    refine q_if_eq (pc := 22) 36 C d_Md_powerOfRow_22 (by decide) (fun hc => ?_) (fun hc => ?_)
    · have h := h4 hc
      refine q_sub [(0, .ref (ya Y 43)), (1, .int x1), (3, .int v3)] [1, 2, 4] rfl ?_
      exact t_Md_powerOfRow_36 hY C hr ih h
    have h := h5 hc
    refine q_iload (pc := 25) C d_Md_powerOfRow_25 0 rfl ?_
    refine q_aload_n (pc := 27) C d_Md_powerOfRow_27 rfl 1 rfl ?_
    refine q_get (pc := 28) (c := 43) (ci := 7) (k := 7) (v := .ref (ya Y 48)) C rfl (by decide) (by decide) wd_740 rfl d_Md_powerOfRow_28 ?_
    refine q_iload_n (pc := 31) C d_Md_powerOfRow_31 rfl 4 rfl ?_
    obtain ⟨h1, h⟩ := h
    refine q_iald (pc := 32) (c := 48) C ⟨rfl, rfl⟩ h1 d_Md_powerOfRow_32 ?_
    obtain ⟨h2, h3⟩ := h
    refine q_icmp_le (pc := 33) 40 C d_Md_powerOfRow_33 (by decide) (fun hc => ?_) (fun hc => ?_)
    · have h := h2 hc
      refine q_aload_n (pc := 40) C d_Md_powerOfRow_40 rfl 1 rfl ?_
      refine q_iload_n (pc := 41) C d_Md_powerOfRow_41 rfl 4 rfl ?_
      refine q_iload (pc := 42) C d_Md_powerOfRow_42 0 rfl ?_
      refine q_iconst (pc := 44) (v := 1) C d_Md_powerOfRow_44 (by decide) ?_
      refine q_isub (pc := 45) C d_Md_powerOfRow_45 ?_
      refine q_callVIr (pc := 46) (st := [.int v2]) (d := 43) C (m_Md_powerOf hY h) mi_Md_powerOf rfl (by decide) rfl wd_885 rfl rfl (Nat.le_of_ble_eq_true rfl) (by decide) (by decide) d_Md_powerOfRow_46 (fun u46 h => ?_)
      refine q_sub [(0, .ref (ya Y 43)), (1, .int x1), (3, .int v3)] [1, 2, 4] rfl ?_
      exact t_Md_powerOfRow_49 hY C hr ih h
    have h := h3 hc
    refine q_sub [(0, .ref (ya Y 43)), (1, .int x1), (3, .int v3)] [1, 2, 4] rfl ?_
    exact t_Md_powerOfRow_36 hY C hr ih h
def w_Md_powerOfRow (x1 : Int32) (σ : Sg) (K : Int32 → Prop) : Prop :=
  (∃ n8 : Nat, L_Md_powerOfRow_4 x1 σ K n8 (0 : Int32) (0 : Int32))
set_option maxHeartbeats 4000000 in
theorem m_Md_powerOfRow {Y : Yx} {x1 : Int32} {σ : Sg} {K : Int32 → Prop} (hY : YD Y)  (h : w_Md_powerOfRow x1 σ K) : MetI Y y_Md_powerOfRow prog_9_method_23_code 5 (.int) 1 23 [.ref (ya Y 43), .int x1] σ (fun r τ => τ = σ ∧ K r) := by
  refine met_I [(0, .ref (ya Y 43)), (1, .int x1)] hY (by decide) (Nat.le_of_ble_eq_true rfl) rfl (fun X C hr => ?_)
  unfold w_Md_powerOfRow at h
  refine q_iconst (pc := 0) (v := 0) C d_Md_powerOfRow_0 (by decide) ?_
  refine q_istore_n (pc := 1) [(2, .int (0 : Int32)), (0, .ref (ya Y 43)), (1, .int x1)] C d_Md_powerOfRow_1 rfl (by decide) rfl ?_
  refine q_iconst (pc := 2) (v := 0) C d_Md_powerOfRow_2 (by decide) ?_
  refine q_istore_n (pc := 3) [(3, .int (0 : Int32)), (2, .int (0 : Int32)), (0, .ref (ya Y 43)), (1, .int x1)] C d_Md_powerOfRow_3 rfl (by decide) rfl ?_
  obtain ⟨n8, h⟩ := h
  refine q_sub [(0, .ref (ya Y 43)), (1, .int x1), (2, .int (0 : Int32)), (3, .int (0 : Int32))] [2, 3, 1, 0] rfl ?_
  exact t_Md_powerOfRow_4 hY C hr n8 (0 : Int32) (0 : Int32) h
