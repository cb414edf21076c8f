theorem q_Mo_take : (y_Mo_take.cls ≠ "java/lang/invoke/MethodHandle" ∧ y_Mo_take.cls ≠ "java/lang/invoke/VarHandle") ∧ (parseMethodDescriptor y_Mo_take.desc).map (fun d => d.parameters.length) = some 2 := by decide +kernel
theorem d_Mo_take_0 : decode prog_8_method_18_code 0 = .ok (.iconst (-1), 1) := by decide +kernel
theorem d_Mo_take_1 : decode prog_8_method_18_code 1 = .ok (.istore_n 3, 1) := by decide +kernel
theorem d_Mo_take_2 : decode prog_8_method_18_code 2 = .ok (.iconst 0, 1) := by decide +kernel
theorem d_Mo_take_3 : decode prog_8_method_18_code 3 = .ok (.istore 4, 2) := by decide +kernel
theorem d_Mo_take_5 : decode prog_8_method_18_code 5 = .ok (.iload 4, 2) := by decide +kernel
theorem d_Mo_take_7 : decode prog_8_method_18_code 7 = .ok (.aload_n 0, 1) := by decide +kernel
theorem d_Mo_take_8 : decode prog_8_method_18_code 8 = .ok (.getfield 45, 3) := by decide +kernel
theorem d_Mo_take_11 : decode prog_8_method_18_code 11 = .ok (.if_icmp .ge 78, 3) := by decide +kernel
theorem d_Mo_take_14 : decode prog_8_method_18_code 14 = .ok (.iload_n 3, 1) := by decide +kernel
theorem d_Mo_take_15 : decode prog_8_method_18_code 15 = .ok (.iconst (-1), 1) := by decide +kernel
theorem d_Mo_take_16 : decode prog_8_method_18_code 16 = .ok (.if_icmp .ne 73, 3) := by decide +kernel
theorem d_Mo_take_19 : decode prog_8_method_18_code 19 = .ok (.bipush 64, 2) := by decide +kernel
theorem d_Mo_take_21 : decode prog_8_method_18_code 21 = .ok (.iload 4, 2) := by decide +kernel
theorem d_Mo_take_23 : decode prog_8_method_18_code 23 = .ok (.imul, 1) := by decide +kernel
theorem d_Mo_take_24 : decode prog_8_method_18_code 24 = .ok (.istore 5, 2) := by decide +kernel
theorem d_Mo_take_26 : decode prog_8_method_18_code 26 = .ok (.iload 5, 2) := by decide +kernel
theorem d_Mo_take_28 : decode prog_8_method_18_code 28 = .ok (.bipush 64, 2) := by decide +kernel
theorem d_Mo_take_30 : decode prog_8_method_18_code 30 = .ok (.iload 4, 2) := by decide +kernel
theorem d_Mo_take_32 : decode prog_8_method_18_code 32 = .ok (.iconst 1, 1) := by decide +kernel
theorem d_Mo_take_33 : decode prog_8_method_18_code 33 = .ok (.iadd, 1) := by decide +kernel
theorem d_Mo_take_34 : decode prog_8_method_18_code 34 = .ok (.imul, 1) := by decide +kernel
theorem d_Mo_take_35 : decode prog_8_method_18_code 35 = .ok (.if_icmp .ge 48, 3) := by decide +kernel
theorem d_Mo_take_38 : decode prog_8_method_18_code 38 = .ok (.aload_n 0, 1) := by decide +kernel
theorem d_Mo_take_39 : decode prog_8_method_18_code 39 = .ok (.getfield 13, 3) := by decide +kernel
theorem d_Mo_take_42 : decode prog_8_method_18_code 42 = .ok (.iload 4, 2) := by decide +kernel
theorem d_Mo_take_44 : decode prog_8_method_18_code 44 = .ok (.iaload, 1) := by decide +kernel
theorem d_Mo_take_45 : decode prog_8_method_18_code 45 = .ok (.iload_n 1, 1) := by decide +kernel
theorem d_Mo_take_46 : decode prog_8_method_18_code 46 = .ok (.if_icmp .ne 37, 3) := by decide +kernel
theorem d_Mo_take_49 : decode prog_8_method_18_code 49 = .ok (.iload_n 3, 1) := by decide +kernel
theorem d_Mo_take_50 : decode prog_8_method_18_code 50 = .ok (.iconst (-1), 1) := by decide +kernel
theorem d_Mo_take_51 : decode prog_8_method_18_code 51 = .ok (.if_icmp .ne 32, 3) := by decide +kernel
theorem d_Mo_take_54 : decode prog_8_method_18_code 54 = .ok (.aload_n 0, 1) := by decide +kernel
theorem d_Mo_take_55 : decode prog_8_method_18_code 55 = .ok (.getfield 16, 3) := by decide +kernel
theorem d_Mo_take_58 : decode prog_8_method_18_code 58 = .ok (.iload 5, 2) := by decide +kernel
theorem d_Mo_take_60 : decode prog_8_method_18_code 60 = .ok (.iaload, 1) := by decide +kernel
theorem d_Mo_take_61 : decode prog_8_method_18_code 61 = .ok (.ifCond .ne 8, 3) := by decide +kernel
theorem d_Mo_take_64 : decode prog_8_method_18_code 64 = .ok (.iload 5, 2) := by decide +kernel
theorem d_Mo_take_66 : decode prog_8_method_18_code 66 = .ok (.goto 4, 3) := by decide +kernel
theorem d_Mo_take_69 : decode prog_8_method_18_code 69 = .ok (.iconst (-1), 1) := by decide +kernel
theorem d_Mo_take_70 : decode prog_8_method_18_code 70 = .ok (.istore_n 3, 1) := by decide +kernel
theorem d_Mo_take_71 : decode prog_8_method_18_code 71 = .ok (.iload 5, 2) := by decide +kernel
theorem d_Mo_take_73 : decode prog_8_method_18_code 73 = .ok (.iload_n 1, 1) := by decide +kernel
theorem d_Mo_take_74 : decode prog_8_method_18_code 74 = .ok (.invokestatic 88, 3) := by decide +kernel
theorem d_Mo_take_77 : decode prog_8_method_18_code 77 = .ok (.iadd, 1) := by decide +kernel
theorem d_Mo_take_78 : decode prog_8_method_18_code 78 = .ok (.istore 5, 2) := by decide +kernel
theorem d_Mo_take_80 : decode prog_8_method_18_code 80 = .ok (.goto (-54), 3) := by decide +kernel
theorem d_Mo_take_83 : decode prog_8_method_18_code 83 = .ok (.iinc 4 1, 3) := by decide +kernel
theorem d_Mo_take_86 : decode prog_8_method_18_code 86 = .ok (.goto (-81), 3) := by decide +kernel
theorem d_Mo_take_89 : decode prog_8_method_18_code 89 = .ok (.iconst 0, 1) := by decide +kernel
theorem d_Mo_take_90 : decode prog_8_method_18_code 90 = .ok (.istore 4, 2) := by decide +kernel
theorem d_Mo_take_92 : decode prog_8_method_18_code 92 = .ok (.iload 4, 2) := by decide +kernel
theorem d_Mo_take_94 : decode prog_8_method_18_code 94 = .ok (.aload_n 0, 1) := by decide +kernel
theorem d_Mo_take_95 : decode prog_8_method_18_code 95 = .ok (.getfield 45, 3) := by decide +kernel
theorem d_Mo_take_98 : decode prog_8_method_18_code 98 = .ok (.if_icmp .ge 39, 3) := by decide +kernel
theorem d_Mo_take_101 : decode prog_8_method_18_code 101 = .ok (.iload_n 3, 1) := by decide +kernel
theorem d_Mo_take_102 : decode prog_8_method_18_code 102 = .ok (.iconst (-1), 1) := by decide +kernel
theorem d_Mo_take_103 : decode prog_8_method_18_code 103 = .ok (.if_icmp .ne 34, 3) := by decide +kernel
theorem d_Mo_take_106 : decode prog_8_method_18_code 106 = .ok (.aload_n 0, 1) := by decide +kernel
theorem d_Mo_take_107 : decode prog_8_method_18_code 107 = .ok (.getfield 13, 3) := by decide +kernel
theorem d_Mo_take_110 : decode prog_8_method_18_code 110 = .ok (.iload 4, 2) := by decide +kernel
theorem d_Mo_take_112 : decode prog_8_method_18_code 112 = .ok (.iaload, 1) := by decide +kernel
theorem d_Mo_take_113 : decode prog_8_method_18_code 113 = .ok (.iconst (-1), 1) := by decide +kernel
theorem d_Mo_take_114 : decode prog_8_method_18_code 114 = .ok (.if_icmp .ne 17, 3) := by decide +kernel
theorem d_Mo_take_117 : decode prog_8_method_18_code 117 = .ok (.aload_n 0, 1) := by decide +kernel
theorem d_Mo_take_118 : decode prog_8_method_18_code 118 = .ok (.getfield 13, 3) := by decide +kernel
theorem d_Mo_take_121 : decode prog_8_method_18_code 121 = .ok (.iload 4, 2) := by decide +kernel
theorem d_Mo_take_123 : decode prog_8_method_18_code 123 = .ok (.iload_n 1, 1) := by decide +kernel
theorem d_Mo_take_124 : decode prog_8_method_18_code 124 = .ok (.iastore, 1) := by decide +kernel
theorem d_Mo_take_125 : decode prog_8_method_18_code 125 = .ok (.bipush 64, 2) := by decide +kernel
theorem d_Mo_take_127 : decode prog_8_method_18_code 127 = .ok (.iload 4, 2) := by decide +kernel
theorem d_Mo_take_129 : decode prog_8_method_18_code 129 = .ok (.imul, 1) := by decide +kernel
theorem d_Mo_take_130 : decode prog_8_method_18_code 130 = .ok (.istore_n 3, 1) := by decide +kernel
theorem d_Mo_take_131 : decode prog_8_method_18_code 131 = .ok (.iinc 4 1, 3) := by decide +kernel
theorem d_Mo_take_134 : decode prog_8_method_18_code 134 = .ok (.goto (-42), 3) := by decide +kernel
theorem d_Mo_take_137 : decode prog_8_method_18_code 137 = .ok (.iload_n 3, 1) := by decide +kernel
theorem d_Mo_take_138 : decode prog_8_method_18_code 138 = .ok (.iconst (-1), 1) := by decide +kernel
theorem d_Mo_take_139 : decode prog_8_method_18_code 139 = .ok (.if_icmp .ne 15, 3) := by decide +kernel
theorem d_Mo_take_142 : decode prog_8_method_18_code 142 = .ok (.aload_n 0, 1) := by decide +kernel
theorem d_Mo_take_143 : decode prog_8_method_18_code 143 = .ok (.dup, 1) := by decide +kernel
theorem d_Mo_take_144 : decode prog_8_method_18_code 144 = .ok (.getfield 79, 3) := by decide +kernel
theorem d_Mo_take_147 : decode prog_8_method_18_code 147 = .ok (.iconst 1, 1) := by decide +kernel
theorem d_Mo_take_148 : decode prog_8_method_18_code 148 = .ok (.iadd, 1) := by decide +kernel
theorem d_Mo_take_149 : decode prog_8_method_18_code 149 = .ok (.putfield 79, 3) := by decide +kernel
theorem d_Mo_take_152 : decode prog_8_method_18_code 152 = .ok (.iconst (-1), 1) := by decide +kernel
theorem d_Mo_take_153 : decode prog_8_method_18_code 153 = .ok (.ireturn, 1) := by decide +kernel
theorem d_Mo_take_154 : decode prog_8_method_18_code 154 = .ok (.aload_n 0, 1) := by decide +kernel
theorem d_Mo_take_155 : decode prog_8_method_18_code 155 = .ok (.getfield 16, 3) := by decide +kernel
theorem d_Mo_take_158 : decode prog_8_method_18_code 158 = .ok (.iload_n 3, 1) := by decide +kernel
theorem d_Mo_take_159 : decode prog_8_method_18_code 159 = .ok (.iload_n 2, 1) := by decide +kernel
theorem d_Mo_take_160 : decode prog_8_method_18_code 160 = .ok (.iastore, 1) := by decide +kernel
theorem d_Mo_take_161 : decode prog_8_method_18_code 161 = .ok (.aload_n 0, 1) := by decide +kernel
theorem d_Mo_take_162 : decode prog_8_method_18_code 162 = .ok (.getfield 19, 3) := by decide +kernel
theorem d_Mo_take_165 : decode prog_8_method_18_code 165 = .ok (.iload_n 3, 1) := by decide +kernel
theorem d_Mo_take_166 : decode prog_8_method_18_code 166 = .ok (.aload_n 0, 1) := by decide +kernel
theorem d_Mo_take_167 : decode prog_8_method_18_code 167 = .ok (.getfield 61, 3) := by decide +kernel
theorem d_Mo_take_170 : decode prog_8_method_18_code 170 = .ok (.iconst 1, 1) := by decide +kernel
theorem d_Mo_take_171 : decode prog_8_method_18_code 171 = .ok (.if_icmp .eq 27, 3) := by decide +kernel
theorem d_Mo_take_174 : decode prog_8_method_18_code 174 = .ok (.aload_n 0, 1) := by decide +kernel
theorem d_Mo_take_175 : decode prog_8_method_18_code 175 = .ok (.getfield 61, 3) := by decide +kernel
theorem d_Mo_take_178 : decode prog_8_method_18_code 178 = .ok (.iconst 2, 1) := by decide +kernel
theorem d_Mo_take_179 : decode prog_8_method_18_code 179 = .ok (.if_icmp .eq 19, 3) := by decide +kernel
theorem d_Mo_take_182 : decode prog_8_method_18_code 182 = .ok (.aload_n 0, 1) := by decide +kernel
theorem d_Mo_take_183 : decode prog_8_method_18_code 183 = .ok (.getfield 61, 3) := by decide +kernel
theorem d_Mo_take_186 : decode prog_8_method_18_code 186 = .ok (.iconst 3, 1) := by decide +kernel
theorem d_Mo_take_187 : decode prog_8_method_18_code 187 = .ok (.if_icmp .ne 15, 3) := by decide +kernel
theorem d_Mo_take_190 : decode prog_8_method_18_code 190 = .ok (.iload_n 3, 1) := by decide +kernel
theorem d_Mo_take_191 : decode prog_8_method_18_code 191 = .ok (.aload_n 0, 1) := by decide +kernel
theorem d_Mo_take_192 : decode prog_8_method_18_code 192 = .ok (.getfield 67, 3) := by decide +kernel
theorem d_Mo_take_195 : decode prog_8_method_18_code 195 = .ok (.if_icmp .lt 7, 3) := by decide +kernel
theorem d_Mo_take_198 : decode prog_8_method_18_code 198 = .ok (.iconst 1, 1) := by decide +kernel
theorem d_Mo_take_199 : decode prog_8_method_18_code 199 = .ok (.goto 4, 3) := by decide +kernel
theorem d_Mo_take_202 : decode prog_8_method_18_code 202 = .ok (.iconst 0, 1) := by decide +kernel
theorem d_Mo_take_203 : decode prog_8_method_18_code 203 = .ok (.bastore, 1) := by decide +kernel
theorem d_Mo_take_204 : decode prog_8_method_18_code 204 = .ok (.iconst 0, 1) := by decide +kernel
theorem d_Mo_take_205 : decode prog_8_method_18_code 205 = .ok (.istore 4, 2) := by decide +kernel
theorem d_Mo_take_207 : decode prog_8_method_18_code 207 = .ok (.iload 4, 2) := by decide +kernel
theorem d_Mo_take_209 : decode prog_8_method_18_code 209 = .ok (.iload_n 1, 1) := by decide +kernel
theorem d_Mo_take_210 : decode prog_8_method_18_code 210 = .ok (.invokestatic 88, 3) := by decide +kernel
theorem d_Mo_take_213 : decode prog_8_method_18_code 213 = .ok (.if_icmp .ge 19, 3) := by decide +kernel
theorem d_Mo_take_216 : decode prog_8_method_18_code 216 = .ok (.aload_n 0, 1) := by decide +kernel
theorem d_Mo_take_217 : decode prog_8_method_18_code 217 = .ok (.getfield 7, 3) := by decide +kernel
theorem d_Mo_take_220 : decode prog_8_method_18_code 220 = .ok (.iload_n 3, 1) := by decide +kernel
theorem d_Mo_take_221 : decode prog_8_method_18_code 221 = .ok (.iload 4, 2) := by decide +kernel
theorem d_Mo_take_223 : decode prog_8_method_18_code 223 = .ok (.iadd, 1) := by decide +kernel
theorem d_Mo_take_224 : decode prog_8_method_18_code 224 = .ok (.iconst 0, 1) := by decide +kernel
theorem d_Mo_take_225 : decode prog_8_method_18_code 225 = .ok (.iastore, 1) := by decide +kernel
theorem d_Mo_take_226 : decode prog_8_method_18_code 226 = .ok (.iinc 4 1, 3) := by decide +kernel
theorem d_Mo_take_229 : decode prog_8_method_18_code 229 = .ok (.goto (-22), 3) := by decide +kernel
theorem d_Mo_take_232 : decode prog_8_method_18_code 232 = .ok (.aload_n 0, 1) := by decide +kernel
theorem d_Mo_take_233 : decode prog_8_method_18_code 233 = .ok (.getfield 23, 3) := by decide +kernel
theorem d_Mo_take_236 : decode prog_8_method_18_code 236 = .ok (.iload_n 3, 1) := by decide +kernel
theorem d_Mo_take_237 : decode prog_8_method_18_code 237 = .ok (.iconst 0, 1) := by decide +kernel
theorem d_Mo_take_238 : decode prog_8_method_18_code 238 = .ok (.iastore, 1) := by decide +kernel
theorem d_Mo_take_239 : decode prog_8_method_18_code 239 = .ok (.aload_n 0, 1) := by decide +kernel
theorem d_Mo_take_240 : decode prog_8_method_18_code 240 = .ok (.getfield 26, 3) := by decide +kernel
theorem d_Mo_take_243 : decode prog_8_method_18_code 243 = .ok (.iload_n 3, 1) := by decide +kernel
theorem d_Mo_take_244 : decode prog_8_method_18_code 244 = .ok (.iconst 0, 1) := by decide +kernel
theorem d_Mo_take_245 : decode prog_8_method_18_code 245 = .ok (.iastore, 1) := by decide +kernel
theorem d_Mo_take_246 : decode prog_8_method_18_code 246 = .ok (.iload_n 3, 1) := by decide +kernel
theorem d_Mo_take_247 : decode prog_8_method_18_code 247 = .ok (.ireturn, 1) := by decide +kernel
noncomputable def F_Mo_take_207 (K : Int32 → zM → Prop) (n : Nat) : Int32 → Int32 → Int32 → zM → Prop := Nat.rec (motive := fun _ => Int32 → Int32 → Int32 → zM → Prop) (fun _ _ _ _ => False) (fun _ ih x1 x3 x4 μ => f_Mo_sizeOf μ x1 (fun r10 μ9 => ((r10 ≤ x4 → (vp_in x3 4096 ∧ ∀ μ13 : zM, μ13 = zp μ9 24 x3.toNatClampNeg (0 : Int32) → (vp_in x3 4096 ∧ ∀ μ15 : zM, μ15 = zp μ13 25 x3.toNatClampNeg (0 : Int32) → (K x3 μ15)))) ∧ (¬ r10 ≤ x4 → (vp_in (x3 + x4) 4096 ∧ ∀ μ17 : zM, μ17 = zp μ9 20 (x3 + x4).toNatClampNeg (0 : Int32) → (∀ x18 : Int32, x18 = x4 + 1 → (ih x1 x3 x18 μ17))))))) n
noncomputable def F_Mo_take_92 (K : Int32 → zM → Prop) (n : Nat) : Int32 → Int32 → Int32 → Int32 → zM → Prop := Nat.rec (motive := fun _ => Int32 → Int32 → Int32 → Int32 → zM → Prop) (fun _ _ _ _ _ => False) (fun _ ih x1 x2 x3 x4 μ => ((μ 19 0) ≤ x4 → ((¬ x3 = (-1 : Int32) → (vp_in x3 4096 ∧ ∀ μ5 : zM, μ5 = zp μ 22 x3.toNatClampNeg x2 → (((μ5 19 13) = (1 : Int32) → (vp_in x3 4096 ∧ ∀ μ8 : zM, μ8 = zp μ5 23 x3.toNatClampNeg (vp_nar .boolean (1 : Int32)) → (∃ n : Nat, F_Mo_take_207 K n x1 x3 (0 : Int32) μ8))) ∧ (¬ (μ5 19 13) = (1 : Int32) → (((μ5 19 13) = (2 : Int32) → (vp_in x3 4096 ∧ ∀ μ21 : zM, μ21 = zp μ5 23 x3.toNatClampNeg (vp_nar .boolean (1 : Int32)) → (∃ n : Nat, F_Mo_take_207 K n x1 x3 (0 : Int32) μ21))) ∧ (¬ (μ5 19 13) = (2 : Int32) → ((¬ (μ5 19 13) = (3 : Int32) → (vp_in x3 4096 ∧ ∀ μ24 : zM, μ24 = zp μ5 23 x3.toNatClampNeg (vp_nar .boolean (0 : Int32)) → (∃ n : Nat, F_Mo_take_207 K n x1 x3 (0 : Int32) μ24))) ∧ ((μ5 19 13) = (3 : Int32) → ((x3 < (μ5 19 17) → (vp_in x3 4096 ∧ ∀ μ27 : zM, μ27 = zp μ5 23 x3.toNatClampNeg (vp_nar .boolean (0 : Int32)) → (∃ n : Nat, F_Mo_take_207 K n x1 x3 (0 : Int32) μ27))) ∧ (¬ x3 < (μ5 19 17) → (vp_in x3 4096 ∧ ∀ μ29 : zM, μ29 = zp μ5 23 x3.toNatClampNeg (vp_nar .boolean (1 : Int32)) → (∃ n : Nat, F_Mo_take_207 K n x1 x3 (0 : Int32) μ29)))))))))))) ∧ (x3 = (-1 : Int32) → (∀ μ30 : zM, μ30 = zp μ 19 21 ((μ 19 21) + (1 : Int32)) → (K (-1 : Int32) μ30))))) ∧ (¬ (μ 19 0) ≤ x4 → ((¬ x3 = (-1 : Int32) → ((¬ x3 = (-1 : Int32) → (vp_in x3 4096 ∧ ∀ μ34 : zM, μ34 = zp μ 22 x3.toNatClampNeg x2 → (((μ34 19 13) = (1 : Int32) → (vp_in x3 4096 ∧ ∀ μ37 : zM, μ37 = zp μ34 23 x3.toNatClampNeg (vp_nar .boolean (1 : Int32)) → (∃ n : Nat, F_Mo_take_207 K n x1 x3 (0 : Int32) μ37))) ∧ (¬ (μ34 19 13) = (1 : Int32) → (((μ34 19 13) = (2 : Int32) → (vp_in x3 4096 ∧ ∀ μ40 : zM, μ40 = zp μ34 23 x3.toNatClampNeg (vp_nar .boolean (1 : Int32)) → (∃ n : Nat, F_Mo_take_207 K n x1 x3 (0 : Int32) μ40))) ∧ (¬ (μ34 19 13) = (2 : Int32) → ((¬ (μ34 19 13) = (3 : Int32) → (vp_in x3 4096 ∧ ∀ μ43 : zM, μ43 = zp μ34 23 x3.toNatClampNeg (vp_nar .boolean (0 : Int32)) → (∃ n : Nat, F_Mo_take_207 K n x1 x3 (0 : Int32) μ43))) ∧ ((μ34 19 13) = (3 : Int32) → ((x3 < (μ34 19 17) → (vp_in x3 4096 ∧ ∀ μ46 : zM, μ46 = zp μ34 23 x3.toNatClampNeg (vp_nar .boolean (0 : Int32)) → (∃ n : Nat, F_Mo_take_207 K n x1 x3 (0 : Int32) μ46))) ∧ (¬ x3 < (μ34 19 17) → (vp_in x3 4096 ∧ ∀ μ48 : zM, μ48 = zp μ34 23 x3.toNatClampNeg (vp_nar .boolean (1 : Int32)) → (∃ n : Nat, F_Mo_take_207 K n x1 x3 (0 : Int32) μ48)))))))))))) ∧ (x3 = (-1 : Int32) → (∀ μ49 : zM, μ49 = zp μ 19 21 ((μ 19 21) + (1 : Int32)) → (K (-1 : Int32) μ49))))) ∧ (x3 = (-1 : Int32) → (vp_in x4 64 ∧ ((¬ (μ 21 x4.toNatClampNeg) = (-1 : Int32) → (∀ x52 : Int32, x52 = x4 + 1 → (ih x1 x2 x3 x52 μ))) ∧ ((μ 21 x4.toNatClampNeg) = (-1 : Int32) → (vp_in x4 64 ∧ ∀ μ54 : zM, μ54 = zp μ 21 x4.toNatClampNeg x1 → (∀ x55 : Int32, x55 = ((64 : Int32) * x4) → (∀ x56 : Int32, x56 = x4 + 1 → (ih x1 x2 x55 x56 μ54))))))))))) n
noncomputable def F_Mo_take_26 (K : Int32 → zM → Prop) (C5 : Int32 → Int32 → Int32 → Int32 → zM → Prop) (n : Nat) : Int32 → Int32 → Int32 → Int32 → Int32 → zM → Prop := Nat.rec (motive := fun _ => Int32 → Int32 → Int32 → Int32 → Int32 → zM → Prop) (fun _ _ _ _ _ _ => False) (fun _ ih x1 x2 x3 x4 x5 μ => (((64 : Int32) * (x4 + (1 : Int32))) ≤ x5 → (∀ x60 : Int32, x60 = x4 + 1 → (C5 x1 x2 x3 x60 μ))) ∧ (¬ ((64 : Int32) * (x4 + (1 : Int32))) ≤ x5 → (vp_in x4 64 ∧ ((¬ (μ 21 x4.toNatClampNeg) = x1 → (∀ x63 : Int32, x63 = x4 + 1 → (C5 x1 x2 x3 x63 μ))) ∧ ((μ 21 x4.toNatClampNeg) = x1 → ((¬ x3 = (-1 : Int32) → (∀ x65 : Int32, x65 = x4 + 1 → (C5 x1 x2 x3 x65 μ))) ∧ (x3 = (-1 : Int32) → (vp_in x5 4096 ∧ ((¬ (μ 22 x5.toNatClampNeg) = 0 → (f_Mo_sizeOf μ x1 (fun r69 μ68 => (∀ x70 : Int32, x70 = (x5 + r69) → (ih x1 x2 (-1 : Int32) x4 x70 μ68))))) ∧ ((μ 22 x5.toNatClampNeg) = 0 → (f_Mo_sizeOf μ x1 (fun r72 μ71 => (∀ x73 : Int32, x73 = (x5 + r72) → (ih x1 x2 x5 x4 x73 μ71)))))))))))))) n
noncomputable def F_Mo_take_5 (K : Int32 → zM → Prop) (n : Nat) : Int32 → Int32 → Int32 → Int32 → zM → Prop := Nat.rec (motive := fun _ => Int32 → Int32 → Int32 → Int32 → zM → Prop) (fun _ _ _ _ _ => False) (fun _ ih x1 x2 x3 x4 μ => ((μ 19 0) ≤ x4 → (∃ n : Nat, F_Mo_take_92 K n x1 x2 x3 (0 : Int32) μ)) ∧ (¬ (μ 19 0) ≤ x4 → ((¬ x3 = (-1 : Int32) → (∃ n : Nat, F_Mo_take_92 K n x1 x2 x3 (0 : Int32) μ)) ∧ (x3 = (-1 : Int32) → (∀ x58 : Int32, x58 = ((64 : Int32) * x4) → (∃ n : Nat, F_Mo_take_26 K ih n x1 x2 x3 x4 x58 μ)))))) n
def f_Mo_take (μ : zM) (a1 a2 : Int32) (K : Int32 → zM → Prop) : Prop := ∃ n : Nat, F_Mo_take_5 K n a1 a2 (-1 : Int32) (0 : Int32) μ
set_option maxHeartbeats 4000000 in
set_option maxRecDepth 100000 in
theorem L_Mo_take_207 {p : Program} {l : Launch} {e : Env} {s : State} {m : MethodId} {args : Array Value} {below : List Frame} {meth : Method} {c : Code} {E : zE} (X : zX E p s m args c prog_8_method_18_code "BeatHeapModel" 6) (hr : meth.sig.returnType = (some .int)) (hlk : meth.locks = false) (K : Int32 → zM → Prop) : ∀ (n : Nat) (x1 x3 x4 : Int32) (μ : zM) (H : Heap) (locs : List Loc) (ls : Array Slot), F_Mo_take_207 K n x1 x3 x4 μ → zW zwM E s μ H locs → lv_has ls 6 [(0, .ref (E.2.1 19)), (1, .int x1), (3, .int x3), (4, .int x4)] → W p l e { frames := 1, cells := 0, slots := 0, locals := 20 } s m args below meth c H locs 0 0 (MQ below (va_Qi K (zR zwM E) (zA E)) args s 0 0 (zA E)) (F0 m 207 ls []) := by
  have hx := X.1
  have hb := X.2.1
  intro n
  induction n with
  | zero => intro x1 x3 x4 μ H locs ls h; exact False.elim h
  | succ n ih =>
    intro x1 x3 x4 μ H locs ls h w hl
    have h : (fun ih : Int32 → Int32 → Int32 → zM → Prop => f_Mo_sizeOf μ x1 (fun r10 μ9 => ((r10 ≤ x4 → (vp_in x3 4096 ∧ ∀ μ13 : zM, μ13 = zp μ9 24 x3.toNatClampNeg (0 : Int32) → (vp_in x3 4096 ∧ ∀ μ15 : zM, μ15 = zp μ13 25 x3.toNatClampNeg (0 : Int32) → (K x3 μ15)))) ∧ (¬ r10 ≤ x4 → (vp_in (x3 + x4) 4096 ∧ ∀ μ17 : zM, μ17 = zp μ9 20 (x3 + x4).toNatClampNeg (0 : Int32) → (∀ x18 : Int32, x18 = x4 + 1 → (ih x1 x3 x18 μ17))))))) (F_Mo_take_207 K n) := h
    refine lv_iload hx hb d_Mo_take_207 (lv_at hl 3 rfl) ?_
    refine lv_iload_n hx hb d_Mo_take_209 rfl (lv_at hl 1 rfl) ?_
    refine z_cSi (As := [.int x1]) (rest := [.int x4]) X w (c_Mo_sizeOf l E μ x1 _ h) w_ml_Mo_88 w_st_Mo_sizeOf w_in_Mo w_co_Mo_sizeOf q_Mo_sizeOf.1 q_Mo_sizeOf.2 rfl ⟨Nat.le_of_ble_eq_true rfl, Nat.le_of_ble_eq_true rfl⟩ ⟨Nat.zero_le _, Nat.zero_le _⟩ hl.1 rfl (Nat.le_of_ble_eq_true rfl) d_Mo_take_210 (fun r10 μ9 H locs h w => ?_)
    refine lv_icmp_ge (tgt := 232) hx hb d_Mo_take_213 (by decide) (fun c11 => ?_) (fun c11 => ?_)
    · have h := h.1 c11
      refine lv_aload_n hx hb d_Mo_take_232 rfl (lv_at hl 0 rfl) ?_
      refine gt_19_8 X w w_fl_Mo_23 d_Mo_take_233 ?_
      refine lv_iload_n hx hb d_Mo_take_236 rfl (lv_at hl 2 rfl) ?_
      refine lv_iconst (v := 0) hx hb d_Mo_take_237 (by decide) ?_
      obtain ⟨hi12, h⟩ := h
      refine as_24 X w hi12 d_Mo_take_238 (fun μ13 H locs eμ13 w => ?_)
      have h := h μ13 eμ13
      refine lv_aload_n hx hb d_Mo_take_239 rfl (lv_at hl 0 rfl) ?_
      refine gt_19_9 X w w_fl_Mo_26 d_Mo_take_240 ?_
      refine lv_iload_n hx hb d_Mo_take_243 rfl (lv_at hl 2 rfl) ?_
      refine lv_iconst (v := 0) hx hb d_Mo_take_244 (by decide) ?_
      obtain ⟨hi14, h⟩ := h
      refine as_25 X w hi14 d_Mo_take_245 (fun μ15 H locs eμ15 w => ?_)
      have h := h μ15 eμ15
      refine lv_iload_n hx hb d_Mo_take_246 rfl (lv_at hl 2 rfl) ?_
      exact z_iret X hr hlk w h d_Mo_take_247
    · have h := h.2 c11
      refine lv_aload_n hx hb d_Mo_take_216 rfl (lv_at hl 0 rfl) ?_
      refine gt_19_4 X w w_fl_Mo_7 d_Mo_take_217 ?_
      refine lv_iload_n hx hb d_Mo_take_220 rfl (lv_at hl 2 rfl) ?_
      refine lv_iload hx hb d_Mo_take_221 (lv_at hl 3 rfl) ?_
      refine lv_iadd hx hb d_Mo_take_223 ?_
      refine lv_iconst (v := 0) hx hb d_Mo_take_224 (by decide) ?_
      obtain ⟨hi16, h⟩ := h
      refine as_20 X w hi16 d_Mo_take_225 (fun μ17 H locs eμ17 w => ?_)
      have h := h μ17 eμ17
      obtain ⟨x18, ex18⟩ : ∃ y : Int32, y = x4 + 1 := ⟨_, rfl⟩
      have h := h x18 ex18
      refine lv_iinc (v := x18) (lv' := [(4, .int x18), (0, .ref (E.2.1 19)), (1, .int x1), (3, .int x3)]) hx hb d_Mo_take_226 hl (k := 3) rfl (by rw [ex18]; rfl) (by decide) rfl (fun ls hl => ?_)
      refine lv_goto (tgt := 207) hx hb d_Mo_take_229 (by decide) ?_
      exact ih x1 x3 x18 μ17 _ _ _ h w (lv_sub hl [1, 2, 3, 0] rfl)

set_option maxHeartbeats 4000000 in
set_option maxRecDepth 100000 in
theorem L_Mo_take_92 {p : Program} {l : Launch} {e : Env} {s : State} {m : MethodId} {args : Array Value} {below : List Frame} {meth : Method} {c : Code} {E : zE} (X : zX E p s m args c prog_8_method_18_code "BeatHeapModel" 6) (hr : meth.sig.returnType = (some .int)) (hlk : meth.locks = false) (K : Int32 → zM → Prop) : ∀ (n : Nat) (x1 x2 x3 x4 : Int32) (μ : zM) (H : Heap) (locs : List Loc) (ls : Array Slot), F_Mo_take_92 K n x1 x2 x3 x4 μ → zW zwM E s μ H locs → lv_has ls 6 [(0, .ref (E.2.1 19)), (1, .int x1), (2, .int x2), (3, .int x3), (4, .int x4)] → W p l e { frames := 1, cells := 0, slots := 0, locals := 20 } s m args below meth c H locs 0 0 (MQ below (va_Qi K (zR zwM E) (zA E)) args s 0 0 (zA E)) (F0 m 92 ls []) := by
  have hx := X.1
  have hb := X.2.1
  intro n
  induction n with
  | zero => intro x1 x2 x3 x4 μ H locs ls h; exact False.elim h
  | succ n ih =>
    intro x1 x2 x3 x4 μ H locs ls h w hl
    refine lv_iload hx hb d_Mo_take_92 (lv_at hl 4 rfl) ?_
    refine lv_aload_n hx hb d_Mo_take_94 rfl (lv_at hl 0 rfl) ?_
    refine gt_19_0 X w w_fl_Mo_45 d_Mo_take_95 ?_
    refine lv_icmp_ge (tgt := 137) hx hb d_Mo_take_98 (by decide) (fun c2 => ?_) (fun c2 => ?_)
    · have h := h.1 c2
      refine lv_iload_n hx hb d_Mo_take_137 rfl (lv_at hl 3 rfl) ?_
      refine lv_iconst (v := (-1)) hx hb d_Mo_take_138 (by decide) ?_
      refine lv_icmp_ne (tgt := 154) hx hb d_Mo_take_139 (by decide) (fun c3 => ?_) (fun c3 => ?_)
      · have h := h.1 c3
        refine lv_aload_n hx hb d_Mo_take_154 rfl (lv_at hl 0 rfl) ?_
        refine gt_19_6 X w w_fl_Mo_16 d_Mo_take_155 ?_
        refine lv_iload_n hx hb d_Mo_take_158 rfl (lv_at hl 3 rfl) ?_
        refine lv_iload_n hx hb d_Mo_take_159 rfl (lv_at hl 2 rfl) ?_
        obtain ⟨hi4, h⟩ := h
        refine as_22 X w hi4 d_Mo_take_160 (fun μ5 H locs eμ5 w => ?_)
        have h := h μ5 eμ5
        refine lv_aload_n hx hb d_Mo_take_161 rfl (lv_at hl 0 rfl) ?_
        refine gt_19_7 X w w_fl_Mo_19 d_Mo_take_162 ?_
        refine lv_iload_n hx hb d_Mo_take_165 rfl (lv_at hl 3 rfl) ?_
        refine lv_aload_n hx hb d_Mo_take_166 rfl (lv_at hl 0 rfl) ?_
        refine gt_19_13 X w w_fl_Mo_61 d_Mo_take_167 ?_
        refine lv_iconst (v := 1) hx hb d_Mo_take_170 (by decide) ?_
        refine lv_icmp_eq (tgt := 198) hx hb d_Mo_take_171 (by decide) (fun c6 => ?_) (fun c6 => ?_)
        · have h := h.1 c6
          refine lv_iconst (v := 1) hx hb d_Mo_take_198 (by decide) ?_
          refine lv_goto (tgt := 203) hx hb d_Mo_take_199 (by decide) ?_
          obtain ⟨hi7, h⟩ := h
          refine as_23 X w hi7 d_Mo_take_203 (fun μ8 H locs eμ8 w => ?_)
          have h := h μ8 eμ8
          refine lv_iconst (v := 0) hx hb d_Mo_take_204 (by decide) ?_
          refine lv_istore (lv' := [(4, .int (0 : Int32)), (0, .ref (E.2.1 19)), (1, .int x1), (2, .int x2), (3, .int x3)]) hx hb d_Mo_take_205 hl (by decide) rfl (fun ls hl => ?_)
          obtain ⟨n, h⟩ := h
          exact L_Mo_take_207 X hr hlk K n x1 x3 (0 : Int32) μ8 _ _ _ h w (lv_sub hl [1, 2, 4, 0] rfl)
        · have h := h.2 c6
          refine lv_aload_n hx hb d_Mo_take_174 rfl (lv_at hl 0 rfl) ?_
          refine gt_19_13 X w w_fl_Mo_61 d_Mo_take_175 ?_
          refine lv_iconst (v := 2) hx hb d_Mo_take_178 (by decide) ?_
          refine lv_icmp_eq (tgt := 198) hx hb d_Mo_take_179 (by decide) (fun c19 => ?_) (fun c19 => ?_)
          · have h := h.1 c19
            refine lv_iconst (v := 1) hx hb d_Mo_take_198 (by decide) ?_
            refine lv_goto (tgt := 203) hx hb d_Mo_take_199 (by decide) ?_
            obtain ⟨hi20, h⟩ := h
            refine as_23 X w hi20 d_Mo_take_203 (fun μ21 H locs eμ21 w => ?_)
            have h := h μ21 eμ21
            refine lv_iconst (v := 0) hx hb d_Mo_take_204 (by decide) ?_
            refine lv_istore (lv' := [(4, .int (0 : Int32)), (0, .ref (E.2.1 19)), (1, .int x1), (2, .int x2), (3, .int x3)]) hx hb d_Mo_take_205 hl (by decide) rfl (fun ls hl => ?_)
            obtain ⟨n, h⟩ := h
            exact L_Mo_take_207 X hr hlk K n x1 x3 (0 : Int32) μ21 _ _ _ h w (lv_sub hl [1, 2, 4, 0] rfl)
          · have h := h.2 c19
            refine lv_aload_n hx hb d_Mo_take_182 rfl (lv_at hl 0 rfl) ?_
            refine gt_19_13 X w w_fl_Mo_61 d_Mo_take_183 ?_
            refine lv_iconst (v := 3) hx hb d_Mo_take_186 (by decide) ?_
            refine lv_icmp_ne (tgt := 202) hx hb d_Mo_take_187 (by decide) (fun c22 => ?_) (fun c22 => ?_)
            · have h := h.1 c22
              refine lv_iconst (v := 0) hx hb d_Mo_take_202 (by decide) ?_
              obtain ⟨hi23, h⟩ := h
              refine as_23 X w hi23 d_Mo_take_203 (fun μ24 H locs eμ24 w => ?_)
              have h := h μ24 eμ24
              refine lv_iconst (v := 0) hx hb d_Mo_take_204 (by decide) ?_
              refine lv_istore (lv' := [(4, .int (0 : Int32)), (0, .ref (E.2.1 19)), (1, .int x1), (2, .int x2), (3, .int x3)]) hx hb d_Mo_take_205 hl (by decide) rfl (fun ls hl => ?_)
              obtain ⟨n, h⟩ := h
              exact L_Mo_take_207 X hr hlk K n x1 x3 (0 : Int32) μ24 _ _ _ h w (lv_sub hl [1, 2, 4, 0] rfl)
            · have h := h.2 c22
              refine lv_iload_n hx hb d_Mo_take_190 rfl (lv_at hl 3 rfl) ?_
              refine lv_aload_n hx hb d_Mo_take_191 rfl (lv_at hl 0 rfl) ?_
              refine gt_19_17 X w w_fl_Mo_67 d_Mo_take_192 ?_
              refine lv_icmp_lt (tgt := 202) hx hb d_Mo_take_195 (by decide) (fun c25 => ?_) (fun c25 => ?_)
              · have h := h.1 c25
                refine lv_iconst (v := 0) hx hb d_Mo_take_202 (by decide) ?_
                obtain ⟨hi26, h⟩ := h
                refine as_23 X w hi26 d_Mo_take_203 (fun μ27 H locs eμ27 w => ?_)
                have h := h μ27 eμ27
                refine lv_iconst (v := 0) hx hb d_Mo_take_204 (by decide) ?_
                refine lv_istore (lv' := [(4, .int (0 : Int32)), (0, .ref (E.2.1 19)), (1, .int x1), (2, .int x2), (3, .int x3)]) hx hb d_Mo_take_205 hl (by decide) rfl (fun ls hl => ?_)
                obtain ⟨n, h⟩ := h
                exact L_Mo_take_207 X hr hlk K n x1 x3 (0 : Int32) μ27 _ _ _ h w (lv_sub hl [1, 2, 4, 0] rfl)
              · have h := h.2 c25
                refine lv_iconst (v := 1) hx hb d_Mo_take_198 (by decide) ?_
                refine lv_goto (tgt := 203) hx hb d_Mo_take_199 (by decide) ?_
                obtain ⟨hi28, h⟩ := h
                refine as_23 X w hi28 d_Mo_take_203 (fun μ29 H locs eμ29 w => ?_)
                have h := h μ29 eμ29
                refine lv_iconst (v := 0) hx hb d_Mo_take_204 (by decide) ?_
                refine lv_istore (lv' := [(4, .int (0 : Int32)), (0, .ref (E.2.1 19)), (1, .int x1), (2, .int x2), (3, .int x3)]) hx hb d_Mo_take_205 hl (by decide) rfl (fun ls hl => ?_)
                obtain ⟨n, h⟩ := h
                exact L_Mo_take_207 X hr hlk K n x1 x3 (0 : Int32) μ29 _ _ _ h w (lv_sub hl [1, 2, 4, 0] rfl)
      · have h := h.2 c3
        refine lv_aload_n hx hb d_Mo_take_142 rfl (lv_at hl 0 rfl) ?_
        refine lv_dup hx hb d_Mo_take_143 rfl ?_
        refine gt_19_21 X w w_fl_Mo_79 d_Mo_take_144 ?_
        refine lv_iconst (v := 1) hx hb d_Mo_take_147 (by decide) ?_
        refine lv_iadd hx hb d_Mo_take_148 ?_
        refine pt_19_21 X w w_fl_Mo_79 d_Mo_take_149 (fun μ30 H locs eμ30 w => ?_)
        have h := h μ30 eμ30
        refine lv_iconst (v := (-1)) hx hb d_Mo_take_152 (by decide) ?_
        exact z_iret X hr hlk w h d_Mo_take_153
    · have h := h.2 c2
      refine lv_iload_n hx hb d_Mo_take_101 rfl (lv_at hl 3 rfl) ?_
      refine lv_iconst (v := (-1)) hx hb d_Mo_take_102 (by decide) ?_
      refine lv_icmp_ne (tgt := 137) hx hb d_Mo_take_103 (by decide) (fun c31 => ?_) (fun c31 => ?_)
      · have h := h.1 c31
        refine lv_iload_n hx hb d_Mo_take_137 rfl (lv_at hl 3 rfl) ?_
        refine lv_iconst (v := (-1)) hx hb d_Mo_take_138 (by decide) ?_
        refine lv_icmp_ne (tgt := 154) hx hb d_Mo_take_139 (by decide) (fun c32 => ?_) (fun c32 => ?_)
        · have h := h.1 c32
          refine lv_aload_n hx hb d_Mo_take_154 rfl (lv_at hl 0 rfl) ?_
          refine gt_19_6 X w w_fl_Mo_16 d_Mo_take_155 ?_
          refine lv_iload_n hx hb d_Mo_take_158 rfl (lv_at hl 3 rfl) ?_
          refine lv_iload_n hx hb d_Mo_take_159 rfl (lv_at hl 2 rfl) ?_
          obtain ⟨hi33, h⟩ := h
          refine as_22 X w hi33 d_Mo_take_160 (fun μ34 H locs eμ34 w => ?_)
          have h := h μ34 eμ34
          refine lv_aload_n hx hb d_Mo_take_161 rfl (lv_at hl 0 rfl) ?_
          refine gt_19_7 X w w_fl_Mo_19 d_Mo_take_162 ?_
          refine lv_iload_n hx hb d_Mo_take_165 rfl (lv_at hl 3 rfl) ?_
          refine lv_aload_n hx hb d_Mo_take_166 rfl (lv_at hl 0 rfl) ?_
          refine gt_19_13 X w w_fl_Mo_61 d_Mo_take_167 ?_
          refine lv_iconst (v := 1) hx hb d_Mo_take_170 (by decide) ?_
          refine lv_icmp_eq (tgt := 198) hx hb d_Mo_take_171 (by decide) (fun c35 => ?_) (fun c35 => ?_)
          · have h := h.1 c35
            refine lv_iconst (v := 1) hx hb d_Mo_take_198 (by decide) ?_
            refine lv_goto (tgt := 203) hx hb d_Mo_take_199 (by decide) ?_
            obtain ⟨hi36, h⟩ := h
            refine as_23 X w hi36 d_Mo_take_203 (fun μ37 H locs eμ37 w => ?_)
            have h := h μ37 eμ37
            refine lv_iconst (v := 0) hx hb d_Mo_take_204 (by decide) ?_
            refine lv_istore (lv' := [(4, .int (0 : Int32)), (0, .ref (E.2.1 19)), (1, .int x1), (2, .int x2), (3, .int x3)]) hx hb d_Mo_take_205 hl (by decide) rfl (fun ls hl => ?_)
            obtain ⟨n, h⟩ := h
            exact L_Mo_take_207 X hr hlk K n x1 x3 (0 : Int32) μ37 _ _ _ h w (lv_sub hl [1, 2, 4, 0] rfl)
          · have h := h.2 c35
            refine lv_aload_n hx hb d_Mo_take_174 rfl (lv_at hl 0 rfl) ?_
            refine gt_19_13 X w w_fl_Mo_61 d_Mo_take_175 ?_
            refine lv_iconst (v := 2) hx hb d_Mo_take_178 (by decide) ?_
            refine lv_icmp_eq (tgt := 198) hx hb d_Mo_take_179 (by decide) (fun c38 => ?_) (fun c38 => ?_)
            · have h := h.1 c38
              refine lv_iconst (v := 1) hx hb d_Mo_take_198 (by decide) ?_
              refine lv_goto (tgt := 203) hx hb d_Mo_take_199 (by decide) ?_
              obtain ⟨hi39, h⟩ := h
              refine as_23 X w hi39 d_Mo_take_203 (fun μ40 H locs eμ40 w => ?_)
              have h := h μ40 eμ40
              refine lv_iconst (v := 0) hx hb d_Mo_take_204 (by decide) ?_
              refine lv_istore (lv' := [(4, .int (0 : Int32)), (0, .ref (E.2.1 19)), (1, .int x1), (2, .int x2), (3, .int x3)]) hx hb d_Mo_take_205 hl (by decide) rfl (fun ls hl => ?_)
              obtain ⟨n, h⟩ := h
              exact L_Mo_take_207 X hr hlk K n x1 x3 (0 : Int32) μ40 _ _ _ h w (lv_sub hl [1, 2, 4, 0] rfl)
            · have h := h.2 c38
              refine lv_aload_n hx hb d_Mo_take_182 rfl (lv_at hl 0 rfl) ?_
              refine gt_19_13 X w w_fl_Mo_61 d_Mo_take_183 ?_
              refine lv_iconst (v := 3) hx hb d_Mo_take_186 (by decide) ?_
              refine lv_icmp_ne (tgt := 202) hx hb d_Mo_take_187 (by decide) (fun c41 => ?_) (fun c41 => ?_)
              · have h := h.1 c41
                refine lv_iconst (v := 0) hx hb d_Mo_take_202 (by decide) ?_
                obtain ⟨hi42, h⟩ := h
                refine as_23 X w hi42 d_Mo_take_203 (fun μ43 H locs eμ43 w => ?_)
                have h := h μ43 eμ43
                refine lv_iconst (v := 0) hx hb d_Mo_take_204 (by decide) ?_
                refine lv_istore (lv' := [(4, .int (0 : Int32)), (0, .ref (E.2.1 19)), (1, .int x1), (2, .int x2), (3, .int x3)]) hx hb d_Mo_take_205 hl (by decide) rfl (fun ls hl => ?_)
                obtain ⟨n, h⟩ := h
                exact L_Mo_take_207 X hr hlk K n x1 x3 (0 : Int32) μ43 _ _ _ h w (lv_sub hl [1, 2, 4, 0] rfl)
              · have h := h.2 c41
                refine lv_iload_n hx hb d_Mo_take_190 rfl (lv_at hl 3 rfl) ?_
                refine lv_aload_n hx hb d_Mo_take_191 rfl (lv_at hl 0 rfl) ?_
                refine gt_19_17 X w w_fl_Mo_67 d_Mo_take_192 ?_
                refine lv_icmp_lt (tgt := 202) hx hb d_Mo_take_195 (by decide) (fun c44 => ?_) (fun c44 => ?_)
                · have h := h.1 c44
                  refine lv_iconst (v := 0) hx hb d_Mo_take_202 (by decide) ?_
                  obtain ⟨hi45, h⟩ := h
                  refine as_23 X w hi45 d_Mo_take_203 (fun μ46 H locs eμ46 w => ?_)
                  have h := h μ46 eμ46
                  refine lv_iconst (v := 0) hx hb d_Mo_take_204 (by decide) ?_
                  refine lv_istore (lv' := [(4, .int (0 : Int32)), (0, .ref (E.2.1 19)), (1, .int x1), (2, .int x2), (3, .int x3)]) hx hb d_Mo_take_205 hl (by decide) rfl (fun ls hl => ?_)
                  obtain ⟨n, h⟩ := h
                  exact L_Mo_take_207 X hr hlk K n x1 x3 (0 : Int32) μ46 _ _ _ h w (lv_sub hl [1, 2, 4, 0] rfl)
                · have h := h.2 c44
                  refine lv_iconst (v := 1) hx hb d_Mo_take_198 (by decide) ?_
                  refine lv_goto (tgt := 203) hx hb d_Mo_take_199 (by decide) ?_
                  obtain ⟨hi47, h⟩ := h
                  refine as_23 X w hi47 d_Mo_take_203 (fun μ48 H locs eμ48 w => ?_)
                  have h := h μ48 eμ48
                  refine lv_iconst (v := 0) hx hb d_Mo_take_204 (by decide) ?_
                  refine lv_istore (lv' := [(4, .int (0 : Int32)), (0, .ref (E.2.1 19)), (1, .int x1), (2, .int x2), (3, .int x3)]) hx hb d_Mo_take_205 hl (by decide) rfl (fun ls hl => ?_)
                  obtain ⟨n, h⟩ := h
                  exact L_Mo_take_207 X hr hlk K n x1 x3 (0 : Int32) μ48 _ _ _ h w (lv_sub hl [1, 2, 4, 0] rfl)
        · have h := h.2 c32
          refine lv_aload_n hx hb d_Mo_take_142 rfl (lv_at hl 0 rfl) ?_
          refine lv_dup hx hb d_Mo_take_143 rfl ?_
          refine gt_19_21 X w w_fl_Mo_79 d_Mo_take_144 ?_
          refine lv_iconst (v := 1) hx hb d_Mo_take_147 (by decide) ?_
          refine lv_iadd hx hb d_Mo_take_148 ?_
          refine pt_19_21 X w w_fl_Mo_79 d_Mo_take_149 (fun μ49 H locs eμ49 w => ?_)
          have h := h μ49 eμ49
          refine lv_iconst (v := (-1)) hx hb d_Mo_take_152 (by decide) ?_
          exact z_iret X hr hlk w h d_Mo_take_153
      · have h := h.2 c31
        refine lv_aload_n hx hb d_Mo_take_106 rfl (lv_at hl 0 rfl) ?_
        refine gt_19_5 X w w_fl_Mo_13 d_Mo_take_107 ?_
        refine lv_iload hx hb d_Mo_take_110 (lv_at hl 4 rfl) ?_
        obtain ⟨hi50, h⟩ := h
        refine al_21 X w hi50 d_Mo_take_112 ?_
        refine lv_iconst (v := (-1)) hx hb d_Mo_take_113 (by decide) ?_
        refine lv_icmp_ne (tgt := 131) hx hb d_Mo_take_114 (by decide) (fun c51 => ?_) (fun c51 => ?_)
        · have h := h.1 c51
          obtain ⟨x52, ex52⟩ : ∃ y : Int32, y = x4 + 1 := ⟨_, rfl⟩
          have h := h x52 ex52
          refine lv_iinc (v := x52) (lv' := [(4, .int x52), (0, .ref (E.2.1 19)), (1, .int x1), (2, .int x2), (3, .int x3)]) hx hb d_Mo_take_131 hl (k := 4) rfl (by rw [ex52]; rfl) (by decide) rfl (fun ls hl => ?_)
          refine lv_goto (tgt := 92) hx hb d_Mo_take_134 (by decide) ?_
          exact ih x1 x2 x3 x52 μ _ _ _ h w (lv_sub hl [1, 2, 3, 4, 0] rfl)
        · have h := h.2 c51
          refine lv_aload_n hx hb d_Mo_take_117 rfl (lv_at hl 0 rfl) ?_
          refine gt_19_5 X w w_fl_Mo_13 d_Mo_take_118 ?_
          refine lv_iload hx hb d_Mo_take_121 (lv_at hl 4 rfl) ?_
          refine lv_iload_n hx hb d_Mo_take_123 rfl (lv_at hl 1 rfl) ?_
          obtain ⟨hi53, h⟩ := h
          refine as_21 X w hi53 d_Mo_take_124 (fun μ54 H locs eμ54 w => ?_)
          have h := h μ54 eμ54
          refine lv_bipush (v := 64) hx hb d_Mo_take_125 (by decide) ?_
          refine lv_iload hx hb d_Mo_take_127 (lv_at hl 4 rfl) ?_
          refine lv_imul hx hb d_Mo_take_129 ?_
          refine lv_topi (fun x55 ex55 => ?_)
          have h := h x55 ex55
          refine lv_istore_n (lv' := [(3, .int x55), (0, .ref (E.2.1 19)), (1, .int x1), (2, .int x2), (4, .int x4)]) hx hb d_Mo_take_130 rfl hl (by decide) rfl (fun ls hl => ?_)
          obtain ⟨x56, ex56⟩ : ∃ y : Int32, y = x4 + 1 := ⟨_, rfl⟩
          have h := h x56 ex56
          refine lv_iinc (v := x56) (lv' := [(4, .int x56), (3, .int x55), (0, .ref (E.2.1 19)), (1, .int x1), (2, .int x2)]) hx hb d_Mo_take_131 hl (k := 4) rfl (by rw [ex56]; rfl) (by decide) rfl (fun ls hl => ?_)
          refine lv_goto (tgt := 92) hx hb d_Mo_take_134 (by decide) ?_
          exact ih x1 x2 x55 x56 μ54 _ _ _ h w (lv_sub hl [2, 3, 4, 1, 0] rfl)

set_option maxHeartbeats 4000000 in
set_option maxRecDepth 100000 in
theorem L_Mo_take_26 {p : Program} {l : Launch} {e : Env} {s : State} {m : MethodId} {args : Array Value} {below : List Frame} {meth : Method} {c : Code} {E : zE} (X : zX E p s m args c prog_8_method_18_code "BeatHeapModel" 6) (hr : meth.sig.returnType = (some .int)) (hlk : meth.locks = false) (K : Int32 → zM → Prop) (C5 : Int32 → Int32 → Int32 → Int32 → zM → Prop) (hC5 : ∀ (x1 x2 x3 x4 : Int32) (μ : zM) (H : Heap) (locs : List Loc) (ls : Array Slot), C5 x1 x2 x3 x4 μ → zW zwM E s μ H locs → lv_has ls 6 [(0, .ref (E.2.1 19)), (1, .int x1), (2, .int x2), (3, .int x3), (4, .int x4)] → W p l e { frames := 1, cells := 0, slots := 0, locals := 20 } s m args below meth c H locs 0 0 (MQ below (va_Qi K (zR zwM E) (zA E)) args s 0 0 (zA E)) (F0 m 5 ls [])) : ∀ (n : Nat) (x1 x2 x3 x4 x5 : Int32) (μ : zM) (H : Heap) (locs : List Loc) (ls : Array Slot), F_Mo_take_26 K C5 n x1 x2 x3 x4 x5 μ → zW zwM E s μ H locs → lv_has ls 6 [(0, .ref (E.2.1 19)), (1, .int x1), (2, .int x2), (3, .int x3), (4, .int x4), (5, .int x5)] → W p l e { frames := 1, cells := 0, slots := 0, locals := 20 } s m args below meth c H locs 0 0 (MQ below (va_Qi K (zR zwM E) (zA E)) args s 0 0 (zA E)) (F0 m 26 ls []) := by
  have hx := X.1
  have hb := X.2.1
  intro n
  induction n with
  | zero => intro x1 x2 x3 x4 x5 μ H locs ls h; exact False.elim h
  | succ n ih =>
    intro x1 x2 x3 x4 x5 μ H locs ls h w hl
    refine lv_iload hx hb d_Mo_take_26 (lv_at hl 5 rfl) ?_
    refine lv_bipush (v := 64) hx hb d_Mo_take_28 (by decide) ?_
    refine lv_iload hx hb d_Mo_take_30 (lv_at hl 4 rfl) ?_
    refine lv_iconst (v := 1) hx hb d_Mo_take_32 (by decide) ?_
    refine lv_iadd hx hb d_Mo_take_33 ?_
    refine lv_imul hx hb d_Mo_take_34 ?_
    refine lv_icmp_ge (tgt := 83) hx hb d_Mo_take_35 (by decide) (fun c59 => ?_) (fun c59 => ?_)
    · have h := h.1 c59
      obtain ⟨x60, ex60⟩ : ∃ y : Int32, y = x4 + 1 := ⟨_, rfl⟩
      have h := h x60 ex60
      refine lv_iinc (v := x60) (lv' := [(4, .int x60), (0, .ref (E.2.1 19)), (1, .int x1), (2, .int x2), (3, .int x3), (5, .int x5)]) hx hb d_Mo_take_83 hl (k := 4) rfl (by rw [ex60]; rfl) (by decide) rfl (fun ls hl => ?_)
      refine lv_goto (tgt := 5) hx hb d_Mo_take_86 (by decide) ?_
      exact hC5 x1 x2 x3 x60 μ _ _ _ h w (lv_sub hl [1, 2, 3, 4, 0] rfl)
    · have h := h.2 c59
      refine lv_aload_n hx hb d_Mo_take_38 rfl (lv_at hl 0 rfl) ?_
      refine gt_19_5 X w w_fl_Mo_13 d_Mo_take_39 ?_
      refine lv_iload hx hb d_Mo_take_42 (lv_at hl 4 rfl) ?_
      obtain ⟨hi61, h⟩ := h
      refine al_21 X w hi61 d_Mo_take_44 ?_
      refine lv_iload_n hx hb d_Mo_take_45 rfl (lv_at hl 1 rfl) ?_
      refine lv_icmp_ne (tgt := 83) hx hb d_Mo_take_46 (by decide) (fun c62 => ?_) (fun c62 => ?_)
      · have h := h.1 c62
        obtain ⟨x63, ex63⟩ : ∃ y : Int32, y = x4 + 1 := ⟨_, rfl⟩
        have h := h x63 ex63
        refine lv_iinc (v := x63) (lv' := [(4, .int x63), (0, .ref (E.2.1 19)), (1, .int x1), (2, .int x2), (3, .int x3), (5, .int x5)]) hx hb d_Mo_take_83 hl (k := 4) rfl (by rw [ex63]; rfl) (by decide) rfl (fun ls hl => ?_)
        refine lv_goto (tgt := 5) hx hb d_Mo_take_86 (by decide) ?_
        exact hC5 x1 x2 x3 x63 μ _ _ _ h w (lv_sub hl [1, 2, 3, 4, 0] rfl)
      · have h := h.2 c62
        refine lv_iload_n hx hb d_Mo_take_49 rfl (lv_at hl 3 rfl) ?_
        refine lv_iconst (v := (-1)) hx hb d_Mo_take_50 (by decide) ?_
        refine lv_icmp_ne (tgt := 83) hx hb d_Mo_take_51 (by decide) (fun c64 => ?_) (fun c64 => ?_)
        · have h := h.1 c64
          obtain ⟨x65, ex65⟩ : ∃ y : Int32, y = x4 + 1 := ⟨_, rfl⟩
          have h := h x65 ex65
          refine lv_iinc (v := x65) (lv' := [(4, .int x65), (0, .ref (E.2.1 19)), (1, .int x1), (2, .int x2), (3, .int x3), (5, .int x5)]) hx hb d_Mo_take_83 hl (k := 4) rfl (by rw [ex65]; rfl) (by decide) rfl (fun ls hl => ?_)
          refine lv_goto (tgt := 5) hx hb d_Mo_take_86 (by decide) ?_
          exact hC5 x1 x2 x3 x65 μ _ _ _ h w (lv_sub hl [1, 2, 3, 4, 0] rfl)
        · have h := h.2 c64
          refine lv_aload_n hx hb d_Mo_take_54 rfl (lv_at hl 0 rfl) ?_
          refine gt_19_6 X w w_fl_Mo_16 d_Mo_take_55 ?_
          refine lv_iload hx hb d_Mo_take_58 (lv_at hl 5 rfl) ?_
          obtain ⟨hi66, h⟩ := h
          refine al_22 X w hi66 d_Mo_take_60 ?_
          refine lv_if_ne (tgt := 69) hx hb d_Mo_take_61 (by decide) (fun c67 => ?_) (fun c67 => ?_)
          · have h := h.1 c67
            refine lv_iconst (v := (-1)) hx hb d_Mo_take_69 (by decide) ?_
            refine lv_istore_n (lv' := [(3, .int (-1 : Int32)), (0, .ref (E.2.1 19)), (1, .int x1), (2, .int x2), (4, .int x4), (5, .int x5)]) hx hb d_Mo_take_70 rfl hl (by decide) rfl (fun ls hl => ?_)
            refine lv_iload hx hb d_Mo_take_71 (lv_at hl 5 rfl) ?_
            refine lv_iload_n hx hb d_Mo_take_73 rfl (lv_at hl 2 rfl) ?_
            refine z_cSi (As := [.int x1]) (rest := [.int x5]) X w (c_Mo_sizeOf l E μ x1 _ h) w_ml_Mo_88 w_st_Mo_sizeOf w_in_Mo w_co_Mo_sizeOf q_Mo_sizeOf.1 q_Mo_sizeOf.2 rfl ⟨Nat.le_of_ble_eq_true rfl, Nat.le_of_ble_eq_true rfl⟩ ⟨Nat.zero_le _, Nat.zero_le _⟩ hl.1 rfl (Nat.le_of_ble_eq_true rfl) d_Mo_take_74 (fun r69 μ68 H locs h w => ?_)
            refine lv_iadd hx hb d_Mo_take_77 ?_
            refine lv_topi (fun x70 ex70 => ?_)
            have h := h x70 ex70
            refine lv_istore (lv' := [(5, .int x70), (3, .int (-1 : Int32)), (0, .ref (E.2.1 19)), (1, .int x1), (2, .int x2), (4, .int x4)]) hx hb d_Mo_take_78 hl (by decide) rfl (fun ls hl => ?_)
            refine lv_goto (tgt := 26) hx hb d_Mo_take_80 (by decide) ?_
            exact ih x1 x2 (-1 : Int32) x4 x70 μ68 _ _ _ h w (lv_sub hl [2, 3, 4, 1, 5, 0] rfl)
          · have h := h.2 c67
            refine lv_iload hx hb d_Mo_take_64 (lv_at hl 5 rfl) ?_
            refine lv_goto (tgt := 70) hx hb d_Mo_take_66 (by decide) ?_
            refine lv_istore_n (lv' := [(3, .int x5), (0, .ref (E.2.1 19)), (1, .int x1), (2, .int x2), (4, .int x4), (5, .int x5)]) hx hb d_Mo_take_70 rfl hl (by decide) rfl (fun ls hl => ?_)
            refine lv_iload hx hb d_Mo_take_71 (lv_at hl 5 rfl) ?_
            refine lv_iload_n hx hb d_Mo_take_73 rfl (lv_at hl 2 rfl) ?_
            refine z_cSi (As := [.int x1]) (rest := [.int x5]) X w (c_Mo_sizeOf l E μ x1 _ h) w_ml_Mo_88 w_st_Mo_sizeOf w_in_Mo w_co_Mo_sizeOf q_Mo_sizeOf.1 q_Mo_sizeOf.2 rfl ⟨Nat.le_of_ble_eq_true rfl, Nat.le_of_ble_eq_true rfl⟩ ⟨Nat.zero_le _, Nat.zero_le _⟩ hl.1 rfl (Nat.le_of_ble_eq_true rfl) d_Mo_take_74 (fun r72 μ71 H locs h w => ?_)
            refine lv_iadd hx hb d_Mo_take_77 ?_
            refine lv_topi (fun x73 ex73 => ?_)
            have h := h x73 ex73
            refine lv_istore (lv' := [(5, .int x73), (3, .int x5), (0, .ref (E.2.1 19)), (1, .int x1), (2, .int x2), (4, .int x4)]) hx hb d_Mo_take_78 hl (by decide) rfl (fun ls hl => ?_)
            refine lv_goto (tgt := 26) hx hb d_Mo_take_80 (by decide) ?_
            exact ih x1 x2 x5 x4 x73 μ71 _ _ _ h w (lv_sub hl [2, 3, 4, 1, 5, 0] rfl)

set_option maxHeartbeats 4000000 in
set_option maxRecDepth 100000 in
theorem L_Mo_take_5 {p : Program} {l : Launch} {e : Env} {s : State} {m : MethodId} {args : Array Value} {below : List Frame} {meth : Method} {c : Code} {E : zE} (X : zX E p s m args c prog_8_method_18_code "BeatHeapModel" 6) (hr : meth.sig.returnType = (some .int)) (hlk : meth.locks = false) (K : Int32 → zM → Prop) : ∀ (n : Nat) (x1 x2 x3 x4 : Int32) (μ : zM) (H : Heap) (locs : List Loc) (ls : Array Slot), F_Mo_take_5 K n x1 x2 x3 x4 μ → zW zwM E s μ H locs → lv_has ls 6 [(0, .ref (E.2.1 19)), (1, .int x1), (2, .int x2), (3, .int x3), (4, .int x4)] → W p l e { frames := 1, cells := 0, slots := 0, locals := 20 } s m args below meth c H locs 0 0 (MQ below (va_Qi K (zR zwM E) (zA E)) args s 0 0 (zA E)) (F0 m 5 ls []) := by
  have hx := X.1
  have hb := X.2.1
  intro n
  induction n with
  | zero => intro x1 x2 x3 x4 μ H locs ls h; exact False.elim h
  | succ n ih =>
    intro x1 x2 x3 x4 μ H locs ls h w hl
    refine lv_iload hx hb d_Mo_take_5 (lv_at hl 4 rfl) ?_
    refine lv_aload_n hx hb d_Mo_take_7 rfl (lv_at hl 0 rfl) ?_
    refine gt_19_0 X w w_fl_Mo_45 d_Mo_take_8 ?_
    refine lv_icmp_ge (tgt := 89) hx hb d_Mo_take_11 (by decide) (fun c1 => ?_) (fun c1 => ?_)
    · have h := h.1 c1
      refine lv_iconst (v := 0) hx hb d_Mo_take_89 (by decide) ?_
      refine lv_istore (lv' := [(4, .int (0 : Int32)), (0, .ref (E.2.1 19)), (1, .int x1), (2, .int x2), (3, .int x3)]) hx hb d_Mo_take_90 hl (by decide) rfl (fun ls hl => ?_)
      obtain ⟨n, h⟩ := h
      exact L_Mo_take_92 X hr hlk K n x1 x2 x3 (0 : Int32) μ _ _ _ h w (lv_sub hl [1, 2, 3, 4, 0] rfl)
    · have h := h.2 c1
      refine lv_iload_n hx hb d_Mo_take_14 rfl (lv_at hl 3 rfl) ?_
      refine lv_iconst (v := (-1)) hx hb d_Mo_take_15 (by decide) ?_
      refine lv_icmp_ne (tgt := 89) hx hb d_Mo_take_16 (by decide) (fun c57 => ?_) (fun c57 => ?_)
      · have h := h.1 c57
        refine lv_iconst (v := 0) hx hb d_Mo_take_89 (by decide) ?_
        refine lv_istore (lv' := [(4, .int (0 : Int32)), (0, .ref (E.2.1 19)), (1, .int x1), (2, .int x2), (3, .int x3)]) hx hb d_Mo_take_90 hl (by decide) rfl (fun ls hl => ?_)
        obtain ⟨n, h⟩ := h
        exact L_Mo_take_92 X hr hlk K n x1 x2 x3 (0 : Int32) μ _ _ _ h w (lv_sub hl [1, 2, 3, 4, 0] rfl)
      · have h := h.2 c57
        refine lv_bipush (v := 64) hx hb d_Mo_take_19 (by decide) ?_
        refine lv_iload hx hb d_Mo_take_21 (lv_at hl 4 rfl) ?_
        refine lv_imul hx hb d_Mo_take_23 ?_
        refine lv_topi (fun x58 ex58 => ?_)
        have h := h x58 ex58
        refine lv_istore (lv' := [(5, .int x58), (0, .ref (E.2.1 19)), (1, .int x1), (2, .int x2), (3, .int x3), (4, .int x4)]) hx hb d_Mo_take_24 hl (by decide) rfl (fun ls hl => ?_)
        obtain ⟨n, h⟩ := h
        exact L_Mo_take_26 X hr hlk K _ ih n x1 x2 x3 x4 x58 μ _ _ _ h w (lv_sub hl [1, 2, 3, 4, 5, 0] rfl)

set_option maxHeartbeats 4000000 in
set_option maxRecDepth 100000 in
theorem c_Mo_take (l : Launch) (E : zE) (μ : zM) (a1 a2 : Int32) (K : Int32 → zM → Prop) (h : f_Mo_take μ a1 a2 K) : Met l y_Mo_take (Cond.code y_Mo_take prog_8_method_18_code 6 (some .int) :: zT) { frames := 1, cells := 0, slots := 0, locals := 20 } (va_Pc [.ref (E.2.1 19), .int a1, .int a2] (zR zwM E μ)) (va_Qi K (zR zwM E) (zA E)) 0 0 (zA E) := by
  refine z_head (by decide) (Nat.le_of_ble_eq_true rfl) ?_
  intro p e s m below meth c X hr hlk w ls hl
  have X : zX E p s m _ c prog_8_method_18_code "BeatHeapModel" 6 := X
  have hx := X.1
  have hb := X.2.1
  have hl : lv_has ls 6 [(0, .ref (E.2.1 19)), (1, .int a1), (2, .int a2)] := hl
  unfold f_Mo_take at h
  refine lv_iconst (v := (-1)) hx hb d_Mo_take_0 (by decide) ?_
  refine lv_istore_n (lv' := [(3, .int (-1 : Int32)), (0, .ref (E.2.1 19)), (1, .int a1), (2, .int a2)]) hx hb d_Mo_take_1 rfl hl (by decide) rfl (fun ls hl => ?_)
  refine lv_iconst (v := 0) hx hb d_Mo_take_2 (by decide) ?_
  refine lv_istore (lv' := [(4, .int (0 : Int32)), (3, .int (-1 : Int32)), (0, .ref (E.2.1 19)), (1, .int a1), (2, .int a2)]) hx hb d_Mo_take_3 hl (by decide) rfl (fun ls hl => ?_)
  obtain ⟨n, h⟩ := h
  exact L_Mo_take_5 X hr hlk K n a1 a2 (-1 : Int32) (0 : Int32) μ _ _ _ h w (lv_sub hl [2, 3, 4, 1, 0] rfl)
theorem q_Mo_grey : (y_Mo_grey.cls ≠ "java/lang/invoke/MethodHandle" ∧ y_Mo_grey.cls ≠ "java/lang/invoke/VarHandle") ∧ (parseMethodDescriptor y_Mo_grey.desc).map (fun d => d.parameters.length) = some 1 := by decide +kernel
theorem d_Mo_grey_0 : decode prog_8_method_11_code 0 = .ok (.iload_n 1, 1) := by decide +kernel
theorem d_Mo_grey_1 : decode prog_8_method_11_code 1 = .ok (.iconst (-1), 1) := by decide +kernel
theorem d_Mo_grey_2 : decode prog_8_method_11_code 2 = .ok (.if_icmp .eq 39, 3) := by decide +kernel
theorem d_Mo_grey_5 : decode prog_8_method_11_code 5 = .ok (.aload_n 0, 1) := by decide +kernel
theorem d_Mo_grey_6 : decode prog_8_method_11_code 6 = .ok (.getfield 19, 3) := by decide +kernel
theorem d_Mo_grey_9 : decode prog_8_method_11_code 9 = .ok (.iload_n 1, 1) := by decide +kernel
theorem d_Mo_grey_10 : decode prog_8_method_11_code 10 = .ok (.baload, 1) := by decide +kernel
theorem d_Mo_grey_11 : decode prog_8_method_11_code 11 = .ok (.ifCond .ne 30, 3) := by decide +kernel
theorem d_Mo_grey_14 : decode prog_8_method_11_code 14 = .ok (.aload_n 0, 1) := by decide +kernel
theorem d_Mo_grey_15 : decode prog_8_method_11_code 15 = .ok (.getfield 19, 3) := by decide +kernel
theorem d_Mo_grey_18 : decode prog_8_method_11_code 18 = .ok (.iload_n 1, 1) := by decide +kernel
theorem d_Mo_grey_19 : decode prog_8_method_11_code 19 = .ok (.iconst 1, 1) := by decide +kernel
theorem d_Mo_grey_20 : decode prog_8_method_11_code 20 = .ok (.bastore, 1) := by decide +kernel
theorem d_Mo_grey_21 : decode prog_8_method_11_code 21 = .ok (.aload_n 0, 1) := by decide +kernel
theorem d_Mo_grey_22 : decode prog_8_method_11_code 22 = .ok (.getfield 32, 3) := by decide +kernel
theorem d_Mo_grey_25 : decode prog_8_method_11_code 25 = .ok (.aload_n 0, 1) := by decide +kernel
theorem d_Mo_grey_26 : decode prog_8_method_11_code 26 = .ok (.getfield 58, 3) := by decide +kernel
theorem d_Mo_grey_29 : decode prog_8_method_11_code 29 = .ok (.iload_n 1, 1) := by decide +kernel
theorem d_Mo_grey_30 : decode prog_8_method_11_code 30 = .ok (.iastore, 1) := by decide +kernel
theorem d_Mo_grey_31 : decode prog_8_method_11_code 31 = .ok (.aload_n 0, 1) := by decide +kernel
theorem d_Mo_grey_32 : decode prog_8_method_11_code 32 = .ok (.dup, 1) := by decide +kernel
theorem d_Mo_grey_33 : decode prog_8_method_11_code 33 = .ok (.getfield 58, 3) := by decide +kernel
theorem d_Mo_grey_36 : decode prog_8_method_11_code 36 = .ok (.iconst 1, 1) := by decide +kernel
theorem d_Mo_grey_37 : decode prog_8_method_11_code 37 = .ok (.iadd, 1) := by decide +kernel
theorem d_Mo_grey_38 : decode prog_8_method_11_code 38 = .ok (.putfield 58, 3) := by decide +kernel
theorem d_Mo_grey_41 : decode prog_8_method_11_code 41 = .ok (.return_, 1) := by decide +kernel
def f_Mo_grey (μ : zM) (a1 : Int32) (K : zM → Prop) : Prop := (a1 = (-1 : Int32) → (K μ)) ∧ (¬ a1 = (-1 : Int32) → (vp_in a1 4096 ∧ ((¬ (μ 23 a1.toNatClampNeg) = 0 → (K μ)) ∧ ((μ 23 a1.toNatClampNeg) = 0 → (vp_in a1 4096 ∧ ∀ μ5 : zM, μ5 = zp μ 23 a1.toNatClampNeg (vp_nar .boolean (1 : Int32)) → (vp_in (μ5 19 12) 1100 ∧ ∀ μ7 : zM, μ7 = zp μ5 27 (μ5 19 12).toNatClampNeg a1 → (∀ μ8 : zM, μ8 = zp μ7 19 12 ((μ7 19 12) + (1 : Int32)) → (K μ8))))))))
set_option maxHeartbeats 4000000 in
set_option maxRecDepth 100000 in
theorem c_Mo_grey (l : Launch) (E : zE) (μ : zM) (a1 : Int32) (K : zM → Prop) (h : f_Mo_grey μ a1 K) : Met l y_Mo_grey (Cond.code y_Mo_grey prog_8_method_11_code 2 none :: zT) { frames := 0, cells := 0, slots := 0, locals := 0 } (va_Pc [.ref (E.2.1 19), .int a1] (zR zwM E μ)) (va_Qv K (zR zwM E) (zA E)) 0 0 (zA E) := by
  refine z_head (by decide) (Nat.le_of_ble_eq_true rfl) ?_
  intro p e s m below meth c X hr hlk w ls hl
  have X : zX E p s m _ c prog_8_method_11_code "BeatHeapModel" 2 := X
  have hx := X.1
  have hb := X.2.1
  have hl : lv_has ls 2 [(0, .ref (E.2.1 19)), (1, .int a1)] := hl
  unfold f_Mo_grey at h
  refine lv_iload_n hx hb d_Mo_grey_0 rfl (lv_at hl 1 rfl) ?_
  refine lv_iconst (v := (-1)) hx hb d_Mo_grey_1 (by decide) ?_
  refine lv_icmp_eq (tgt := 41) hx hb d_Mo_grey_2 (by decide) (fun c1 => ?_) (fun c1 => ?_)
  · have h := h.1 c1
    exact z_vret X hr hlk w h d_Mo_grey_41
  · have h := h.2 c1
    refine lv_aload_n hx hb d_Mo_grey_5 rfl (lv_at hl 0 rfl) ?_
    refine gt_19_7 X w w_fl_Mo_19 d_Mo_grey_6 ?_
    refine lv_iload_n hx hb d_Mo_grey_9 rfl (lv_at hl 1 rfl) ?_
    obtain ⟨hi2, h⟩ := h
    refine al_23 X w hi2 d_Mo_grey_10 ?_
    refine lv_if_ne (tgt := 41) hx hb d_Mo_grey_11 (by decide) (fun c3 => ?_) (fun c3 => ?_)
    · have h := h.1 c3
      exact z_vret X hr hlk w h d_Mo_grey_41
    · have h := h.2 c3
      refine lv_aload_n hx hb d_Mo_grey_14 rfl (lv_at hl 0 rfl) ?_
      refine gt_19_7 X w w_fl_Mo_19 d_Mo_grey_15 ?_
      refine lv_iload_n hx hb d_Mo_grey_18 rfl (lv_at hl 1 rfl) ?_
      refine lv_iconst (v := 1) hx hb d_Mo_grey_19 (by decide) ?_
      obtain ⟨hi4, h⟩ := h
      refine as_23 X w hi4 d_Mo_grey_20 (fun μ5 H locs eμ5 w => ?_)
      have h := h μ5 eμ5
      refine lv_aload_n hx hb d_Mo_grey_21 rfl (lv_at hl 0 rfl) ?_
      refine gt_19_11 X w w_fl_Mo_32 d_Mo_grey_22 ?_
      refine lv_aload_n hx hb d_Mo_grey_25 rfl (lv_at hl 0 rfl) ?_
      refine gt_19_12 X w w_fl_Mo_58 d_Mo_grey_26 ?_
      refine lv_iload_n hx hb d_Mo_grey_29 rfl (lv_at hl 1 rfl) ?_
      obtain ⟨hi6, h⟩ := h
      refine as_27 X w hi6 d_Mo_grey_30 (fun μ7 H locs eμ7 w => ?_)
      have h := h μ7 eμ7
      refine lv_aload_n hx hb d_Mo_grey_31 rfl (lv_at hl 0 rfl) ?_
      refine lv_dup hx hb d_Mo_grey_32 rfl ?_
      refine gt_19_12 X w w_fl_Mo_58 d_Mo_grey_33 ?_
      refine lv_iconst (v := 1) hx hb d_Mo_grey_36 (by decide) ?_
      refine lv_iadd hx hb d_Mo_grey_37 ?_
      refine pt_19_12 X w w_fl_Mo_58 d_Mo_grey_38 (fun μ8 H locs eμ8 w => ?_)
      have h := h μ8 eμ8
      exact z_vret X hr hlk w h d_Mo_grey_41
theorem q_Mo_before : (y_Mo_before.cls ≠ "java/lang/invoke/MethodHandle" ∧ y_Mo_before.cls ≠ "java/lang/invoke/VarHandle") ∧ (parseMethodDescriptor y_Mo_before.desc).map (fun d => d.parameters.length) = some 1 := by decide +kernel
theorem d_Mo_before_0 : decode prog_8_method_12_code 0 = .ok (.aload_n 0, 1) := by decide +kernel
theorem d_Mo_before_1 : decode prog_8_method_12_code 1 = .ok (.getfield 61, 3) := by decide +kernel
theorem d_Mo_before_4 : decode prog_8_method_12_code 4 = .ok (.iconst 1, 1) := by decide +kernel
theorem d_Mo_before_5 : decode prog_8_method_12_code 5 = .ok (.if_icmp .eq 11, 3) := by decide +kernel
theorem d_Mo_before_8 : decode prog_8_method_12_code 8 = .ok (.aload_n 0, 1) := by decide +kernel
theorem d_Mo_before_9 : decode prog_8_method_12_code 9 = .ok (.getfield 61, 3) := by decide +kernel
theorem d_Mo_before_12 : decode prog_8_method_12_code 12 = .ok (.iconst 2, 1) := by decide +kernel
theorem d_Mo_before_13 : decode prog_8_method_12_code 13 = .ok (.if_icmp .ne 8, 3) := by decide +kernel
theorem d_Mo_before_16 : decode prog_8_method_12_code 16 = .ok (.aload_n 0, 1) := by decide +kernel
theorem d_Mo_before_17 : decode prog_8_method_12_code 17 = .ok (.iload_n 1, 1) := by decide +kernel
theorem d_Mo_before_18 : decode prog_8_method_12_code 18 = .ok (.invokevirtual 109, 3) := by decide +kernel
theorem d_Mo_before_21 : decode prog_8_method_12_code 21 = .ok (.return_, 1) := by decide +kernel
def f_Mo_before (μ : zM) (a1 : Int32) (K : zM → Prop) : Prop := ((μ 19 13) = (1 : Int32) → (f_Mo_grey μ a1 (fun μ2 => (K μ2)))) ∧ (¬ (μ 19 13) = (1 : Int32) → ((¬ (μ 19 13) = (2 : Int32) → (K μ)) ∧ ((μ 19 13) = (2 : Int32) → (f_Mo_grey μ a1 (fun μ4 => (K μ4))))))
set_option maxHeartbeats 4000000 in
set_option maxRecDepth 100000 in
theorem c_Mo_before (l : Launch) (E : zE) (μ : zM) (a1 : Int32) (K : zM → Prop) (h : f_Mo_before μ a1 K) : Met l y_Mo_before (Cond.code y_Mo_before prog_8_method_12_code 2 none :: zT) { frames := 1, cells := 0, slots := 0, locals := 21 } (va_Pc [.ref (E.2.1 19), .int a1] (zR zwM E μ)) (va_Qv K (zR zwM E) (zA E)) 0 0 (zA E) := by
  refine z_head (by decide) (Nat.le_of_ble_eq_true rfl) ?_
  intro p e s m below meth c X hr hlk w ls hl
  have X : zX E p s m _ c prog_8_method_12_code "BeatHeapModel" 2 := X
  have hx := X.1
  have hb := X.2.1
  have hl : lv_has ls 2 [(0, .ref (E.2.1 19)), (1, .int a1)] := hl
  unfold f_Mo_before at h
  refine lv_aload_n hx hb d_Mo_before_0 rfl (lv_at hl 0 rfl) ?_
  refine gt_19_13 X w w_fl_Mo_61 d_Mo_before_1 ?_
  refine lv_iconst (v := 1) hx hb d_Mo_before_4 (by decide) ?_
  refine lv_icmp_eq (tgt := 16) hx hb d_Mo_before_5 (by decide) (fun c1 => ?_) (fun c1 => ?_)
  · have h := h.1 c1
    refine lv_aload_n hx hb d_Mo_before_16 rfl (lv_at hl 0 rfl) ?_
    refine lv_iload_n hx hb d_Mo_before_17 rfl (lv_at hl 1 rfl) ?_
    refine z_cVv (As := [.int a1]) (rest := []) (q0 := 0) (ci := 6) X w (c_Mo_grey l E μ a1 _ h) rfl rfl rfl w_ml_Mo_109 ⟨w_im_Mo_grey, w_se_Mo_grey⟩ w_in_Mo w_co_Mo_grey q_Mo_grey.1 q_Mo_grey.2 rfl ⟨Nat.le_of_ble_eq_true rfl, Nat.le_of_ble_eq_true rfl⟩ ⟨Nat.zero_le _, Nat.zero_le _⟩ hl.1 rfl (Nat.le_of_ble_eq_true rfl) d_Mo_before_18 (fun μ2 H locs h w => ?_)
    exact z_vret X hr hlk w h d_Mo_before_21
  · have h := h.2 c1
    refine lv_aload_n hx hb d_Mo_before_8 rfl (lv_at hl 0 rfl) ?_
    refine gt_19_13 X w w_fl_Mo_61 d_Mo_before_9 ?_
    refine lv_iconst (v := 2) hx hb d_Mo_before_12 (by decide) ?_
    refine lv_icmp_ne (tgt := 21) hx hb d_Mo_before_13 (by decide) (fun c3 => ?_) (fun c3 => ?_)
    · have h := h.1 c3
      exact z_vret X hr hlk w h d_Mo_before_21
    · have h := h.2 c3
      refine lv_aload_n hx hb d_Mo_before_16 rfl (lv_at hl 0 rfl) ?_
      refine lv_iload_n hx hb d_Mo_before_17 rfl (lv_at hl 1 rfl) ?_
      refine z_cVv (As := [.int a1]) (rest := []) (q0 := 0) (ci := 6) X w (c_Mo_grey l E μ a1 _ h) rfl rfl rfl w_ml_Mo_109 ⟨w_im_Mo_grey, w_se_Mo_grey⟩ w_in_Mo w_co_Mo_grey q_Mo_grey.1 q_Mo_grey.2 rfl ⟨Nat.le_of_ble_eq_true rfl, Nat.le_of_ble_eq_true rfl⟩ ⟨Nat.zero_le _, Nat.zero_le _⟩ hl.1 rfl (Nat.le_of_ble_eq_true rfl) d_Mo_before_18 (fun μ4 H locs h w => ?_)
      exact z_vret X hr hlk w h d_Mo_before_21
theorem q_Mo_setRoot : (y_Mo_setRoot.cls ≠ "java/lang/invoke/MethodHandle" ∧ y_Mo_setRoot.cls ≠ "java/lang/invoke/VarHandle") ∧ (parseMethodDescriptor y_Mo_setRoot.desc).map (fun d => d.parameters.length) = some 2 := by decide +kernel
theorem d_Mo_setRoot_0 : decode prog_8_method_21_code 0 = .ok (.aload_n 0, 1) := by decide +kernel
theorem d_Mo_setRoot_1 : decode prog_8_method_21_code 1 = .ok (.aload_n 0, 1) := by decide +kernel
theorem d_Mo_setRoot_2 : decode prog_8_method_21_code 2 = .ok (.getfield 29, 3) := by decide +kernel
theorem d_Mo_setRoot_5 : decode prog_8_method_21_code 5 = .ok (.iload_n 1, 1) := by decide +kernel
theorem d_Mo_setRoot_6 : decode prog_8_method_21_code 6 = .ok (.iaload, 1) := by decide +kernel
theorem d_Mo_setRoot_7 : decode prog_8_method_21_code 7 = .ok (.invokevirtual 131, 3) := by decide +kernel
theorem d_Mo_setRoot_10 : decode prog_8_method_21_code 10 = .ok (.aload_n 0, 1) := by decide +kernel
theorem d_Mo_setRoot_11 : decode prog_8_method_21_code 11 = .ok (.getfield 29, 3) := by decide +kernel
theorem d_Mo_setRoot_14 : decode prog_8_method_21_code 14 = .ok (.iload_n 1, 1) := by decide +kernel
theorem d_Mo_setRoot_15 : decode prog_8_method_21_code 15 = .ok (.iload_n 2, 1) := by decide +kernel
theorem d_Mo_setRoot_16 : decode prog_8_method_21_code 16 = .ok (.iastore, 1) := by decide +kernel
theorem d_Mo_setRoot_17 : decode prog_8_method_21_code 17 = .ok (.return_, 1) := by decide +kernel
def f_Mo_setRoot (μ : zM) (a1 a2 : Int32) (K : zM → Prop) : Prop := vp_in a1 16 ∧ (f_Mo_before μ (μ 26 a1.toNatClampNeg) (fun μ2 => (vp_in a1 16 ∧ ∀ μ4 : zM, μ4 = zp μ2 26 a1.toNatClampNeg a2 → (K μ4))))
set_option maxHeartbeats 4000000 in
set_option maxRecDepth 100000 in
theorem c_Mo_setRoot (l : Launch) (E : zE) (μ : zM) (a1 a2 : Int32) (K : zM → Prop) (h : f_Mo_setRoot μ a1 a2 K) : Met l y_Mo_setRoot (Cond.code y_Mo_setRoot prog_8_method_21_code 3 none :: zT) { frames := 2, cells := 0, slots := 0, locals := 42 } (va_Pc [.ref (E.2.1 19), .int a1, .int a2] (zR zwM E μ)) (va_Qv K (zR zwM E) (zA E)) 0 0 (zA E) := by
  refine z_head (by decide) (Nat.le_of_ble_eq_true rfl) ?_
  intro p e s m below meth c X hr hlk w ls hl
  have X : zX E p s m _ c prog_8_method_21_code "BeatHeapModel" 3 := X
  have hx := X.1
  have hb := X.2.1
  have hl : lv_has ls 3 [(0, .ref (E.2.1 19)), (1, .int a1), (2, .int a2)] := hl
  unfold f_Mo_setRoot at h
  refine lv_aload_n hx hb d_Mo_setRoot_0 rfl (lv_at hl 0 rfl) ?_
  refine lv_aload_n hx hb d_Mo_setRoot_1 rfl (lv_at hl 0 rfl) ?_
  refine gt_19_10 X w w_fl_Mo_29 d_Mo_setRoot_2 ?_
  refine lv_iload_n hx hb d_Mo_setRoot_5 rfl (lv_at hl 1 rfl) ?_
  obtain ⟨hi1, h⟩ := h
  refine al_26 X w hi1 d_Mo_setRoot_6 ?_
  refine z_cVv (As := [.int (μ 26 a1.toNatClampNeg)]) (rest := []) (q0 := 0) (ci := 6) X w (c_Mo_before l E μ (μ 26 a1.toNatClampNeg) _ h) rfl rfl rfl w_ml_Mo_131 ⟨w_im_Mo_before, w_se_Mo_before⟩ w_in_Mo w_co_Mo_before q_Mo_before.1 q_Mo_before.2 rfl ⟨Nat.le_of_ble_eq_true rfl, Nat.le_of_ble_eq_true rfl⟩ ⟨Nat.zero_le _, Nat.zero_le _⟩ hl.1 rfl (Nat.le_of_ble_eq_true rfl) d_Mo_setRoot_7 (fun μ2 H locs h w => ?_)
  refine lv_aload_n hx hb d_Mo_setRoot_10 rfl (lv_at hl 0 rfl) ?_
  refine gt_19_10 X w w_fl_Mo_29 d_Mo_setRoot_11 ?_
  refine lv_iload_n hx hb d_Mo_setRoot_14 rfl (lv_at hl 1 rfl) ?_
  refine lv_iload_n hx hb d_Mo_setRoot_15 rfl (lv_at hl 2 rfl) ?_
  obtain ⟨hi3, h⟩ := h
  refine as_26 X w hi3 d_Mo_setRoot_16 (fun μ4 H locs eμ4 w => ?_)
  have h := h μ4 eμ4
  exact z_vret X hr hlk w h d_Mo_setRoot_17
theorem q_Mo_ticksOf : (y_Mo_ticksOf.cls ≠ "java/lang/invoke/MethodHandle" ∧ y_Mo_ticksOf.cls ≠ "java/lang/invoke/VarHandle") ∧ (parseMethodDescriptor y_Mo_ticksOf.desc).map (fun d => d.parameters.length) = some 1 := by decide +kernel
theorem d_Mo_ticksOf_0 : decode prog_8_method_19_code 0 = .ok (.iload_n 0, 1) := by decide +kernel
theorem d_Mo_ticksOf_1 : decode prog_8_method_19_code 1 = .ok (.ifCond .ne 7, 3) := by decide +kernel
theorem d_Mo_ticksOf_4 : decode prog_8_method_19_code 4 = .ok (.iconst 2, 1) := by decide +kernel
theorem d_Mo_ticksOf_5 : decode prog_8_method_19_code 5 = .ok (.goto 23, 3) := by decide +kernel
theorem d_Mo_ticksOf_8 : decode prog_8_method_19_code 8 = .ok (.iload_n 0, 1) := by decide +kernel
theorem d_Mo_ticksOf_9 : decode prog_8_method_19_code 9 = .ok (.iconst 1, 1) := by decide +kernel
theorem d_Mo_ticksOf_10 : decode prog_8_method_19_code 10 = .ok (.if_icmp .ne 7, 3) := by decide +kernel
theorem d_Mo_ticksOf_13 : decode prog_8_method_19_code 13 = .ok (.iconst 3, 1) := by decide +kernel
theorem d_Mo_ticksOf_14 : decode prog_8_method_19_code 14 = .ok (.goto 14, 3) := by decide +kernel
theorem d_Mo_ticksOf_17 : decode prog_8_method_19_code 17 = .ok (.iload_n 0, 1) := by decide +kernel
theorem d_Mo_ticksOf_18 : decode prog_8_method_19_code 18 = .ok (.iconst 2, 1) := by decide +kernel
theorem d_Mo_ticksOf_19 : decode prog_8_method_19_code 19 = .ok (.if_icmp .ne 7, 3) := by decide +kernel
theorem d_Mo_ticksOf_22 : decode prog_8_method_19_code 22 = .ok (.iconst 5, 1) := by decide +kernel
theorem d_Mo_ticksOf_23 : decode prog_8_method_19_code 23 = .ok (.goto 5, 3) := by decide +kernel
theorem d_Mo_ticksOf_26 : decode prog_8_method_19_code 26 = .ok (.bipush 9, 2) := by decide +kernel
theorem d_Mo_ticksOf_28 : decode prog_8_method_19_code 28 = .ok (.ireturn, 1) := by decide +kernel
def f_Mo_ticksOf (μ : zM) (a0 : Int32) (K : Int32 → zM → Prop) : Prop := (¬ a0 = 0 → ((¬ a0 = (1 : Int32) → ((¬ a0 = (2 : Int32) → (K (9 : Int32) μ)) ∧ (a0 = (2 : Int32) → (K (5 : Int32) μ)))) ∧ (a0 = (1 : Int32) → (K (3 : Int32) μ)))) ∧ (a0 = 0 → (K (2 : Int32) μ))
set_option maxHeartbeats 4000000 in
set_option maxRecDepth 100000 in
theorem c_Mo_ticksOf (l : Launch) (E : zE) (μ : zM) (a0 : Int32) (K : Int32 → zM → Prop) (h : f_Mo_ticksOf μ a0 K) : Met l y_Mo_ticksOf (Cond.code y_Mo_ticksOf prog_8_method_19_code 1 (some .int) :: zT) { frames := 0, cells := 0, slots := 0, locals := 0 } (va_Pc [.int a0] (zR zwM E μ)) (va_Qi K (zR zwM E) (zA E)) 0 0 (zA E) := by
  refine z_head (by decide) (Nat.le_of_ble_eq_true rfl) ?_
  intro p e s m below meth c X hr hlk w ls hl
  have X : zX E p s m _ c prog_8_method_19_code "BeatHeapModel" 1 := X
  have hx := X.1
  have hb := X.2.1
  have hl : lv_has ls 1 [(0, .int a0)] := hl
  unfold f_Mo_ticksOf at h
  refine lv_iload_n hx hb d_Mo_ticksOf_0 rfl (lv_at hl 0 rfl) ?_
  refine lv_if_ne (tgt := 8) hx hb d_Mo_ticksOf_1 (by decide) (fun c1 => ?_) (fun c1 => ?_)
  · have h := h.1 c1
    refine lv_iload_n hx hb d_Mo_ticksOf_8 rfl (lv_at hl 0 rfl) ?_
    refine lv_iconst (v := 1) hx hb d_Mo_ticksOf_9 (by decide) ?_
    refine lv_icmp_ne (tgt := 17) hx hb d_Mo_ticksOf_10 (by decide) (fun c2 => ?_) (fun c2 => ?_)
    · have h := h.1 c2
      refine lv_iload_n hx hb d_Mo_ticksOf_17 rfl (lv_at hl 0 rfl) ?_
      refine lv_iconst (v := 2) hx hb d_Mo_ticksOf_18 (by decide) ?_
      refine lv_icmp_ne (tgt := 26) hx hb d_Mo_ticksOf_19 (by decide) (fun c3 => ?_) (fun c3 => ?_)
      · have h := h.1 c3
        refine lv_bipush (v := 9) hx hb d_Mo_ticksOf_26 (by decide) ?_
        exact z_iret X hr hlk w h d_Mo_ticksOf_28
      · have h := h.2 c3
        refine lv_iconst (v := 5) hx hb d_Mo_ticksOf_22 (by decide) ?_
        refine lv_goto (tgt := 28) hx hb d_Mo_ticksOf_23 (by decide) ?_
        exact z_iret X hr hlk w h d_Mo_ticksOf_28
    · have h := h.2 c2
      refine lv_iconst (v := 3) hx hb d_Mo_ticksOf_13 (by decide) ?_
      refine lv_goto (tgt := 28) hx hb d_Mo_ticksOf_14 (by decide) ?_
      exact z_iret X hr hlk w h d_Mo_ticksOf_28
  · have h := h.2 c1
    refine lv_iconst (v := 2) hx hb d_Mo_ticksOf_4 (by decide) ?_
    refine lv_goto (tgt := 28) hx hb d_Mo_ticksOf_5 (by decide) ?_
    exact z_iret X hr hlk w h d_Mo_ticksOf_28
