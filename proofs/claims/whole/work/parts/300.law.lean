def zL (E : zE) (s : State) (μ ν : zM) (H : Heap) (locs : List Loc) : Prop := va_P E.1 zcl (zC0 E μ ++ zM0 E ν) H ∧ va_D (zA E) (zC0 E μ ++ zM0 E ν) ∧ va_S (zA E) s.heap H locs
theorem va_P_comm {D : va_G} {cl : List vw_C} {a b : va_W} {H : Heap} (h : va_P D cl (a ++ b) H) : va_P D cl (b ++ a) H := by
  intro k q hk
  have hm : q ∈ a ++ b := by
    rcases List.mem_append.mp (List.mem_of_getElem? hk) with h1 | h1
    · exact List.mem_append.mpr (Or.inr h1)
    · exact List.mem_append.mpr (Or.inl h1)
  obtain ⟨i, hi⟩ := List.getElem?_of_mem hm
  exact h i q hi
theorem va_D_comm {A : Nat → Prop} {a b : va_W} (h : va_D A (a ++ b)) : va_D A (b ++ a) := by
  have key : ∀ (i : Nat) (q : Nat × va_E), (b ++ a)[i]? = some q → i < b.length + a.length ∧ (a ++ b)[if i < b.length then i + a.length else i - b.length]? = some q := by
    intro i q hi
    by_cases hl : i < b.length
    · rw [List.getElem?_append_left hl] at hi
      refine ⟨by omega, ?_⟩
      rw [if_pos hl, List.getElem?_append_right (by omega), show i + a.length - a.length = i by omega]
      exact hi
    · rw [List.getElem?_append_right (by omega)] at hi
      have h2 : i - b.length < a.length := (List.getElem?_eq_some_iff.mp hi).1
      refine ⟨by omega, ?_⟩
      rw [if_neg hl, List.getElem?_append_left h2]
      exact hi
  refine ⟨fun i j p q hi hj e => ?_, fun k q hk => h.2 _ q (key k q hk).2⟩
  obtain ⟨b1, k1⟩ := key i p hi
  obtain ⟨b2, k2⟩ := key j q hj
  have e2 := h.1 _ _ p q k1 k2 e
  split at e2 <;> split at e2 <;> omega
theorem zX_t {E : zE} {tl : va_W} {p : Program} {s : State} {m : MethodId} {args : Array Value} {c : Code} {cc : ByteArray} {own : String} {nL : Nat} (X : zX E p s m args c cc own nL) : zX (zt E tl) p s m args c cc own nL := X
theorem zL_C {E : zE} {s : State} {μ ν : zM} {H : Heap} {locs : List Loc} (w : zL E s μ ν H locs) : zW zwC (zt E (zM0 E ν)) s μ H locs := w
theorem zC_L {E : zE} {s : State} {μ ν : zM} {H : Heap} {locs : List Loc} (w : zW zwC (zt E (zM0 E ν)) s μ H locs) : zL E s μ ν H locs := w
theorem zL_M {E : zE} {s : State} {μ ν : zM} {H : Heap} {locs : List Loc} (w : zL E s μ ν H locs) : zW zwM (zt E (zC0 E μ)) s ν H locs := ⟨va_P_comm w.1, va_D_comm w.2.1, w.2.2⟩
theorem zM_L {E : zE} {s : State} {μ ν : zM} {H : Heap} {locs : List Loc} (w : zW zwM (zt E (zC0 E μ)) s ν H locs) : zL E s μ ν H locs := ⟨va_P_comm w.1, va_D_comm w.2.1, w.2.2⟩
/-! THE CLAIM OUT OF ONE WALK OF THE LAW'S BODY. Your part is whole_start (and what it stands on); all else here is the same for every law, but numbers. -/
def R_law : String := "BeatHeapLaw"
def lw_P (b : Addr) (xs : List Int32) (args : Array Value) (s : State) : Prop := args = #[.ref b] ∧ s.IntsAt b xs ∧ xs.length ≤ 2560 ∧ (Jvm.Cond.and given_1 narrow_1).before args s = true
def lw_Q (_ : Array Value) (s : State) (o : Outcome) (t : State) : Prop := o = .returned (some (.int 1)) ∧ Framed s o t [] 30 41236
def lw_Z (below : List Frame) (a : Array Value) (s : State) : State → Prop := fun t => ∃ o, t.status = .running ∧ Ended t below o ∧ lw_Q a s o t
/-- the law's own end, with 1 on the stack, nothing written that was there before, its room as the claim has it -/
theorem lw_ret {p : Program} {l : Launch} {e : Env} {s : State} {m : MethodId} {below : List Frame} {meth : Method} {c : Code} {b : Nat} (hx : p.tables.exec = Jvm.exec) (hb : c.code = code) (hr : meth.sig.returnType = ret) (hlocks : meth.locks = false) {pc : Nat} {H : Heap} {ls : Array Slot} (hdg : decode code pc = .ok (.ireturn, 1)) : W p l e room_1 s m #[Value.ref b] below meth c H [] 30 41236 (lw_Z below #[Value.ref b] s) (F0 m pc ls [.int 1]) := by
  intro T hT X
  obtain ⟨fs, hret, hrun, hended, hW, hframe⟩ := X.leave (v := some (.int 1)) (hlocks := hlocks) (fun h => by rw [hr] at h; cases h)
  have hmeth' : T.vm.method? m = some meth := X.method'
  refine ⟨T.setFrames fs, ?_, .returned (some (.int 1)), hrun, hended, rfl, ⟨_, rfl⟩, hW, hframe⟩
  jvm_step X.here [X.here.top, hx, hb, hdg, hmeth', hr, ret, narrow_b1]
  (try refine ⟨rfl, ?_⟩); (try refine ⟨rfl, ?_⟩)
  first | (intro acts; rw [hret _ acts rfl rfl rfl]) | rw [hret _ _ rfl rfl rfl]
  exact Steps.refl _
/-- what holds at the law's entry: the machine, the code, the tables' words (any of lw_tbl by 'hts w (by decide +kernel)'), the script of L ints xs at the cell b, what the Statement gives of the start (any of its parts by flat_of_before) -/
def lw_At (p : Program) (s : State) (m : MethodId) (meth : Method) (c : Code) (b L : Nat) (xs : Nat → Int32) : Prop :=
  p.tables.exec = Jvm.exec ∧ c.code = code ∧ meth.sig.returnType = ret ∧ c.maxLocals = 4 ∧ s.vm.findClass R_law = some m.cls ∧ (∀ w ∈ lw_tbl, w.before #[Value.ref b] s = true) ∧ va_X b L xs s s.heap ∧ b < s.heap.size ∧ meth.locks = false ∧ (Jvm.Cond.and given_1 narrow_1).before #[Value.ref b] s = true
theorem d_La_0 : decode code 0 = .ok (.new 7, 3) := by decide +kernel
theorem d_La_3 : decode code 3 = .ok (.dup, 1) := by decide +kernel
theorem d_La_4 : decode code 4 = .ok (.invokespecial 9, 3) := by decide +kernel
theorem d_La_7 : decode code 7 = .ok (.astore_n 1, 1) := by decide +kernel
theorem d_La_8 : decode code 8 = .ok (.new 10, 3) := by decide +kernel
theorem d_La_11 : decode code 11 = .ok (.dup, 1) := by decide +kernel
theorem d_La_12 : decode code 12 = .ok (.invokespecial 12, 3) := by decide +kernel
theorem d_La_15 : decode code 15 = .ok (.astore_n 2, 1) := by decide +kernel
theorem d_La_16 : decode code 16 = .ok (.iconst 0, 1) := by decide +kernel
theorem d_La_17 : decode code 17 = .ok (.istore_n 3, 1) := by decide +kernel
theorem d_La_18 : decode code 18 = .ok (.iload_n 3, 1) := by decide +kernel
theorem d_La_19 : decode code 19 = .ok (.aload_n 0, 1) := by decide +kernel
theorem d_La_20 : decode code 20 = .ok (.arraylength, 1) := by decide +kernel
theorem d_La_21 : decode code 21 = .ok (.iconst 5, 1) := by decide +kernel
theorem d_La_22 : decode code 22 = .ok (.isub, 1) := by decide +kernel
theorem d_La_23 : decode code 23 = .ok (.if_icmp .gt 647, 3) := by decide +kernel
theorem d_La_26 : decode code 26 = .ok (.aload_n 0, 1) := by decide +kernel
theorem d_La_27 : decode code 27 = .ok (.iload_n 3, 1) := by decide +kernel
theorem d_La_28 : decode code 28 = .ok (.iaload, 1) := by decide +kernel
theorem d_La_29 : decode code 29 = .ok (.bipush 31, 2) := by decide +kernel
theorem d_La_31 : decode code 31 = .ok (.iand, 1) := by decide +kernel
theorem d_La_32 : decode code 32 = .ok (.tableswitch 632 0 17 #[88, 141, 184, 217, 260, 293, 336, 379, 412, 435, 458, 471, 504, 527, 560, 583, 606, 619], 88) := by decide +kernel
theorem d_La_120 : decode code 120 = .ok (.aload_n 1, 1) := by decide +kernel
theorem d_La_121 : decode code 121 = .ok (.aload_n 0, 1) := by decide +kernel
theorem d_La_122 : decode code 122 = .ok (.iload_n 3, 1) := by decide +kernel
theorem d_La_123 : decode code 123 = .ok (.iconst 1, 1) := by decide +kernel
theorem d_La_124 : decode code 124 = .ok (.iadd, 1) := by decide +kernel
theorem d_La_125 : decode code 125 = .ok (.iaload, 1) := by decide +kernel
theorem d_La_126 : decode code 126 = .ok (.aload_n 0, 1) := by decide +kernel
theorem d_La_127 : decode code 127 = .ok (.iload_n 3, 1) := by decide +kernel
theorem d_La_128 : decode code 128 = .ok (.iconst 2, 1) := by decide +kernel
theorem d_La_129 : decode code 129 = .ok (.iadd, 1) := by decide +kernel
theorem d_La_130 : decode code 130 = .ok (.iaload, 1) := by decide +kernel
theorem d_La_131 : decode code 131 = .ok (.aload_n 0, 1) := by decide +kernel
theorem d_La_132 : decode code 132 = .ok (.iload_n 3, 1) := by decide +kernel
theorem d_La_133 : decode code 133 = .ok (.iconst 3, 1) := by decide +kernel
theorem d_La_134 : decode code 134 = .ok (.iadd, 1) := by decide +kernel
theorem d_La_135 : decode code 135 = .ok (.iaload, 1) := by decide +kernel
theorem d_La_136 : decode code 136 = .ok (.aload_n 0, 1) := by decide +kernel
theorem d_La_137 : decode code 137 = .ok (.iload_n 3, 1) := by decide +kernel
theorem d_La_138 : decode code 138 = .ok (.iconst 4, 1) := by decide +kernel
theorem d_La_139 : decode code 139 = .ok (.iadd, 1) := by decide +kernel
theorem d_La_140 : decode code 140 = .ok (.iaload, 1) := by decide +kernel
theorem d_La_141 : decode code 141 = .ok (.invokevirtual 13, 3) := by decide +kernel
theorem d_La_144 : decode code 144 = .ok (.aload_n 2, 1) := by decide +kernel
theorem d_La_145 : decode code 145 = .ok (.aload_n 0, 1) := by decide +kernel
theorem d_La_146 : decode code 146 = .ok (.iload_n 3, 1) := by decide +kernel
theorem d_La_147 : decode code 147 = .ok (.iconst 1, 1) := by decide +kernel
theorem d_La_148 : decode code 148 = .ok (.iadd, 1) := by decide +kernel
theorem d_La_149 : decode code 149 = .ok (.iaload, 1) := by decide +kernel
theorem d_La_150 : decode code 150 = .ok (.aload_n 0, 1) := by decide +kernel
theorem d_La_151 : decode code 151 = .ok (.iload_n 3, 1) := by decide +kernel
theorem d_La_152 : decode code 152 = .ok (.iconst 2, 1) := by decide +kernel
theorem d_La_153 : decode code 153 = .ok (.iadd, 1) := by decide +kernel
theorem d_La_154 : decode code 154 = .ok (.iaload, 1) := by decide +kernel
theorem d_La_155 : decode code 155 = .ok (.aload_n 0, 1) := by decide +kernel
theorem d_La_156 : decode code 156 = .ok (.iload_n 3, 1) := by decide +kernel
theorem d_La_157 : decode code 157 = .ok (.iconst 3, 1) := by decide +kernel
theorem d_La_158 : decode code 158 = .ok (.iadd, 1) := by decide +kernel
theorem d_La_159 : decode code 159 = .ok (.iaload, 1) := by decide +kernel
theorem d_La_160 : decode code 160 = .ok (.aload_n 0, 1) := by decide +kernel
theorem d_La_161 : decode code 161 = .ok (.iload_n 3, 1) := by decide +kernel
theorem d_La_162 : decode code 162 = .ok (.iconst 4, 1) := by decide +kernel
theorem d_La_163 : decode code 163 = .ok (.iadd, 1) := by decide +kernel
theorem d_La_164 : decode code 164 = .ok (.iaload, 1) := by decide +kernel
theorem d_La_165 : decode code 165 = .ok (.invokevirtual 17, 3) := by decide +kernel
theorem d_La_168 : decode code 168 = .ok (.if_icmp .eq 496, 3) := by decide +kernel
theorem d_La_171 : decode code 171 = .ok (.iconst 0, 1) := by decide +kernel
theorem d_La_172 : decode code 172 = .ok (.ireturn, 1) := by decide +kernel
theorem d_La_173 : decode code 173 = .ok (.aload_n 1, 1) := by decide +kernel
theorem d_La_174 : decode code 174 = .ok (.aload_n 0, 1) := by decide +kernel
theorem d_La_175 : decode code 175 = .ok (.iload_n 3, 1) := by decide +kernel
theorem d_La_176 : decode code 176 = .ok (.iconst 1, 1) := by decide +kernel
theorem d_La_177 : decode code 177 = .ok (.iadd, 1) := by decide +kernel
theorem d_La_178 : decode code 178 = .ok (.iaload, 1) := by decide +kernel
theorem d_La_179 : decode code 179 = .ok (.aload_n 0, 1) := by decide +kernel
theorem d_La_180 : decode code 180 = .ok (.iload_n 3, 1) := by decide +kernel
theorem d_La_181 : decode code 181 = .ok (.iconst 2, 1) := by decide +kernel
theorem d_La_182 : decode code 182 = .ok (.iadd, 1) := by decide +kernel
theorem d_La_183 : decode code 183 = .ok (.iaload, 1) := by decide +kernel
theorem d_La_184 : decode code 184 = .ok (.aload_n 0, 1) := by decide +kernel
theorem d_La_185 : decode code 185 = .ok (.iload_n 3, 1) := by decide +kernel
theorem d_La_186 : decode code 186 = .ok (.iconst 3, 1) := by decide +kernel
theorem d_La_187 : decode code 187 = .ok (.iadd, 1) := by decide +kernel
theorem d_La_188 : decode code 188 = .ok (.iaload, 1) := by decide +kernel
theorem d_La_189 : decode code 189 = .ok (.invokevirtual 18, 3) := by decide +kernel
theorem d_La_192 : decode code 192 = .ok (.aload_n 2, 1) := by decide +kernel
theorem d_La_193 : decode code 193 = .ok (.aload_n 0, 1) := by decide +kernel
theorem d_La_194 : decode code 194 = .ok (.iload_n 3, 1) := by decide +kernel
theorem d_La_195 : decode code 195 = .ok (.iconst 1, 1) := by decide +kernel
theorem d_La_196 : decode code 196 = .ok (.iadd, 1) := by decide +kernel
theorem d_La_197 : decode code 197 = .ok (.iaload, 1) := by decide +kernel
theorem d_La_198 : decode code 198 = .ok (.aload_n 0, 1) := by decide +kernel
theorem d_La_199 : decode code 199 = .ok (.iload_n 3, 1) := by decide +kernel
theorem d_La_200 : decode code 200 = .ok (.iconst 2, 1) := by decide +kernel
theorem d_La_201 : decode code 201 = .ok (.iadd, 1) := by decide +kernel
theorem d_La_202 : decode code 202 = .ok (.iaload, 1) := by decide +kernel
theorem d_La_203 : decode code 203 = .ok (.aload_n 0, 1) := by decide +kernel
theorem d_La_204 : decode code 204 = .ok (.iload_n 3, 1) := by decide +kernel
theorem d_La_205 : decode code 205 = .ok (.iconst 3, 1) := by decide +kernel
theorem d_La_206 : decode code 206 = .ok (.iadd, 1) := by decide +kernel
theorem d_La_207 : decode code 207 = .ok (.iaload, 1) := by decide +kernel
theorem d_La_208 : decode code 208 = .ok (.invokevirtual 22, 3) := by decide +kernel
theorem d_La_211 : decode code 211 = .ok (.if_icmp .eq 453, 3) := by decide +kernel
theorem d_La_214 : decode code 214 = .ok (.iconst 0, 1) := by decide +kernel
theorem d_La_215 : decode code 215 = .ok (.ireturn, 1) := by decide +kernel
theorem d_La_216 : decode code 216 = .ok (.aload_n 1, 1) := by decide +kernel
theorem d_La_217 : decode code 217 = .ok (.aload_n 0, 1) := by decide +kernel
theorem d_La_218 : decode code 218 = .ok (.iload_n 3, 1) := by decide +kernel
theorem d_La_219 : decode code 219 = .ok (.iconst 1, 1) := by decide +kernel
theorem d_La_220 : decode code 220 = .ok (.iadd, 1) := by decide +kernel
theorem d_La_221 : decode code 221 = .ok (.iaload, 1) := by decide +kernel
theorem d_La_222 : decode code 222 = .ok (.aload_n 0, 1) := by decide +kernel
theorem d_La_223 : decode code 223 = .ok (.iload_n 3, 1) := by decide +kernel
theorem d_La_224 : decode code 224 = .ok (.iconst 2, 1) := by decide +kernel
theorem d_La_225 : decode code 225 = .ok (.iadd, 1) := by decide +kernel
theorem d_La_226 : decode code 226 = .ok (.iaload, 1) := by decide +kernel
theorem d_La_227 : decode code 227 = .ok (.invokevirtual 23, 3) := by decide +kernel
theorem d_La_230 : decode code 230 = .ok (.aload_n 2, 1) := by decide +kernel
theorem d_La_231 : decode code 231 = .ok (.aload_n 0, 1) := by decide +kernel
theorem d_La_232 : decode code 232 = .ok (.iload_n 3, 1) := by decide +kernel
theorem d_La_233 : decode code 233 = .ok (.iconst 1, 1) := by decide +kernel
theorem d_La_234 : decode code 234 = .ok (.iadd, 1) := by decide +kernel
theorem d_La_235 : decode code 235 = .ok (.iaload, 1) := by decide +kernel
theorem d_La_236 : decode code 236 = .ok (.aload_n 0, 1) := by decide +kernel
theorem d_La_237 : decode code 237 = .ok (.iload_n 3, 1) := by decide +kernel
theorem d_La_238 : decode code 238 = .ok (.iconst 2, 1) := by decide +kernel
theorem d_La_239 : decode code 239 = .ok (.iadd, 1) := by decide +kernel
theorem d_La_240 : decode code 240 = .ok (.iaload, 1) := by decide +kernel
theorem d_La_241 : decode code 241 = .ok (.invokevirtual 27, 3) := by decide +kernel
theorem d_La_244 : decode code 244 = .ok (.if_icmp .eq 420, 3) := by decide +kernel
theorem d_La_247 : decode code 247 = .ok (.iconst 0, 1) := by decide +kernel
theorem d_La_248 : decode code 248 = .ok (.ireturn, 1) := by decide +kernel
theorem d_La_249 : decode code 249 = .ok (.aload_n 1, 1) := by decide +kernel
theorem d_La_250 : decode code 250 = .ok (.aload_n 0, 1) := by decide +kernel
theorem d_La_251 : decode code 251 = .ok (.iload_n 3, 1) := by decide +kernel
theorem d_La_252 : decode code 252 = .ok (.iconst 1, 1) := by decide +kernel
theorem d_La_253 : decode code 253 = .ok (.iadd, 1) := by decide +kernel
theorem d_La_254 : decode code 254 = .ok (.iaload, 1) := by decide +kernel
theorem d_La_255 : decode code 255 = .ok (.aload_n 0, 1) := by decide +kernel
theorem d_La_256 : decode code 256 = .ok (.iload_n 3, 1) := by decide +kernel
theorem d_La_257 : decode code 257 = .ok (.iconst 2, 1) := by decide +kernel
theorem d_La_258 : decode code 258 = .ok (.iadd, 1) := by decide +kernel
theorem d_La_259 : decode code 259 = .ok (.iaload, 1) := by decide +kernel
theorem d_La_260 : decode code 260 = .ok (.aload_n 0, 1) := by decide +kernel
theorem d_La_261 : decode code 261 = .ok (.iload_n 3, 1) := by decide +kernel
theorem d_La_262 : decode code 262 = .ok (.iconst 3, 1) := by decide +kernel
theorem d_La_263 : decode code 263 = .ok (.iadd, 1) := by decide +kernel
theorem d_La_264 : decode code 264 = .ok (.iaload, 1) := by decide +kernel
theorem d_La_265 : decode code 265 = .ok (.invokevirtual 28, 3) := by decide +kernel
theorem d_La_268 : decode code 268 = .ok (.aload_n 2, 1) := by decide +kernel
theorem d_La_269 : decode code 269 = .ok (.aload_n 0, 1) := by decide +kernel
theorem d_La_270 : decode code 270 = .ok (.iload_n 3, 1) := by decide +kernel
theorem d_La_271 : decode code 271 = .ok (.iconst 1, 1) := by decide +kernel
theorem d_La_272 : decode code 272 = .ok (.iadd, 1) := by decide +kernel
theorem d_La_273 : decode code 273 = .ok (.iaload, 1) := by decide +kernel
theorem d_La_274 : decode code 274 = .ok (.aload_n 0, 1) := by decide +kernel
theorem d_La_275 : decode code 275 = .ok (.iload_n 3, 1) := by decide +kernel
theorem d_La_276 : decode code 276 = .ok (.iconst 2, 1) := by decide +kernel
theorem d_La_277 : decode code 277 = .ok (.iadd, 1) := by decide +kernel
theorem d_La_278 : decode code 278 = .ok (.iaload, 1) := by decide +kernel
theorem d_La_279 : decode code 279 = .ok (.aload_n 0, 1) := by decide +kernel
theorem d_La_280 : decode code 280 = .ok (.iload_n 3, 1) := by decide +kernel
theorem d_La_281 : decode code 281 = .ok (.iconst 3, 1) := by decide +kernel
theorem d_La_282 : decode code 282 = .ok (.iadd, 1) := by decide +kernel
theorem d_La_283 : decode code 283 = .ok (.iaload, 1) := by decide +kernel
theorem d_La_284 : decode code 284 = .ok (.invokevirtual 32, 3) := by decide +kernel
theorem d_La_287 : decode code 287 = .ok (.if_icmp .eq 377, 3) := by decide +kernel
theorem d_La_290 : decode code 290 = .ok (.iconst 0, 1) := by decide +kernel
theorem d_La_291 : decode code 291 = .ok (.ireturn, 1) := by decide +kernel
theorem d_La_292 : decode code 292 = .ok (.aload_n 1, 1) := by decide +kernel
theorem d_La_293 : decode code 293 = .ok (.aload_n 0, 1) := by decide +kernel
theorem d_La_294 : decode code 294 = .ok (.iload_n 3, 1) := by decide +kernel
theorem d_La_295 : decode code 295 = .ok (.iconst 1, 1) := by decide +kernel
theorem d_La_296 : decode code 296 = .ok (.iadd, 1) := by decide +kernel
theorem d_La_297 : decode code 297 = .ok (.iaload, 1) := by decide +kernel
theorem d_La_298 : decode code 298 = .ok (.aload_n 0, 1) := by decide +kernel
theorem d_La_299 : decode code 299 = .ok (.iload_n 3, 1) := by decide +kernel
theorem d_La_300 : decode code 300 = .ok (.iconst 2, 1) := by decide +kernel
theorem d_La_301 : decode code 301 = .ok (.iadd, 1) := by decide +kernel
theorem d_La_302 : decode code 302 = .ok (.iaload, 1) := by decide +kernel
theorem d_La_303 : decode code 303 = .ok (.invokevirtual 33, 3) := by decide +kernel
theorem d_La_306 : decode code 306 = .ok (.aload_n 2, 1) := by decide +kernel
theorem d_La_307 : decode code 307 = .ok (.aload_n 0, 1) := by decide +kernel
theorem d_La_308 : decode code 308 = .ok (.iload_n 3, 1) := by decide +kernel
theorem d_La_309 : decode code 309 = .ok (.iconst 1, 1) := by decide +kernel
theorem d_La_310 : decode code 310 = .ok (.iadd, 1) := by decide +kernel
theorem d_La_311 : decode code 311 = .ok (.iaload, 1) := by decide +kernel
theorem d_La_312 : decode code 312 = .ok (.aload_n 0, 1) := by decide +kernel
theorem d_La_313 : decode code 313 = .ok (.iload_n 3, 1) := by decide +kernel
theorem d_La_314 : decode code 314 = .ok (.iconst 2, 1) := by decide +kernel
theorem d_La_315 : decode code 315 = .ok (.iadd, 1) := by decide +kernel
theorem d_La_316 : decode code 316 = .ok (.iaload, 1) := by decide +kernel
theorem d_La_317 : decode code 317 = .ok (.invokevirtual 36, 3) := by decide +kernel
theorem d_La_320 : decode code 320 = .ok (.if_icmp .eq 344, 3) := by decide +kernel
theorem d_La_323 : decode code 323 = .ok (.iconst 0, 1) := by decide +kernel
theorem d_La_324 : decode code 324 = .ok (.ireturn, 1) := by decide +kernel
theorem d_La_325 : decode code 325 = .ok (.aload_n 1, 1) := by decide +kernel
theorem d_La_326 : decode code 326 = .ok (.aload_n 0, 1) := by decide +kernel
theorem d_La_327 : decode code 327 = .ok (.iload_n 3, 1) := by decide +kernel
theorem d_La_328 : decode code 328 = .ok (.iconst 1, 1) := by decide +kernel
theorem d_La_329 : decode code 329 = .ok (.iadd, 1) := by decide +kernel
theorem d_La_330 : decode code 330 = .ok (.iaload, 1) := by decide +kernel
theorem d_La_331 : decode code 331 = .ok (.aload_n 0, 1) := by decide +kernel
theorem d_La_332 : decode code 332 = .ok (.iload_n 3, 1) := by decide +kernel
theorem d_La_333 : decode code 333 = .ok (.iconst 2, 1) := by decide +kernel
theorem d_La_334 : decode code 334 = .ok (.iadd, 1) := by decide +kernel
theorem d_La_335 : decode code 335 = .ok (.iaload, 1) := by decide +kernel
theorem d_La_336 : decode code 336 = .ok (.aload_n 0, 1) := by decide +kernel
theorem d_La_337 : decode code 337 = .ok (.iload_n 3, 1) := by decide +kernel
theorem d_La_338 : decode code 338 = .ok (.iconst 3, 1) := by decide +kernel
theorem d_La_339 : decode code 339 = .ok (.iadd, 1) := by decide +kernel
theorem d_La_340 : decode code 340 = .ok (.iaload, 1) := by decide +kernel
theorem d_La_341 : decode code 341 = .ok (.invokevirtual 37, 3) := by decide +kernel
theorem d_La_344 : decode code 344 = .ok (.aload_n 2, 1) := by decide +kernel
theorem d_La_345 : decode code 345 = .ok (.aload_n 0, 1) := by decide +kernel
theorem d_La_346 : decode code 346 = .ok (.iload_n 3, 1) := by decide +kernel
theorem d_La_347 : decode code 347 = .ok (.iconst 1, 1) := by decide +kernel
theorem d_La_348 : decode code 348 = .ok (.iadd, 1) := by decide +kernel
theorem d_La_349 : decode code 349 = .ok (.iaload, 1) := by decide +kernel
theorem d_La_350 : decode code 350 = .ok (.aload_n 0, 1) := by decide +kernel
theorem d_La_351 : decode code 351 = .ok (.iload_n 3, 1) := by decide +kernel
theorem d_La_352 : decode code 352 = .ok (.iconst 2, 1) := by decide +kernel
theorem d_La_353 : decode code 353 = .ok (.iadd, 1) := by decide +kernel
theorem d_La_354 : decode code 354 = .ok (.iaload, 1) := by decide +kernel
theorem d_La_355 : decode code 355 = .ok (.aload_n 0, 1) := by decide +kernel
theorem d_La_356 : decode code 356 = .ok (.iload_n 3, 1) := by decide +kernel
theorem d_La_357 : decode code 357 = .ok (.iconst 3, 1) := by decide +kernel
theorem d_La_358 : decode code 358 = .ok (.iadd, 1) := by decide +kernel
theorem d_La_359 : decode code 359 = .ok (.iaload, 1) := by decide +kernel
theorem d_La_360 : decode code 360 = .ok (.invokevirtual 40, 3) := by decide +kernel
theorem d_La_363 : decode code 363 = .ok (.if_icmp .eq 301, 3) := by decide +kernel
theorem d_La_366 : decode code 366 = .ok (.iconst 0, 1) := by decide +kernel
theorem d_La_367 : decode code 367 = .ok (.ireturn, 1) := by decide +kernel
theorem d_La_368 : decode code 368 = .ok (.aload_n 1, 1) := by decide +kernel
theorem d_La_369 : decode code 369 = .ok (.aload_n 0, 1) := by decide +kernel
theorem d_La_370 : decode code 370 = .ok (.iload_n 3, 1) := by decide +kernel
theorem d_La_371 : decode code 371 = .ok (.iconst 1, 1) := by decide +kernel
theorem d_La_372 : decode code 372 = .ok (.iadd, 1) := by decide +kernel
theorem d_La_373 : decode code 373 = .ok (.iaload, 1) := by decide +kernel
theorem d_La_374 : decode code 374 = .ok (.aload_n 0, 1) := by decide +kernel
theorem d_La_375 : decode code 375 = .ok (.iload_n 3, 1) := by decide +kernel
theorem d_La_376 : decode code 376 = .ok (.iconst 2, 1) := by decide +kernel
theorem d_La_377 : decode code 377 = .ok (.iadd, 1) := by decide +kernel
theorem d_La_378 : decode code 378 = .ok (.iaload, 1) := by decide +kernel
theorem d_La_379 : decode code 379 = .ok (.aload_n 0, 1) := by decide +kernel
theorem d_La_380 : decode code 380 = .ok (.iload_n 3, 1) := by decide +kernel
theorem d_La_381 : decode code 381 = .ok (.iconst 3, 1) := by decide +kernel
theorem d_La_382 : decode code 382 = .ok (.iadd, 1) := by decide +kernel
theorem d_La_383 : decode code 383 = .ok (.iaload, 1) := by decide +kernel
theorem d_La_384 : decode code 384 = .ok (.invokevirtual 41, 3) := by decide +kernel
theorem d_La_387 : decode code 387 = .ok (.aload_n 2, 1) := by decide +kernel
theorem d_La_388 : decode code 388 = .ok (.aload_n 0, 1) := by decide +kernel
theorem d_La_389 : decode code 389 = .ok (.iload_n 3, 1) := by decide +kernel
theorem d_La_390 : decode code 390 = .ok (.iconst 1, 1) := by decide +kernel
theorem d_La_391 : decode code 391 = .ok (.iadd, 1) := by decide +kernel
theorem d_La_392 : decode code 392 = .ok (.iaload, 1) := by decide +kernel
theorem d_La_393 : decode code 393 = .ok (.aload_n 0, 1) := by decide +kernel
theorem d_La_394 : decode code 394 = .ok (.iload_n 3, 1) := by decide +kernel
theorem d_La_395 : decode code 395 = .ok (.iconst 2, 1) := by decide +kernel
theorem d_La_396 : decode code 396 = .ok (.iadd, 1) := by decide +kernel
theorem d_La_397 : decode code 397 = .ok (.iaload, 1) := by decide +kernel
theorem d_La_398 : decode code 398 = .ok (.aload_n 0, 1) := by decide +kernel
theorem d_La_399 : decode code 399 = .ok (.iload_n 3, 1) := by decide +kernel
theorem d_La_400 : decode code 400 = .ok (.iconst 3, 1) := by decide +kernel
theorem d_La_401 : decode code 401 = .ok (.iadd, 1) := by decide +kernel
theorem d_La_402 : decode code 402 = .ok (.iaload, 1) := by decide +kernel
theorem d_La_403 : decode code 403 = .ok (.invokevirtual 44, 3) := by decide +kernel
theorem d_La_406 : decode code 406 = .ok (.if_icmp .eq 258, 3) := by decide +kernel
theorem d_La_409 : decode code 409 = .ok (.iconst 0, 1) := by decide +kernel
theorem d_La_410 : decode code 410 = .ok (.ireturn, 1) := by decide +kernel
theorem d_La_411 : decode code 411 = .ok (.aload_n 1, 1) := by decide +kernel
theorem d_La_412 : decode code 412 = .ok (.aload_n 0, 1) := by decide +kernel
theorem d_La_413 : decode code 413 = .ok (.iload_n 3, 1) := by decide +kernel
theorem d_La_414 : decode code 414 = .ok (.iconst 1, 1) := by decide +kernel
theorem d_La_415 : decode code 415 = .ok (.iadd, 1) := by decide +kernel
theorem d_La_416 : decode code 416 = .ok (.iaload, 1) := by decide +kernel
theorem d_La_417 : decode code 417 = .ok (.aload_n 0, 1) := by decide +kernel
theorem d_La_418 : decode code 418 = .ok (.iload_n 3, 1) := by decide +kernel
theorem d_La_419 : decode code 419 = .ok (.iconst 2, 1) := by decide +kernel
theorem d_La_420 : decode code 420 = .ok (.iadd, 1) := by decide +kernel
theorem d_La_421 : decode code 421 = .ok (.iaload, 1) := by decide +kernel
theorem d_La_422 : decode code 422 = .ok (.invokevirtual 45, 3) := by decide +kernel
theorem d_La_425 : decode code 425 = .ok (.aload_n 2, 1) := by decide +kernel
theorem d_La_426 : decode code 426 = .ok (.aload_n 0, 1) := by decide +kernel
theorem d_La_427 : decode code 427 = .ok (.iload_n 3, 1) := by decide +kernel
theorem d_La_428 : decode code 428 = .ok (.iconst 1, 1) := by decide +kernel
theorem d_La_429 : decode code 429 = .ok (.iadd, 1) := by decide +kernel
theorem d_La_430 : decode code 430 = .ok (.iaload, 1) := by decide +kernel
theorem d_La_431 : decode code 431 = .ok (.aload_n 0, 1) := by decide +kernel
theorem d_La_432 : decode code 432 = .ok (.iload_n 3, 1) := by decide +kernel
theorem d_La_433 : decode code 433 = .ok (.iconst 2, 1) := by decide +kernel
theorem d_La_434 : decode code 434 = .ok (.iadd, 1) := by decide +kernel
theorem d_La_435 : decode code 435 = .ok (.iaload, 1) := by decide +kernel
theorem d_La_436 : decode code 436 = .ok (.invokevirtual 49, 3) := by decide +kernel
theorem d_La_439 : decode code 439 = .ok (.if_icmp .eq 225, 3) := by decide +kernel
theorem d_La_442 : decode code 442 = .ok (.iconst 0, 1) := by decide +kernel
theorem d_La_443 : decode code 443 = .ok (.ireturn, 1) := by decide +kernel
theorem d_La_444 : decode code 444 = .ok (.aload_n 1, 1) := by decide +kernel
theorem d_La_445 : decode code 445 = .ok (.aload_n 0, 1) := by decide +kernel
theorem d_La_446 : decode code 446 = .ok (.iload_n 3, 1) := by decide +kernel
theorem d_La_447 : decode code 447 = .ok (.iconst 1, 1) := by decide +kernel
theorem d_La_448 : decode code 448 = .ok (.iadd, 1) := by decide +kernel
theorem d_La_449 : decode code 449 = .ok (.iaload, 1) := by decide +kernel
theorem d_La_450 : decode code 450 = .ok (.invokevirtual 50, 3) := by decide +kernel
theorem d_La_453 : decode code 453 = .ok (.aload_n 2, 1) := by decide +kernel
theorem d_La_454 : decode code 454 = .ok (.aload_n 0, 1) := by decide +kernel
theorem d_La_455 : decode code 455 = .ok (.iload_n 3, 1) := by decide +kernel
theorem d_La_456 : decode code 456 = .ok (.iconst 1, 1) := by decide +kernel
theorem d_La_457 : decode code 457 = .ok (.iadd, 1) := by decide +kernel
theorem d_La_458 : decode code 458 = .ok (.iaload, 1) := by decide +kernel
theorem d_La_459 : decode code 459 = .ok (.invokevirtual 54, 3) := by decide +kernel
theorem d_La_462 : decode code 462 = .ok (.if_icmp .eq 202, 3) := by decide +kernel
theorem d_La_465 : decode code 465 = .ok (.iconst 0, 1) := by decide +kernel
theorem d_La_466 : decode code 466 = .ok (.ireturn, 1) := by decide +kernel
theorem d_La_467 : decode code 467 = .ok (.aload_n 1, 1) := by decide +kernel
theorem d_La_468 : decode code 468 = .ok (.aload_n 0, 1) := by decide +kernel
theorem d_La_469 : decode code 469 = .ok (.iload_n 3, 1) := by decide +kernel
theorem d_La_470 : decode code 470 = .ok (.iconst 1, 1) := by decide +kernel
theorem d_La_471 : decode code 471 = .ok (.iadd, 1) := by decide +kernel
theorem d_La_472 : decode code 472 = .ok (.iaload, 1) := by decide +kernel
theorem d_La_473 : decode code 473 = .ok (.invokevirtual 55, 3) := by decide +kernel
theorem d_La_476 : decode code 476 = .ok (.aload_n 2, 1) := by decide +kernel
theorem d_La_477 : decode code 477 = .ok (.aload_n 0, 1) := by decide +kernel
theorem d_La_478 : decode code 478 = .ok (.iload_n 3, 1) := by decide +kernel
theorem d_La_479 : decode code 479 = .ok (.iconst 1, 1) := by decide +kernel
theorem d_La_480 : decode code 480 = .ok (.iadd, 1) := by decide +kernel
theorem d_La_481 : decode code 481 = .ok (.iaload, 1) := by decide +kernel
theorem d_La_482 : decode code 482 = .ok (.invokevirtual 58, 3) := by decide +kernel
theorem d_La_485 : decode code 485 = .ok (.if_icmp .eq 179, 3) := by decide +kernel
theorem d_La_488 : decode code 488 = .ok (.iconst 0, 1) := by decide +kernel
theorem d_La_489 : decode code 489 = .ok (.ireturn, 1) := by decide +kernel
theorem d_La_490 : decode code 490 = .ok (.aload_n 1, 1) := by decide +kernel
theorem d_La_491 : decode code 491 = .ok (.invokevirtual 59, 3) := by decide +kernel
theorem d_La_494 : decode code 494 = .ok (.aload_n 2, 1) := by decide +kernel
theorem d_La_495 : decode code 495 = .ok (.invokevirtual 63, 3) := by decide +kernel
theorem d_La_498 : decode code 498 = .ok (.if_icmp .eq 166, 3) := by decide +kernel
theorem d_La_501 : decode code 501 = .ok (.iconst 0, 1) := by decide +kernel
theorem d_La_502 : decode code 502 = .ok (.ireturn, 1) := by decide +kernel
theorem d_La_503 : decode code 503 = .ok (.aload_n 1, 1) := by decide +kernel
theorem d_La_504 : decode code 504 = .ok (.aload_n 0, 1) := by decide +kernel
theorem d_La_505 : decode code 505 = .ok (.iload_n 3, 1) := by decide +kernel
theorem d_La_506 : decode code 506 = .ok (.iconst 1, 1) := by decide +kernel
theorem d_La_507 : decode code 507 = .ok (.iadd, 1) := by decide +kernel
theorem d_La_508 : decode code 508 = .ok (.iaload, 1) := by decide +kernel
theorem d_La_509 : decode code 509 = .ok (.aload_n 0, 1) := by decide +kernel
theorem d_La_510 : decode code 510 = .ok (.iload_n 3, 1) := by decide +kernel
theorem d_La_511 : decode code 511 = .ok (.iconst 2, 1) := by decide +kernel
theorem d_La_512 : decode code 512 = .ok (.iadd, 1) := by decide +kernel
theorem d_La_513 : decode code 513 = .ok (.iaload, 1) := by decide +kernel
theorem d_La_514 : decode code 514 = .ok (.invokevirtual 64, 3) := by decide +kernel
theorem d_La_517 : decode code 517 = .ok (.aload_n 2, 1) := by decide +kernel
theorem d_La_518 : decode code 518 = .ok (.aload_n 0, 1) := by decide +kernel
theorem d_La_519 : decode code 519 = .ok (.iload_n 3, 1) := by decide +kernel
theorem d_La_520 : decode code 520 = .ok (.iconst 1, 1) := by decide +kernel
theorem d_La_521 : decode code 521 = .ok (.iadd, 1) := by decide +kernel
theorem d_La_522 : decode code 522 = .ok (.iaload, 1) := by decide +kernel
theorem d_La_523 : decode code 523 = .ok (.aload_n 0, 1) := by decide +kernel
theorem d_La_524 : decode code 524 = .ok (.iload_n 3, 1) := by decide +kernel
theorem d_La_525 : decode code 525 = .ok (.iconst 2, 1) := by decide +kernel
theorem d_La_526 : decode code 526 = .ok (.iadd, 1) := by decide +kernel
theorem d_La_527 : decode code 527 = .ok (.iaload, 1) := by decide +kernel
theorem d_La_528 : decode code 528 = .ok (.invokevirtual 67, 3) := by decide +kernel
theorem d_La_531 : decode code 531 = .ok (.if_icmp .eq 133, 3) := by decide +kernel
theorem d_La_534 : decode code 534 = .ok (.iconst 0, 1) := by decide +kernel
theorem d_La_535 : decode code 535 = .ok (.ireturn, 1) := by decide +kernel
theorem d_La_536 : decode code 536 = .ok (.aload_n 1, 1) := by decide +kernel
theorem d_La_537 : decode code 537 = .ok (.aload_n 0, 1) := by decide +kernel
theorem d_La_538 : decode code 538 = .ok (.iload_n 3, 1) := by decide +kernel
theorem d_La_539 : decode code 539 = .ok (.iconst 1, 1) := by decide +kernel
theorem d_La_540 : decode code 540 = .ok (.iadd, 1) := by decide +kernel
theorem d_La_541 : decode code 541 = .ok (.iaload, 1) := by decide +kernel
theorem d_La_542 : decode code 542 = .ok (.invokevirtual 68, 3) := by decide +kernel
theorem d_La_545 : decode code 545 = .ok (.aload_n 2, 1) := by decide +kernel
theorem d_La_546 : decode code 546 = .ok (.aload_n 0, 1) := by decide +kernel
theorem d_La_547 : decode code 547 = .ok (.iload_n 3, 1) := by decide +kernel
theorem d_La_548 : decode code 548 = .ok (.iconst 1, 1) := by decide +kernel
theorem d_La_549 : decode code 549 = .ok (.iadd, 1) := by decide +kernel
theorem d_La_550 : decode code 550 = .ok (.iaload, 1) := by decide +kernel
theorem d_La_551 : decode code 551 = .ok (.invokevirtual 72, 3) := by decide +kernel
theorem d_La_554 : decode code 554 = .ok (.if_icmp .eq 110, 3) := by decide +kernel
theorem d_La_557 : decode code 557 = .ok (.iconst 0, 1) := by decide +kernel
theorem d_La_558 : decode code 558 = .ok (.ireturn, 1) := by decide +kernel
theorem d_La_559 : decode code 559 = .ok (.aload_n 1, 1) := by decide +kernel
theorem d_La_560 : decode code 560 = .ok (.aload_n 0, 1) := by decide +kernel
theorem d_La_561 : decode code 561 = .ok (.iload_n 3, 1) := by decide +kernel
theorem d_La_562 : decode code 562 = .ok (.iconst 1, 1) := by decide +kernel
theorem d_La_563 : decode code 563 = .ok (.iadd, 1) := by decide +kernel
theorem d_La_564 : decode code 564 = .ok (.iaload, 1) := by decide +kernel
theorem d_La_565 : decode code 565 = .ok (.aload_n 0, 1) := by decide +kernel
theorem d_La_566 : decode code 566 = .ok (.iload_n 3, 1) := by decide +kernel
theorem d_La_567 : decode code 567 = .ok (.iconst 2, 1) := by decide +kernel
theorem d_La_568 : decode code 568 = .ok (.iadd, 1) := by decide +kernel
theorem d_La_569 : decode code 569 = .ok (.iaload, 1) := by decide +kernel
theorem d_La_570 : decode code 570 = .ok (.invokevirtual 73, 3) := by decide +kernel
theorem d_La_573 : decode code 573 = .ok (.aload_n 2, 1) := by decide +kernel
theorem d_La_574 : decode code 574 = .ok (.aload_n 0, 1) := by decide +kernel
theorem d_La_575 : decode code 575 = .ok (.iload_n 3, 1) := by decide +kernel
theorem d_La_576 : decode code 576 = .ok (.iconst 1, 1) := by decide +kernel
theorem d_La_577 : decode code 577 = .ok (.iadd, 1) := by decide +kernel
theorem d_La_578 : decode code 578 = .ok (.iaload, 1) := by decide +kernel
theorem d_La_579 : decode code 579 = .ok (.aload_n 0, 1) := by decide +kernel
theorem d_La_580 : decode code 580 = .ok (.iload_n 3, 1) := by decide +kernel
theorem d_La_581 : decode code 581 = .ok (.iconst 2, 1) := by decide +kernel
theorem d_La_582 : decode code 582 = .ok (.iadd, 1) := by decide +kernel
theorem d_La_583 : decode code 583 = .ok (.iaload, 1) := by decide +kernel
theorem d_La_584 : decode code 584 = .ok (.invokevirtual 76, 3) := by decide +kernel
theorem d_La_587 : decode code 587 = .ok (.if_icmp .eq 77, 3) := by decide +kernel
theorem d_La_590 : decode code 590 = .ok (.iconst 0, 1) := by decide +kernel
theorem d_La_591 : decode code 591 = .ok (.ireturn, 1) := by decide +kernel
theorem d_La_592 : decode code 592 = .ok (.aload_n 1, 1) := by decide +kernel
theorem d_La_593 : decode code 593 = .ok (.aload_n 0, 1) := by decide +kernel
theorem d_La_594 : decode code 594 = .ok (.iload_n 3, 1) := by decide +kernel
theorem d_La_595 : decode code 595 = .ok (.iconst 1, 1) := by decide +kernel
theorem d_La_596 : decode code 596 = .ok (.iadd, 1) := by decide +kernel
theorem d_La_597 : decode code 597 = .ok (.iaload, 1) := by decide +kernel
theorem d_La_598 : decode code 598 = .ok (.invokevirtual 77, 3) := by decide +kernel
theorem d_La_601 : decode code 601 = .ok (.aload_n 2, 1) := by decide +kernel
theorem d_La_602 : decode code 602 = .ok (.aload_n 0, 1) := by decide +kernel
theorem d_La_603 : decode code 603 = .ok (.iload_n 3, 1) := by decide +kernel
theorem d_La_604 : decode code 604 = .ok (.iconst 1, 1) := by decide +kernel
theorem d_La_605 : decode code 605 = .ok (.iadd, 1) := by decide +kernel
theorem d_La_606 : decode code 606 = .ok (.iaload, 1) := by decide +kernel
theorem d_La_607 : decode code 607 = .ok (.invokevirtual 80, 3) := by decide +kernel
theorem d_La_610 : decode code 610 = .ok (.if_icmp .eq 54, 3) := by decide +kernel
theorem d_La_613 : decode code 613 = .ok (.iconst 0, 1) := by decide +kernel
theorem d_La_614 : decode code 614 = .ok (.ireturn, 1) := by decide +kernel
theorem d_La_615 : decode code 615 = .ok (.aload_n 1, 1) := by decide +kernel
theorem d_La_616 : decode code 616 = .ok (.aload_n 0, 1) := by decide +kernel
theorem d_La_617 : decode code 617 = .ok (.iload_n 3, 1) := by decide +kernel
theorem d_La_618 : decode code 618 = .ok (.iconst 1, 1) := by decide +kernel
theorem d_La_619 : decode code 619 = .ok (.iadd, 1) := by decide +kernel
theorem d_La_620 : decode code 620 = .ok (.iaload, 1) := by decide +kernel
theorem d_La_621 : decode code 621 = .ok (.invokevirtual 81, 3) := by decide +kernel
theorem d_La_624 : decode code 624 = .ok (.aload_n 2, 1) := by decide +kernel
theorem d_La_625 : decode code 625 = .ok (.aload_n 0, 1) := by decide +kernel
theorem d_La_626 : decode code 626 = .ok (.iload_n 3, 1) := by decide +kernel
theorem d_La_627 : decode code 627 = .ok (.iconst 1, 1) := by decide +kernel
theorem d_La_628 : decode code 628 = .ok (.iadd, 1) := by decide +kernel
theorem d_La_629 : decode code 629 = .ok (.iaload, 1) := by decide +kernel
theorem d_La_630 : decode code 630 = .ok (.invokevirtual 84, 3) := by decide +kernel
theorem d_La_633 : decode code 633 = .ok (.if_icmp .eq 31, 3) := by decide +kernel
theorem d_La_636 : decode code 636 = .ok (.iconst 0, 1) := by decide +kernel
theorem d_La_637 : decode code 637 = .ok (.ireturn, 1) := by decide +kernel
theorem d_La_638 : decode code 638 = .ok (.aload_n 1, 1) := by decide +kernel
theorem d_La_639 : decode code 639 = .ok (.invokevirtual 85, 3) := by decide +kernel
theorem d_La_642 : decode code 642 = .ok (.aload_n 2, 1) := by decide +kernel
theorem d_La_643 : decode code 643 = .ok (.invokevirtual 89, 3) := by decide +kernel
theorem d_La_646 : decode code 646 = .ok (.if_icmp .eq 18, 3) := by decide +kernel
theorem d_La_649 : decode code 649 = .ok (.iconst 0, 1) := by decide +kernel
theorem d_La_650 : decode code 650 = .ok (.ireturn, 1) := by decide +kernel
theorem d_La_651 : decode code 651 = .ok (.aload_n 1, 1) := by decide +kernel
theorem d_La_652 : decode code 652 = .ok (.invokevirtual 90, 3) := by decide +kernel
theorem d_La_655 : decode code 655 = .ok (.aload_n 2, 1) := by decide +kernel
theorem d_La_656 : decode code 656 = .ok (.invokevirtual 93, 3) := by decide +kernel
theorem d_La_659 : decode code 659 = .ok (.if_icmp .eq 5, 3) := by decide +kernel
theorem d_La_662 : decode code 662 = .ok (.iconst 0, 1) := by decide +kernel
theorem d_La_663 : decode code 663 = .ok (.ireturn, 1) := by decide +kernel
theorem d_La_664 : decode code 664 = .ok (.iinc 3 5, 3) := by decide +kernel
theorem d_La_667 : decode code 667 = .ok (.goto (-649), 3) := by decide +kernel
theorem d_La_670 : decode code 670 = .ok (.iconst 1, 1) := by decide +kernel
theorem d_La_671 : decode code 671 = .ok (.ireturn, 1) := by decide +kernel
