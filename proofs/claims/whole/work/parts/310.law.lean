def G_La_0 (L : Nat) (xs : Nat → Int32) (ih : Int32 → zM → zM → Prop) (x3 : Int32) (μ ν : zM) : Prop := vp_in (x3 + (1 : Int32)) L ∧ (vp_in (x3 + (2 : Int32)) L ∧ (vp_in (x3 + (3 : Int32)) L ∧ (vp_in (x3 + (4 : Int32)) L ∧ (f_Bh_begin μ (xs (x3 + (1 : Int32)).toNatClampNeg) (xs (x3 + (2 : Int32)).toNatClampNeg) (xs (x3 + (3 : Int32)).toNatClampNeg) (xs (x3 + (4 : Int32)).toNatClampNeg) (fun r8 μ9 => (vp_in (x3 + (1 : Int32)) L ∧ (vp_in (x3 + (2 : Int32)) L ∧ (vp_in (x3 + (3 : Int32)) L ∧ (vp_in (x3 + (4 : Int32)) L ∧ (f_Mo_begin ν (xs (x3 + (1 : Int32)).toNatClampNeg) (xs (x3 + (2 : Int32)).toNatClampNeg) (xs (x3 + (3 : Int32)).toNatClampNeg) (xs (x3 + (4 : Int32)).toNatClampNeg) (fun r14 ν15 => ((r8 = r14 → (∀ x17 : Int32, x17 = x3 + 5 → (ih x17 μ9 ν15))) ∧ (¬ r8 = r14 → (False))))))))))))))
set_option maxHeartbeats 4000000 in
set_option maxRecDepth 100000 in
theorem M_La_0 {p : Program} {l : Launch} {e : Env} {s : State} {m : MethodId} {below : List Frame} {meth : Method} {c : Code} {E : zE} {b L : Nat} {xs : Nat → Int32} (hE : E.2.2.2.2.2.1 = fun q => s.heap.size ≤ q) (X : zX E p s m #[Value.ref b] c code "BeatHeapLaw" 4) (hr : meth.sig.returnType = ret) (hlk : meth.locks = false) (hX : va_X b L xs s s.heap) (hbl : b < s.heap.size) (hbA : ¬ zA E b) (C : Int32 → zM → zM → Prop) (ih : ∀ (x3 : Int32) (μ ν : zM) (H : Heap) (locs : List Loc) (ls : Array Slot), C x3 μ ν → zL E s μ ν H locs → lv_has ls 4 [(0, .ref b), (1, .ref (E.2.1 0)), (2, .ref (E.2.1 19)), (3, .int x3)] → W p l e room_1 s m #[Value.ref b] below meth c H locs 30 41236 (lw_Z below #[Value.ref b] s) (F0 m 18 ls [])) : ∀ (x3 : Int32) (μ ν : zM) (H : Heap) (locs : List Loc) (ls : Array Slot), G_La_0 L xs C x3 μ ν → zL E s μ ν H locs → lv_has ls 4 [(0, .ref b), (1, .ref (E.2.1 0)), (2, .ref (E.2.1 19)), (3, .int x3)] → W p l e room_1 s m #[Value.ref b] below meth c H locs 30 41236 (lw_Z below #[Value.ref b] s) (F0 m 120 ls []) := by
  have hx := X.1
  have hb := X.2.1
  intro x3 μ ν H locs ls h w hl
  unfold G_La_0 at h
  refine lv_aload_n hx hb d_La_120 rfl (lv_at hl 1 rfl) ?_
  refine lv_aload_n hx hb d_La_121 rfl (lv_at hl 0 rfl) ?_
  refine lv_iload_n hx hb d_La_122 rfl (lv_at hl 3 rfl) ?_
  refine lv_iconst (v := 1) hx hb d_La_123 (by decide) ?_
  refine lv_iadd hx hb d_La_124 ?_
  obtain ⟨hi4, h⟩ := h
  refine va_sld hx hb hX hbl hbA w.2.2 hi4 d_La_125 ?_
  refine lv_aload_n hx hb d_La_126 rfl (lv_at hl 0 rfl) ?_
  refine lv_iload_n hx hb d_La_127 rfl (lv_at hl 3 rfl) ?_
  refine lv_iconst (v := 2) hx hb d_La_128 (by decide) ?_
  refine lv_iadd hx hb d_La_129 ?_
  obtain ⟨hi5, h⟩ := h
  refine va_sld hx hb hX hbl hbA w.2.2 hi5 d_La_130 ?_
  refine lv_aload_n hx hb d_La_131 rfl (lv_at hl 0 rfl) ?_
  refine lv_iload_n hx hb d_La_132 rfl (lv_at hl 3 rfl) ?_
  refine lv_iconst (v := 3) hx hb d_La_133 (by decide) ?_
  refine lv_iadd hx hb d_La_134 ?_
  obtain ⟨hi6, h⟩ := h
  refine va_sld hx hb hX hbl hbA w.2.2 hi6 d_La_135 ?_
  refine lv_aload_n hx hb d_La_136 rfl (lv_at hl 0 rfl) ?_
  refine lv_iload_n hx hb d_La_137 rfl (lv_at hl 3 rfl) ?_
  refine lv_iconst (v := 4) hx hb d_La_138 (by decide) ?_
  refine lv_iadd hx hb d_La_139 ?_
  obtain ⟨hi7, h⟩ := h
  refine va_sld hx hb hX hbl hbA w.2.2 hi7 d_La_140 ?_
  refine z_cVi (E := zt E (zM0 E ν)) (V := zwC) (As := [.int (xs (x3 + (1 : Int32)).toNatClampNeg), .int (xs (x3 + (2 : Int32)).toNatClampNeg), .int (xs (x3 + (3 : Int32)).toNatClampNeg), .int (xs (x3 + (4 : Int32)).toNatClampNeg)]) (rest := []) (q0 := 0) (ci := 5) (zX_t X) (zL_C w) (c_Bh_begin l (zt E (zM0 E ν)) μ (xs (x3 + (1 : Int32)).toNatClampNeg) (xs (x3 + (2 : Int32)).toNatClampNeg) (xs (x3 + (3 : Int32)).toNatClampNeg) (xs (x3 + (4 : Int32)).toNatClampNeg) _ h) rfl rfl rfl w_ml_La_13 ⟨w_im_Bh_begin, w_se_Bh_begin⟩ w_in_Bh w_co_Bh_begin q_Bh_begin.1 q_Bh_begin.2 rfl ⟨Nat.le_of_ble_eq_true rfl, Nat.le_of_ble_eq_true rfl⟩ ⟨(show (30 : Nat) ≤ 30 from Nat.le_refl _), (show (41236 : Nat) ≤ 41236 from Nat.le_refl _)⟩ hl.1 rfl (Nat.le_of_ble_eq_true rfl) d_La_141 (fun r8 μ9 H locs h w => ?_)
  have w := zC_L w
  refine lv_aload_n hx hb d_La_144 rfl (lv_at hl 2 rfl) ?_
  refine lv_aload_n hx hb d_La_145 rfl (lv_at hl 0 rfl) ?_
  refine lv_iload_n hx hb d_La_146 rfl (lv_at hl 3 rfl) ?_
  refine lv_iconst (v := 1) hx hb d_La_147 (by decide) ?_
  refine lv_iadd hx hb d_La_148 ?_
  obtain ⟨hi10, h⟩ := h
  refine va_sld hx hb hX hbl hbA w.2.2 hi10 d_La_149 ?_
  refine lv_aload_n hx hb d_La_150 rfl (lv_at hl 0 rfl) ?_
  refine lv_iload_n hx hb d_La_151 rfl (lv_at hl 3 rfl) ?_
  refine lv_iconst (v := 2) hx hb d_La_152 (by decide) ?_
  refine lv_iadd hx hb d_La_153 ?_
  obtain ⟨hi11, h⟩ := h
  refine va_sld hx hb hX hbl hbA w.2.2 hi11 d_La_154 ?_
  refine lv_aload_n hx hb d_La_155 rfl (lv_at hl 0 rfl) ?_
  refine lv_iload_n hx hb d_La_156 rfl (lv_at hl 3 rfl) ?_
  refine lv_iconst (v := 3) hx hb d_La_157 (by decide) ?_
  refine lv_iadd hx hb d_La_158 ?_
  obtain ⟨hi12, h⟩ := h
  refine va_sld hx hb hX hbl hbA w.2.2 hi12 d_La_159 ?_
  refine lv_aload_n hx hb d_La_160 rfl (lv_at hl 0 rfl) ?_
  refine lv_iload_n hx hb d_La_161 rfl (lv_at hl 3 rfl) ?_
  refine lv_iconst (v := 4) hx hb d_La_162 (by decide) ?_
  refine lv_iadd hx hb d_La_163 ?_
  obtain ⟨hi13, h⟩ := h
  refine va_sld hx hb hX hbl hbA w.2.2 hi13 d_La_164 ?_
  refine z_cVi (E := zt E (zC0 E μ9)) (V := zwM) (As := [.int (xs (x3 + (1 : Int32)).toNatClampNeg), .int (xs (x3 + (2 : Int32)).toNatClampNeg), .int (xs (x3 + (3 : Int32)).toNatClampNeg), .int (xs (x3 + (4 : Int32)).toNatClampNeg)]) (rest := [.int r8]) (q0 := 0) (ci := 6) (zX_t X) (zL_M w) (c_Mo_begin l (zt E (zC0 E μ9)) ν (xs (x3 + (1 : Int32)).toNatClampNeg) (xs (x3 + (2 : Int32)).toNatClampNeg) (xs (x3 + (3 : Int32)).toNatClampNeg) (xs (x3 + (4 : Int32)).toNatClampNeg) _ h) rfl rfl rfl w_ml_La_17 ⟨w_im_Mo_begin, w_se_Mo_begin⟩ w_in_Mo w_co_Mo_begin q_Mo_begin.1 q_Mo_begin.2 rfl ⟨Nat.le_of_ble_eq_true rfl, Nat.le_of_ble_eq_true rfl⟩ ⟨(show (30 : Nat) ≤ 30 from Nat.le_refl _), (show (41236 : Nat) ≤ 41236 from Nat.le_refl _)⟩ hl.1 rfl (Nat.le_of_ble_eq_true rfl) d_La_165 (fun r14 ν15 H locs h w => ?_)
  have w := zM_L w
  refine lv_icmp_eq (tgt := 664) hx hb d_La_168 (by decide) (fun c16 => ?_) (fun c16 => ?_)
  · have h := h.1 c16
    obtain ⟨x17, ex17⟩ : ∃ y : Int32, y = x3 + 5 := ⟨_, rfl⟩
    have h := h x17 ex17
    refine lv_iinc (v := x17) (lv' := [(3, .int x17), (0, .ref b), (1, .ref (E.2.1 0)), (2, .ref (E.2.1 19))]) hx hb d_La_664 hl (k := 3) rfl (by rw [ex17]; rfl) (by decide) rfl (fun ls hl => ?_)
    refine lv_goto (tgt := 18) hx hb d_La_667 (by decide) ?_
    exact ih x17 μ9 ν15 _ _ _ h w (lv_sub hl [1, 2, 3, 0] rfl)
  · have h := h.2 c16
    refine lv_iconst (v := 0) hx hb d_La_171 (by decide) ?_
    exact h.elim
def G_La_1 (L : Nat) (xs : Nat → Int32) (ih : Int32 → zM → zM → Prop) (x3 : Int32) (μ ν : zM) : Prop := vp_in (x3 + (1 : Int32)) L ∧ (vp_in (x3 + (2 : Int32)) L ∧ (vp_in (x3 + (3 : Int32)) L ∧ (f_Bh_make μ (xs (x3 + (1 : Int32)).toNatClampNeg) (xs (x3 + (2 : Int32)).toNatClampNeg) (xs (x3 + (3 : Int32)).toNatClampNeg) (fun r22 μ23 => (vp_in (x3 + (1 : Int32)) L ∧ (vp_in (x3 + (2 : Int32)) L ∧ (vp_in (x3 + (3 : Int32)) L ∧ (f_Mo_make ν (xs (x3 + (1 : Int32)).toNatClampNeg) (xs (x3 + (2 : Int32)).toNatClampNeg) (xs (x3 + (3 : Int32)).toNatClampNeg) (fun r27 ν28 => ((r22 = r27 → (∀ x30 : Int32, x30 = x3 + 5 → (ih x30 μ23 ν28))) ∧ (¬ r22 = r27 → (False))))))))))))
set_option maxHeartbeats 4000000 in
set_option maxRecDepth 100000 in
theorem M_La_1 {p : Program} {l : Launch} {e : Env} {s : State} {m : MethodId} {below : List Frame} {meth : Method} {c : Code} {E : zE} {b L : Nat} {xs : Nat → Int32} (hE : E.2.2.2.2.2.1 = fun q => s.heap.size ≤ q) (X : zX E p s m #[Value.ref b] c code "BeatHeapLaw" 4) (hr : meth.sig.returnType = ret) (hlk : meth.locks = false) (hX : va_X b L xs s s.heap) (hbl : b < s.heap.size) (hbA : ¬ zA E b) (C : Int32 → zM → zM → Prop) (ih : ∀ (x3 : Int32) (μ ν : zM) (H : Heap) (locs : List Loc) (ls : Array Slot), C x3 μ ν → zL E s μ ν H locs → lv_has ls 4 [(0, .ref b), (1, .ref (E.2.1 0)), (2, .ref (E.2.1 19)), (3, .int x3)] → W p l e room_1 s m #[Value.ref b] below meth c H locs 30 41236 (lw_Z below #[Value.ref b] s) (F0 m 18 ls [])) : ∀ (x3 : Int32) (μ ν : zM) (H : Heap) (locs : List Loc) (ls : Array Slot), G_La_1 L xs C x3 μ ν → zL E s μ ν H locs → lv_has ls 4 [(0, .ref b), (1, .ref (E.2.1 0)), (2, .ref (E.2.1 19)), (3, .int x3)] → W p l e room_1 s m #[Value.ref b] below meth c H locs 30 41236 (lw_Z below #[Value.ref b] s) (F0 m 173 ls []) := by
  have hx := X.1
  have hb := X.2.1
  intro x3 μ ν H locs ls h w hl
  unfold G_La_1 at h
  refine lv_aload_n hx hb d_La_173 rfl (lv_at hl 1 rfl) ?_
  refine lv_aload_n hx hb d_La_174 rfl (lv_at hl 0 rfl) ?_
  refine lv_iload_n hx hb d_La_175 rfl (lv_at hl 3 rfl) ?_
  refine lv_iconst (v := 1) hx hb d_La_176 (by decide) ?_
  refine lv_iadd hx hb d_La_177 ?_
  obtain ⟨hi19, h⟩ := h
  refine va_sld hx hb hX hbl hbA w.2.2 hi19 d_La_178 ?_
  refine lv_aload_n hx hb d_La_179 rfl (lv_at hl 0 rfl) ?_
  refine lv_iload_n hx hb d_La_180 rfl (lv_at hl 3 rfl) ?_
  refine lv_iconst (v := 2) hx hb d_La_181 (by decide) ?_
  refine lv_iadd hx hb d_La_182 ?_
  obtain ⟨hi20, h⟩ := h
  refine va_sld hx hb hX hbl hbA w.2.2 hi20 d_La_183 ?_
  refine lv_aload_n hx hb d_La_184 rfl (lv_at hl 0 rfl) ?_
  refine lv_iload_n hx hb d_La_185 rfl (lv_at hl 3 rfl) ?_
  refine lv_iconst (v := 3) hx hb d_La_186 (by decide) ?_
  refine lv_iadd hx hb d_La_187 ?_
  obtain ⟨hi21, h⟩ := h
  refine va_sld hx hb hX hbl hbA w.2.2 hi21 d_La_188 ?_
  refine z_cVi (E := zt E (zM0 E ν)) (V := zwC) (As := [.int (xs (x3 + (1 : Int32)).toNatClampNeg), .int (xs (x3 + (2 : Int32)).toNatClampNeg), .int (xs (x3 + (3 : Int32)).toNatClampNeg)]) (rest := []) (q0 := 0) (ci := 5) (zX_t X) (zL_C w) (c_Bh_make l (zt E (zM0 E ν)) μ (xs (x3 + (1 : Int32)).toNatClampNeg) (xs (x3 + (2 : Int32)).toNatClampNeg) (xs (x3 + (3 : Int32)).toNatClampNeg) _ h) rfl rfl rfl w_ml_La_18 ⟨w_im_Bh_make, w_se_Bh_make⟩ w_in_Bh w_co_Bh_make q_Bh_make.1 q_Bh_make.2 rfl ⟨Nat.le_of_ble_eq_true rfl, Nat.le_of_ble_eq_true rfl⟩ ⟨(show (30 : Nat) ≤ 30 from Nat.le_refl _), (show (41236 : Nat) ≤ 41236 from Nat.le_refl _)⟩ hl.1 rfl (Nat.le_of_ble_eq_true rfl) d_La_189 (fun r22 μ23 H locs h w => ?_)
  have w := zC_L w
  refine lv_aload_n hx hb d_La_192 rfl (lv_at hl 2 rfl) ?_
  refine lv_aload_n hx hb d_La_193 rfl (lv_at hl 0 rfl) ?_
  refine lv_iload_n hx hb d_La_194 rfl (lv_at hl 3 rfl) ?_
  refine lv_iconst (v := 1) hx hb d_La_195 (by decide) ?_
  refine lv_iadd hx hb d_La_196 ?_
  obtain ⟨hi24, h⟩ := h
  refine va_sld hx hb hX hbl hbA w.2.2 hi24 d_La_197 ?_
  refine lv_aload_n hx hb d_La_198 rfl (lv_at hl 0 rfl) ?_
  refine lv_iload_n hx hb d_La_199 rfl (lv_at hl 3 rfl) ?_
  refine lv_iconst (v := 2) hx hb d_La_200 (by decide) ?_
  refine lv_iadd hx hb d_La_201 ?_
  obtain ⟨hi25, h⟩ := h
  refine va_sld hx hb hX hbl hbA w.2.2 hi25 d_La_202 ?_
  refine lv_aload_n hx hb d_La_203 rfl (lv_at hl 0 rfl) ?_
  refine lv_iload_n hx hb d_La_204 rfl (lv_at hl 3 rfl) ?_
  refine lv_iconst (v := 3) hx hb d_La_205 (by decide) ?_
  refine lv_iadd hx hb d_La_206 ?_
  obtain ⟨hi26, h⟩ := h
  refine va_sld hx hb hX hbl hbA w.2.2 hi26 d_La_207 ?_
  refine z_cVi (E := zt E (zC0 E μ23)) (V := zwM) (As := [.int (xs (x3 + (1 : Int32)).toNatClampNeg), .int (xs (x3 + (2 : Int32)).toNatClampNeg), .int (xs (x3 + (3 : Int32)).toNatClampNeg)]) (rest := [.int r22]) (q0 := 0) (ci := 6) (zX_t X) (zL_M w) (c_Mo_make l (zt E (zC0 E μ23)) ν (xs (x3 + (1 : Int32)).toNatClampNeg) (xs (x3 + (2 : Int32)).toNatClampNeg) (xs (x3 + (3 : Int32)).toNatClampNeg) _ h) rfl rfl rfl w_ml_La_22 ⟨w_im_Mo_make, w_se_Mo_make⟩ w_in_Mo w_co_Mo_make q_Mo_make.1 q_Mo_make.2 rfl ⟨Nat.le_of_ble_eq_true rfl, Nat.le_of_ble_eq_true rfl⟩ ⟨(show (30 : Nat) ≤ 30 from Nat.le_refl _), (show (41236 : Nat) ≤ 41236 from Nat.le_refl _)⟩ hl.1 rfl (Nat.le_of_ble_eq_true rfl) d_La_208 (fun r27 ν28 H locs h w => ?_)
  have w := zM_L w
  refine lv_icmp_eq (tgt := 664) hx hb d_La_211 (by decide) (fun c29 => ?_) (fun c29 => ?_)
  · have h := h.1 c29
    obtain ⟨x30, ex30⟩ : ∃ y : Int32, y = x3 + 5 := ⟨_, rfl⟩
    have h := h x30 ex30
    refine lv_iinc (v := x30) (lv' := [(3, .int x30), (0, .ref b), (1, .ref (E.2.1 0)), (2, .ref (E.2.1 19))]) hx hb d_La_664 hl (k := 3) rfl (by rw [ex30]; rfl) (by decide) rfl (fun ls hl => ?_)
    refine lv_goto (tgt := 18) hx hb d_La_667 (by decide) ?_
    exact ih x30 μ23 ν28 _ _ _ h w (lv_sub hl [1, 2, 3, 0] rfl)
  · have h := h.2 c29
    refine lv_iconst (v := 0) hx hb d_La_214 (by decide) ?_
    exact h.elim
def G_La_2 (L : Nat) (xs : Nat → Int32) (ih : Int32 → zM → zM → Prop) (x3 : Int32) (μ ν : zM) : Prop := vp_in (x3 + (1 : Int32)) L ∧ (vp_in (x3 + (2 : Int32)) L ∧ (f_Bh_array μ (xs (x3 + (1 : Int32)).toNatClampNeg) (xs (x3 + (2 : Int32)).toNatClampNeg) (fun r34 μ35 => (vp_in (x3 + (1 : Int32)) L ∧ (vp_in (x3 + (2 : Int32)) L ∧ (f_Mo_array ν (xs (x3 + (1 : Int32)).toNatClampNeg) (xs (x3 + (2 : Int32)).toNatClampNeg) (fun r38 ν39 => ((r34 = r38 → (∀ x41 : Int32, x41 = x3 + 5 → (ih x41 μ35 ν39))) ∧ (¬ r34 = r38 → (False))))))))))
set_option maxHeartbeats 4000000 in
set_option maxRecDepth 100000 in
theorem M_La_2 {p : Program} {l : Launch} {e : Env} {s : State} {m : MethodId} {below : List Frame} {meth : Method} {c : Code} {E : zE} {b L : Nat} {xs : Nat → Int32} (hE : E.2.2.2.2.2.1 = fun q => s.heap.size ≤ q) (X : zX E p s m #[Value.ref b] c code "BeatHeapLaw" 4) (hr : meth.sig.returnType = ret) (hlk : meth.locks = false) (hX : va_X b L xs s s.heap) (hbl : b < s.heap.size) (hbA : ¬ zA E b) (C : Int32 → zM → zM → Prop) (ih : ∀ (x3 : Int32) (μ ν : zM) (H : Heap) (locs : List Loc) (ls : Array Slot), C x3 μ ν → zL E s μ ν H locs → lv_has ls 4 [(0, .ref b), (1, .ref (E.2.1 0)), (2, .ref (E.2.1 19)), (3, .int x3)] → W p l e room_1 s m #[Value.ref b] below meth c H locs 30 41236 (lw_Z below #[Value.ref b] s) (F0 m 18 ls [])) : ∀ (x3 : Int32) (μ ν : zM) (H : Heap) (locs : List Loc) (ls : Array Slot), G_La_2 L xs C x3 μ ν → zL E s μ ν H locs → lv_has ls 4 [(0, .ref b), (1, .ref (E.2.1 0)), (2, .ref (E.2.1 19)), (3, .int x3)] → W p l e room_1 s m #[Value.ref b] below meth c H locs 30 41236 (lw_Z below #[Value.ref b] s) (F0 m 216 ls []) := by
  have hx := X.1
  have hb := X.2.1
  intro x3 μ ν H locs ls h w hl
  unfold G_La_2 at h
  refine lv_aload_n hx hb d_La_216 rfl (lv_at hl 1 rfl) ?_
  refine lv_aload_n hx hb d_La_217 rfl (lv_at hl 0 rfl) ?_
  refine lv_iload_n hx hb d_La_218 rfl (lv_at hl 3 rfl) ?_
  refine lv_iconst (v := 1) hx hb d_La_219 (by decide) ?_
  refine lv_iadd hx hb d_La_220 ?_
  obtain ⟨hi32, h⟩ := h
  refine va_sld hx hb hX hbl hbA w.2.2 hi32 d_La_221 ?_
  refine lv_aload_n hx hb d_La_222 rfl (lv_at hl 0 rfl) ?_
  refine lv_iload_n hx hb d_La_223 rfl (lv_at hl 3 rfl) ?_
  refine lv_iconst (v := 2) hx hb d_La_224 (by decide) ?_
  refine lv_iadd hx hb d_La_225 ?_
  obtain ⟨hi33, h⟩ := h
  refine va_sld hx hb hX hbl hbA w.2.2 hi33 d_La_226 ?_
  refine z_cVi (E := zt E (zM0 E ν)) (V := zwC) (As := [.int (xs (x3 + (1 : Int32)).toNatClampNeg), .int (xs (x3 + (2 : Int32)).toNatClampNeg)]) (rest := []) (q0 := 0) (ci := 5) (zX_t X) (zL_C w) (c_Bh_array l (zt E (zM0 E ν)) μ (xs (x3 + (1 : Int32)).toNatClampNeg) (xs (x3 + (2 : Int32)).toNatClampNeg) _ h) rfl rfl rfl w_ml_La_23 ⟨w_im_Bh_array, w_se_Bh_array⟩ w_in_Bh w_co_Bh_array q_Bh_array.1 q_Bh_array.2 rfl ⟨Nat.le_of_ble_eq_true rfl, Nat.le_of_ble_eq_true rfl⟩ ⟨(show (30 : Nat) ≤ 30 from Nat.le_refl _), (show (41236 : Nat) ≤ 41236 from Nat.le_refl _)⟩ hl.1 rfl (Nat.le_of_ble_eq_true rfl) d_La_227 (fun r34 μ35 H locs h w => ?_)
  have w := zC_L w
  refine lv_aload_n hx hb d_La_230 rfl (lv_at hl 2 rfl) ?_
  refine lv_aload_n hx hb d_La_231 rfl (lv_at hl 0 rfl) ?_
  refine lv_iload_n hx hb d_La_232 rfl (lv_at hl 3 rfl) ?_
  refine lv_iconst (v := 1) hx hb d_La_233 (by decide) ?_
  refine lv_iadd hx hb d_La_234 ?_
  obtain ⟨hi36, h⟩ := h
  refine va_sld hx hb hX hbl hbA w.2.2 hi36 d_La_235 ?_
  refine lv_aload_n hx hb d_La_236 rfl (lv_at hl 0 rfl) ?_
  refine lv_iload_n hx hb d_La_237 rfl (lv_at hl 3 rfl) ?_
  refine lv_iconst (v := 2) hx hb d_La_238 (by decide) ?_
  refine lv_iadd hx hb d_La_239 ?_
  obtain ⟨hi37, h⟩ := h
  refine va_sld hx hb hX hbl hbA w.2.2 hi37 d_La_240 ?_
  refine z_cVi (E := zt E (zC0 E μ35)) (V := zwM) (As := [.int (xs (x3 + (1 : Int32)).toNatClampNeg), .int (xs (x3 + (2 : Int32)).toNatClampNeg)]) (rest := [.int r34]) (q0 := 0) (ci := 6) (zX_t X) (zL_M w) (c_Mo_array l (zt E (zC0 E μ35)) ν (xs (x3 + (1 : Int32)).toNatClampNeg) (xs (x3 + (2 : Int32)).toNatClampNeg) _ h) rfl rfl rfl w_ml_La_27 ⟨w_im_Mo_array, w_se_Mo_array⟩ w_in_Mo w_co_Mo_array q_Mo_array.1 q_Mo_array.2 rfl ⟨Nat.le_of_ble_eq_true rfl, Nat.le_of_ble_eq_true rfl⟩ ⟨(show (30 : Nat) ≤ 30 from Nat.le_refl _), (show (41236 : Nat) ≤ 41236 from Nat.le_refl _)⟩ hl.1 rfl (Nat.le_of_ble_eq_true rfl) d_La_241 (fun r38 ν39 H locs h w => ?_)
  have w := zM_L w
  refine lv_icmp_eq (tgt := 664) hx hb d_La_244 (by decide) (fun c40 => ?_) (fun c40 => ?_)
  · have h := h.1 c40
    obtain ⟨x41, ex41⟩ : ∃ y : Int32, y = x3 + 5 := ⟨_, rfl⟩
    have h := h x41 ex41
    refine lv_iinc (v := x41) (lv' := [(3, .int x41), (0, .ref b), (1, .ref (E.2.1 0)), (2, .ref (E.2.1 19))]) hx hb d_La_664 hl (k := 3) rfl (by rw [ex41]; rfl) (by decide) rfl (fun ls hl => ?_)
    refine lv_goto (tgt := 18) hx hb d_La_667 (by decide) ?_
    exact ih x41 μ35 ν39 _ _ _ h w (lv_sub hl [1, 2, 3, 0] rfl)
  · have h := h.2 c40
    refine lv_iconst (v := 0) hx hb d_La_247 (by decide) ?_
    exact h.elim
def G_La_3 (L : Nat) (xs : Nat → Int32) (ih : Int32 → zM → zM → Prop) (x3 : Int32) (μ ν : zM) : Prop := vp_in (x3 + (1 : Int32)) L ∧ (vp_in (x3 + (2 : Int32)) L ∧ (vp_in (x3 + (3 : Int32)) L ∧ (f_Bh_put μ (xs (x3 + (1 : Int32)).toNatClampNeg) (xs (x3 + (2 : Int32)).toNatClampNeg) (xs (x3 + (3 : Int32)).toNatClampNeg) (fun r46 μ47 => (vp_in (x3 + (1 : Int32)) L ∧ (vp_in (x3 + (2 : Int32)) L ∧ (vp_in (x3 + (3 : Int32)) L ∧ (f_Mo_put ν (xs (x3 + (1 : Int32)).toNatClampNeg) (xs (x3 + (2 : Int32)).toNatClampNeg) (xs (x3 + (3 : Int32)).toNatClampNeg) (fun r51 ν52 => ((r46 = r51 → (∀ x54 : Int32, x54 = x3 + 5 → (ih x54 μ47 ν52))) ∧ (¬ r46 = r51 → (False))))))))))))
set_option maxHeartbeats 4000000 in
set_option maxRecDepth 100000 in
theorem M_La_3 {p : Program} {l : Launch} {e : Env} {s : State} {m : MethodId} {below : List Frame} {meth : Method} {c : Code} {E : zE} {b L : Nat} {xs : Nat → Int32} (hE : E.2.2.2.2.2.1 = fun q => s.heap.size ≤ q) (X : zX E p s m #[Value.ref b] c code "BeatHeapLaw" 4) (hr : meth.sig.returnType = ret) (hlk : meth.locks = false) (hX : va_X b L xs s s.heap) (hbl : b < s.heap.size) (hbA : ¬ zA E b) (C : Int32 → zM → zM → Prop) (ih : ∀ (x3 : Int32) (μ ν : zM) (H : Heap) (locs : List Loc) (ls : Array Slot), C x3 μ ν → zL E s μ ν H locs → lv_has ls 4 [(0, .ref b), (1, .ref (E.2.1 0)), (2, .ref (E.2.1 19)), (3, .int x3)] → W p l e room_1 s m #[Value.ref b] below meth c H locs 30 41236 (lw_Z below #[Value.ref b] s) (F0 m 18 ls [])) : ∀ (x3 : Int32) (μ ν : zM) (H : Heap) (locs : List Loc) (ls : Array Slot), G_La_3 L xs C x3 μ ν → zL E s μ ν H locs → lv_has ls 4 [(0, .ref b), (1, .ref (E.2.1 0)), (2, .ref (E.2.1 19)), (3, .int x3)] → W p l e room_1 s m #[Value.ref b] below meth c H locs 30 41236 (lw_Z below #[Value.ref b] s) (F0 m 249 ls []) := by
  have hx := X.1
  have hb := X.2.1
  intro x3 μ ν H locs ls h w hl
  unfold G_La_3 at h
  refine lv_aload_n hx hb d_La_249 rfl (lv_at hl 1 rfl) ?_
  refine lv_aload_n hx hb d_La_250 rfl (lv_at hl 0 rfl) ?_
  refine lv_iload_n hx hb d_La_251 rfl (lv_at hl 3 rfl) ?_
  refine lv_iconst (v := 1) hx hb d_La_252 (by decide) ?_
  refine lv_iadd hx hb d_La_253 ?_
  obtain ⟨hi43, h⟩ := h
  refine va_sld hx hb hX hbl hbA w.2.2 hi43 d_La_254 ?_
  refine lv_aload_n hx hb d_La_255 rfl (lv_at hl 0 rfl) ?_
  refine lv_iload_n hx hb d_La_256 rfl (lv_at hl 3 rfl) ?_
  refine lv_iconst (v := 2) hx hb d_La_257 (by decide) ?_
  refine lv_iadd hx hb d_La_258 ?_
  obtain ⟨hi44, h⟩ := h
  refine va_sld hx hb hX hbl hbA w.2.2 hi44 d_La_259 ?_
  refine lv_aload_n hx hb d_La_260 rfl (lv_at hl 0 rfl) ?_
  refine lv_iload_n hx hb d_La_261 rfl (lv_at hl 3 rfl) ?_
  refine lv_iconst (v := 3) hx hb d_La_262 (by decide) ?_
  refine lv_iadd hx hb d_La_263 ?_
  obtain ⟨hi45, h⟩ := h
  refine va_sld hx hb hX hbl hbA w.2.2 hi45 d_La_264 ?_
  refine z_cVi (E := zt E (zM0 E ν)) (V := zwC) (As := [.int (xs (x3 + (1 : Int32)).toNatClampNeg), .int (xs (x3 + (2 : Int32)).toNatClampNeg), .int (xs (x3 + (3 : Int32)).toNatClampNeg)]) (rest := []) (q0 := 0) (ci := 5) (zX_t X) (zL_C w) (c_Bh_put l (zt E (zM0 E ν)) μ (xs (x3 + (1 : Int32)).toNatClampNeg) (xs (x3 + (2 : Int32)).toNatClampNeg) (xs (x3 + (3 : Int32)).toNatClampNeg) _ h) rfl rfl rfl w_ml_La_28 ⟨w_im_Bh_put, w_se_Bh_put⟩ w_in_Bh w_co_Bh_put q_Bh_put.1 q_Bh_put.2 rfl ⟨Nat.le_of_ble_eq_true rfl, Nat.le_of_ble_eq_true rfl⟩ ⟨(show (30 : Nat) ≤ 30 from Nat.le_refl _), (show (41236 : Nat) ≤ 41236 from Nat.le_refl _)⟩ hl.1 rfl (Nat.le_of_ble_eq_true rfl) d_La_265 (fun r46 μ47 H locs h w => ?_)
  have w := zC_L w
  refine lv_aload_n hx hb d_La_268 rfl (lv_at hl 2 rfl) ?_
  refine lv_aload_n hx hb d_La_269 rfl (lv_at hl 0 rfl) ?_
  refine lv_iload_n hx hb d_La_270 rfl (lv_at hl 3 rfl) ?_
  refine lv_iconst (v := 1) hx hb d_La_271 (by decide) ?_
  refine lv_iadd hx hb d_La_272 ?_
  obtain ⟨hi48, h⟩ := h
  refine va_sld hx hb hX hbl hbA w.2.2 hi48 d_La_273 ?_
  refine lv_aload_n hx hb d_La_274 rfl (lv_at hl 0 rfl) ?_
  refine lv_iload_n hx hb d_La_275 rfl (lv_at hl 3 rfl) ?_
  refine lv_iconst (v := 2) hx hb d_La_276 (by decide) ?_
  refine lv_iadd hx hb d_La_277 ?_
  obtain ⟨hi49, h⟩ := h
  refine va_sld hx hb hX hbl hbA w.2.2 hi49 d_La_278 ?_
  refine lv_aload_n hx hb d_La_279 rfl (lv_at hl 0 rfl) ?_
  refine lv_iload_n hx hb d_La_280 rfl (lv_at hl 3 rfl) ?_
  refine lv_iconst (v := 3) hx hb d_La_281 (by decide) ?_
  refine lv_iadd hx hb d_La_282 ?_
  obtain ⟨hi50, h⟩ := h
  refine va_sld hx hb hX hbl hbA w.2.2 hi50 d_La_283 ?_
  refine z_cVi (E := zt E (zC0 E μ47)) (V := zwM) (As := [.int (xs (x3 + (1 : Int32)).toNatClampNeg), .int (xs (x3 + (2 : Int32)).toNatClampNeg), .int (xs (x3 + (3 : Int32)).toNatClampNeg)]) (rest := [.int r46]) (q0 := 0) (ci := 6) (zX_t X) (zL_M w) (c_Mo_put l (zt E (zC0 E μ47)) ν (xs (x3 + (1 : Int32)).toNatClampNeg) (xs (x3 + (2 : Int32)).toNatClampNeg) (xs (x3 + (3 : Int32)).toNatClampNeg) _ h) rfl rfl rfl w_ml_La_32 ⟨w_im_Mo_put, w_se_Mo_put⟩ w_in_Mo w_co_Mo_put q_Mo_put.1 q_Mo_put.2 rfl ⟨Nat.le_of_ble_eq_true rfl, Nat.le_of_ble_eq_true rfl⟩ ⟨(show (30 : Nat) ≤ 30 from Nat.le_refl _), (show (41236 : Nat) ≤ 41236 from Nat.le_refl _)⟩ hl.1 rfl (Nat.le_of_ble_eq_true rfl) d_La_284 (fun r51 ν52 H locs h w => ?_)
  have w := zM_L w
  refine lv_icmp_eq (tgt := 664) hx hb d_La_287 (by decide) (fun c53 => ?_) (fun c53 => ?_)
  · have h := h.1 c53
    obtain ⟨x54, ex54⟩ : ∃ y : Int32, y = x3 + 5 := ⟨_, rfl⟩
    have h := h x54 ex54
    refine lv_iinc (v := x54) (lv' := [(3, .int x54), (0, .ref b), (1, .ref (E.2.1 0)), (2, .ref (E.2.1 19))]) hx hb d_La_664 hl (k := 3) rfl (by rw [ex54]; rfl) (by decide) rfl (fun ls hl => ?_)
    refine lv_goto (tgt := 18) hx hb d_La_667 (by decide) ?_
    exact ih x54 μ47 ν52 _ _ _ h w (lv_sub hl [1, 2, 3, 0] rfl)
  · have h := h.2 c53
    refine lv_iconst (v := 0) hx hb d_La_290 (by decide) ?_
    exact h.elim
def G_La_4 (L : Nat) (xs : Nat → Int32) (ih : Int32 → zM → zM → Prop) (x3 : Int32) (μ ν : zM) : Prop := vp_in (x3 + (1 : Int32)) L ∧ (vp_in (x3 + (2 : Int32)) L ∧ (f_Bh_get μ (xs (x3 + (1 : Int32)).toNatClampNeg) (xs (x3 + (2 : Int32)).toNatClampNeg) (fun r58 μ59 => (vp_in (x3 + (1 : Int32)) L ∧ (vp_in (x3 + (2 : Int32)) L ∧ (f_Mo_get ν (xs (x3 + (1 : Int32)).toNatClampNeg) (xs (x3 + (2 : Int32)).toNatClampNeg) (fun r62 ν63 => ((r58 = r62 → (∀ x65 : Int32, x65 = x3 + 5 → (ih x65 μ59 ν63))) ∧ (¬ r58 = r62 → (False))))))))))
set_option maxHeartbeats 4000000 in
set_option maxRecDepth 100000 in
theorem M_La_4 {p : Program} {l : Launch} {e : Env} {s : State} {m : MethodId} {below : List Frame} {meth : Method} {c : Code} {E : zE} {b L : Nat} {xs : Nat → Int32} (hE : E.2.2.2.2.2.1 = fun q => s.heap.size ≤ q) (X : zX E p s m #[Value.ref b] c code "BeatHeapLaw" 4) (hr : meth.sig.returnType = ret) (hlk : meth.locks = false) (hX : va_X b L xs s s.heap) (hbl : b < s.heap.size) (hbA : ¬ zA E b) (C : Int32 → zM → zM → Prop) (ih : ∀ (x3 : Int32) (μ ν : zM) (H : Heap) (locs : List Loc) (ls : Array Slot), C x3 μ ν → zL E s μ ν H locs → lv_has ls 4 [(0, .ref b), (1, .ref (E.2.1 0)), (2, .ref (E.2.1 19)), (3, .int x3)] → W p l e room_1 s m #[Value.ref b] below meth c H locs 30 41236 (lw_Z below #[Value.ref b] s) (F0 m 18 ls [])) : ∀ (x3 : Int32) (μ ν : zM) (H : Heap) (locs : List Loc) (ls : Array Slot), G_La_4 L xs C x3 μ ν → zL E s μ ν H locs → lv_has ls 4 [(0, .ref b), (1, .ref (E.2.1 0)), (2, .ref (E.2.1 19)), (3, .int x3)] → W p l e room_1 s m #[Value.ref b] below meth c H locs 30 41236 (lw_Z below #[Value.ref b] s) (F0 m 292 ls []) := by
  have hx := X.1
  have hb := X.2.1
  intro x3 μ ν H locs ls h w hl
  unfold G_La_4 at h
  refine lv_aload_n hx hb d_La_292 rfl (lv_at hl 1 rfl) ?_
  refine lv_aload_n hx hb d_La_293 rfl (lv_at hl 0 rfl) ?_
  refine lv_iload_n hx hb d_La_294 rfl (lv_at hl 3 rfl) ?_
  refine lv_iconst (v := 1) hx hb d_La_295 (by decide) ?_
  refine lv_iadd hx hb d_La_296 ?_
  obtain ⟨hi56, h⟩ := h
  refine va_sld hx hb hX hbl hbA w.2.2 hi56 d_La_297 ?_
  refine lv_aload_n hx hb d_La_298 rfl (lv_at hl 0 rfl) ?_
  refine lv_iload_n hx hb d_La_299 rfl (lv_at hl 3 rfl) ?_
  refine lv_iconst (v := 2) hx hb d_La_300 (by decide) ?_
  refine lv_iadd hx hb d_La_301 ?_
  obtain ⟨hi57, h⟩ := h
  refine va_sld hx hb hX hbl hbA w.2.2 hi57 d_La_302 ?_
  refine z_cVi (E := zt E (zM0 E ν)) (V := zwC) (As := [.int (xs (x3 + (1 : Int32)).toNatClampNeg), .int (xs (x3 + (2 : Int32)).toNatClampNeg)]) (rest := []) (q0 := 0) (ci := 5) (zX_t X) (zL_C w) (c_Bh_get l (zt E (zM0 E ν)) μ (xs (x3 + (1 : Int32)).toNatClampNeg) (xs (x3 + (2 : Int32)).toNatClampNeg) _ h) rfl rfl rfl w_ml_La_33 ⟨w_im_Bh_get, w_se_Bh_get⟩ w_in_Bh w_co_Bh_get q_Bh_get.1 q_Bh_get.2 rfl ⟨Nat.le_of_ble_eq_true rfl, Nat.le_of_ble_eq_true rfl⟩ ⟨(show (30 : Nat) ≤ 30 from Nat.le_refl _), (show (41236 : Nat) ≤ 41236 from Nat.le_refl _)⟩ hl.1 rfl (Nat.le_of_ble_eq_true rfl) d_La_303 (fun r58 μ59 H locs h w => ?_)
  have w := zC_L w
  refine lv_aload_n hx hb d_La_306 rfl (lv_at hl 2 rfl) ?_
  refine lv_aload_n hx hb d_La_307 rfl (lv_at hl 0 rfl) ?_
  refine lv_iload_n hx hb d_La_308 rfl (lv_at hl 3 rfl) ?_
  refine lv_iconst (v := 1) hx hb d_La_309 (by decide) ?_
  refine lv_iadd hx hb d_La_310 ?_
  obtain ⟨hi60, h⟩ := h
  refine va_sld hx hb hX hbl hbA w.2.2 hi60 d_La_311 ?_
  refine lv_aload_n hx hb d_La_312 rfl (lv_at hl 0 rfl) ?_
  refine lv_iload_n hx hb d_La_313 rfl (lv_at hl 3 rfl) ?_
  refine lv_iconst (v := 2) hx hb d_La_314 (by decide) ?_
  refine lv_iadd hx hb d_La_315 ?_
  obtain ⟨hi61, h⟩ := h
  refine va_sld hx hb hX hbl hbA w.2.2 hi61 d_La_316 ?_
  refine z_cVi (E := zt E (zC0 E μ59)) (V := zwM) (As := [.int (xs (x3 + (1 : Int32)).toNatClampNeg), .int (xs (x3 + (2 : Int32)).toNatClampNeg)]) (rest := [.int r58]) (q0 := 0) (ci := 6) (zX_t X) (zL_M w) (c_Mo_get l (zt E (zC0 E μ59)) ν (xs (x3 + (1 : Int32)).toNatClampNeg) (xs (x3 + (2 : Int32)).toNatClampNeg) _ h) rfl rfl rfl w_ml_La_36 ⟨w_im_Mo_get, w_se_Mo_get⟩ w_in_Mo w_co_Mo_get q_Mo_get.1 q_Mo_get.2 rfl ⟨Nat.le_of_ble_eq_true rfl, Nat.le_of_ble_eq_true rfl⟩ ⟨(show (30 : Nat) ≤ 30 from Nat.le_refl _), (show (41236 : Nat) ≤ 41236 from Nat.le_refl _)⟩ hl.1 rfl (Nat.le_of_ble_eq_true rfl) d_La_317 (fun r62 ν63 H locs h w => ?_)
  have w := zM_L w
  refine lv_icmp_eq (tgt := 664) hx hb d_La_320 (by decide) (fun c64 => ?_) (fun c64 => ?_)
  · have h := h.1 c64
    obtain ⟨x65, ex65⟩ : ∃ y : Int32, y = x3 + 5 := ⟨_, rfl⟩
    have h := h x65 ex65
    refine lv_iinc (v := x65) (lv' := [(3, .int x65), (0, .ref b), (1, .ref (E.2.1 0)), (2, .ref (E.2.1 19))]) hx hb d_La_664 hl (k := 3) rfl (by rw [ex65]; rfl) (by decide) rfl (fun ls hl => ?_)
    refine lv_goto (tgt := 18) hx hb d_La_667 (by decide) ?_
    exact ih x65 μ59 ν63 _ _ _ h w (lv_sub hl [1, 2, 3, 0] rfl)
  · have h := h.2 c64
    refine lv_iconst (v := 0) hx hb d_La_323 (by decide) ?_
    exact h.elim
def G_La_5 (L : Nat) (xs : Nat → Int32) (ih : Int32 → zM → zM → Prop) (x3 : Int32) (μ ν : zM) : Prop := vp_in (x3 + (1 : Int32)) L ∧ (vp_in (x3 + (2 : Int32)) L ∧ (vp_in (x3 + (3 : Int32)) L ∧ (f_Bh_link μ (xs (x3 + (1 : Int32)).toNatClampNeg) (xs (x3 + (2 : Int32)).toNatClampNeg) (xs (x3 + (3 : Int32)).toNatClampNeg) (fun r70 μ71 => (vp_in (x3 + (1 : Int32)) L ∧ (vp_in (x3 + (2 : Int32)) L ∧ (vp_in (x3 + (3 : Int32)) L ∧ (f_Mo_link ν (xs (x3 + (1 : Int32)).toNatClampNeg) (xs (x3 + (2 : Int32)).toNatClampNeg) (xs (x3 + (3 : Int32)).toNatClampNeg) (fun r75 ν76 => ((r70 = r75 → (∀ x78 : Int32, x78 = x3 + 5 → (ih x78 μ71 ν76))) ∧ (¬ r70 = r75 → (False))))))))))))
set_option maxHeartbeats 4000000 in
set_option maxRecDepth 100000 in
theorem M_La_5 {p : Program} {l : Launch} {e : Env} {s : State} {m : MethodId} {below : List Frame} {meth : Method} {c : Code} {E : zE} {b L : Nat} {xs : Nat → Int32} (hE : E.2.2.2.2.2.1 = fun q => s.heap.size ≤ q) (X : zX E p s m #[Value.ref b] c code "BeatHeapLaw" 4) (hr : meth.sig.returnType = ret) (hlk : meth.locks = false) (hX : va_X b L xs s s.heap) (hbl : b < s.heap.size) (hbA : ¬ zA E b) (C : Int32 → zM → zM → Prop) (ih : ∀ (x3 : Int32) (μ ν : zM) (H : Heap) (locs : List Loc) (ls : Array Slot), C x3 μ ν → zL E s μ ν H locs → lv_has ls 4 [(0, .ref b), (1, .ref (E.2.1 0)), (2, .ref (E.2.1 19)), (3, .int x3)] → W p l e room_1 s m #[Value.ref b] below meth c H locs 30 41236 (lw_Z below #[Value.ref b] s) (F0 m 18 ls [])) : ∀ (x3 : Int32) (μ ν : zM) (H : Heap) (locs : List Loc) (ls : Array Slot), G_La_5 L xs C x3 μ ν → zL E s μ ν H locs → lv_has ls 4 [(0, .ref b), (1, .ref (E.2.1 0)), (2, .ref (E.2.1 19)), (3, .int x3)] → W p l e room_1 s m #[Value.ref b] below meth c H locs 30 41236 (lw_Z below #[Value.ref b] s) (F0 m 325 ls []) := by
  have hx := X.1
  have hb := X.2.1
  intro x3 μ ν H locs ls h w hl
  unfold G_La_5 at h
  refine lv_aload_n hx hb d_La_325 rfl (lv_at hl 1 rfl) ?_
  refine lv_aload_n hx hb d_La_326 rfl (lv_at hl 0 rfl) ?_
  refine lv_iload_n hx hb d_La_327 rfl (lv_at hl 3 rfl) ?_
  refine lv_iconst (v := 1) hx hb d_La_328 (by decide) ?_
  refine lv_iadd hx hb d_La_329 ?_
  obtain ⟨hi67, h⟩ := h
  refine va_sld hx hb hX hbl hbA w.2.2 hi67 d_La_330 ?_
  refine lv_aload_n hx hb d_La_331 rfl (lv_at hl 0 rfl) ?_
  refine lv_iload_n hx hb d_La_332 rfl (lv_at hl 3 rfl) ?_
  refine lv_iconst (v := 2) hx hb d_La_333 (by decide) ?_
  refine lv_iadd hx hb d_La_334 ?_
  obtain ⟨hi68, h⟩ := h
  refine va_sld hx hb hX hbl hbA w.2.2 hi68 d_La_335 ?_
  refine lv_aload_n hx hb d_La_336 rfl (lv_at hl 0 rfl) ?_
  refine lv_iload_n hx hb d_La_337 rfl (lv_at hl 3 rfl) ?_
  refine lv_iconst (v := 3) hx hb d_La_338 (by decide) ?_
  refine lv_iadd hx hb d_La_339 ?_
  obtain ⟨hi69, h⟩ := h
  refine va_sld hx hb hX hbl hbA w.2.2 hi69 d_La_340 ?_
  refine z_cVi (E := zt E (zM0 E ν)) (V := zwC) (As := [.int (xs (x3 + (1 : Int32)).toNatClampNeg), .int (xs (x3 + (2 : Int32)).toNatClampNeg), .int (xs (x3 + (3 : Int32)).toNatClampNeg)]) (rest := []) (q0 := 0) (ci := 5) (zX_t X) (zL_C w) (c_Bh_link l (zt E (zM0 E ν)) μ (xs (x3 + (1 : Int32)).toNatClampNeg) (xs (x3 + (2 : Int32)).toNatClampNeg) (xs (x3 + (3 : Int32)).toNatClampNeg) _ h) rfl rfl rfl w_ml_La_37 ⟨w_im_Bh_link, w_se_Bh_link⟩ w_in_Bh w_co_Bh_link q_Bh_link.1 q_Bh_link.2 rfl ⟨Nat.le_of_ble_eq_true rfl, Nat.le_of_ble_eq_true rfl⟩ ⟨(show (30 : Nat) ≤ 30 from Nat.le_refl _), (show (41236 : Nat) ≤ 41236 from Nat.le_refl _)⟩ hl.1 rfl (Nat.le_of_ble_eq_true rfl) d_La_341 (fun r70 μ71 H locs h w => ?_)
  have w := zC_L w
  refine lv_aload_n hx hb d_La_344 rfl (lv_at hl 2 rfl) ?_
  refine lv_aload_n hx hb d_La_345 rfl (lv_at hl 0 rfl) ?_
  refine lv_iload_n hx hb d_La_346 rfl (lv_at hl 3 rfl) ?_
  refine lv_iconst (v := 1) hx hb d_La_347 (by decide) ?_
  refine lv_iadd hx hb d_La_348 ?_
  obtain ⟨hi72, h⟩ := h
  refine va_sld hx hb hX hbl hbA w.2.2 hi72 d_La_349 ?_
  refine lv_aload_n hx hb d_La_350 rfl (lv_at hl 0 rfl) ?_
  refine lv_iload_n hx hb d_La_351 rfl (lv_at hl 3 rfl) ?_
  refine lv_iconst (v := 2) hx hb d_La_352 (by decide) ?_
  refine lv_iadd hx hb d_La_353 ?_
  obtain ⟨hi73, h⟩ := h
  refine va_sld hx hb hX hbl hbA w.2.2 hi73 d_La_354 ?_
  refine lv_aload_n hx hb d_La_355 rfl (lv_at hl 0 rfl) ?_
  refine lv_iload_n hx hb d_La_356 rfl (lv_at hl 3 rfl) ?_
  refine lv_iconst (v := 3) hx hb d_La_357 (by decide) ?_
  refine lv_iadd hx hb d_La_358 ?_
  obtain ⟨hi74, h⟩ := h
  refine va_sld hx hb hX hbl hbA w.2.2 hi74 d_La_359 ?_
  refine z_cVi (E := zt E (zC0 E μ71)) (V := zwM) (As := [.int (xs (x3 + (1 : Int32)).toNatClampNeg), .int (xs (x3 + (2 : Int32)).toNatClampNeg), .int (xs (x3 + (3 : Int32)).toNatClampNeg)]) (rest := [.int r70]) (q0 := 0) (ci := 6) (zX_t X) (zL_M w) (c_Mo_link l (zt E (zC0 E μ71)) ν (xs (x3 + (1 : Int32)).toNatClampNeg) (xs (x3 + (2 : Int32)).toNatClampNeg) (xs (x3 + (3 : Int32)).toNatClampNeg) _ h) rfl rfl rfl w_ml_La_40 ⟨w_im_Mo_link, w_se_Mo_link⟩ w_in_Mo w_co_Mo_link q_Mo_link.1 q_Mo_link.2 rfl ⟨Nat.le_of_ble_eq_true rfl, Nat.le_of_ble_eq_true rfl⟩ ⟨(show (30 : Nat) ≤ 30 from Nat.le_refl _), (show (41236 : Nat) ≤ 41236 from Nat.le_refl _)⟩ hl.1 rfl (Nat.le_of_ble_eq_true rfl) d_La_360 (fun r75 ν76 H locs h w => ?_)
  have w := zM_L w
  refine lv_icmp_eq (tgt := 664) hx hb d_La_363 (by decide) (fun c77 => ?_) (fun c77 => ?_)
  · have h := h.1 c77
    obtain ⟨x78, ex78⟩ : ∃ y : Int32, y = x3 + 5 := ⟨_, rfl⟩
    have h := h x78 ex78
    refine lv_iinc (v := x78) (lv' := [(3, .int x78), (0, .ref b), (1, .ref (E.2.1 0)), (2, .ref (E.2.1 19))]) hx hb d_La_664 hl (k := 3) rfl (by rw [ex78]; rfl) (by decide) rfl (fun ls hl => ?_)
    refine lv_goto (tgt := 18) hx hb d_La_667 (by decide) ?_
    exact ih x78 μ71 ν76 _ _ _ h w (lv_sub hl [1, 2, 3, 0] rfl)
  · have h := h.2 c77
    refine lv_iconst (v := 0) hx hb d_La_366 (by decide) ?_
    exact h.elim
def G_La_6 (L : Nat) (xs : Nat → Int32) (ih : Int32 → zM → zM → Prop) (x3 : Int32) (μ ν : zM) : Prop := vp_in (x3 + (1 : Int32)) L ∧ (vp_in (x3 + (2 : Int32)) L ∧ (vp_in (x3 + (3 : Int32)) L ∧ (f_Bh_follow μ (xs (x3 + (1 : Int32)).toNatClampNeg) (xs (x3 + (2 : Int32)).toNatClampNeg) (xs (x3 + (3 : Int32)).toNatClampNeg) (fun r83 μ84 => (vp_in (x3 + (1 : Int32)) L ∧ (vp_in (x3 + (2 : Int32)) L ∧ (vp_in (x3 + (3 : Int32)) L ∧ (f_Mo_follow ν (xs (x3 + (1 : Int32)).toNatClampNeg) (xs (x3 + (2 : Int32)).toNatClampNeg) (xs (x3 + (3 : Int32)).toNatClampNeg) (fun r88 ν89 => ((r83 = r88 → (∀ x91 : Int32, x91 = x3 + 5 → (ih x91 μ84 ν89))) ∧ (¬ r83 = r88 → (False))))))))))))
set_option maxHeartbeats 4000000 in
set_option maxRecDepth 100000 in
theorem M_La_6 {p : Program} {l : Launch} {e : Env} {s : State} {m : MethodId} {below : List Frame} {meth : Method} {c : Code} {E : zE} {b L : Nat} {xs : Nat → Int32} (hE : E.2.2.2.2.2.1 = fun q => s.heap.size ≤ q) (X : zX E p s m #[Value.ref b] c code "BeatHeapLaw" 4) (hr : meth.sig.returnType = ret) (hlk : meth.locks = false) (hX : va_X b L xs s s.heap) (hbl : b < s.heap.size) (hbA : ¬ zA E b) (C : Int32 → zM → zM → Prop) (ih : ∀ (x3 : Int32) (μ ν : zM) (H : Heap) (locs : List Loc) (ls : Array Slot), C x3 μ ν → zL E s μ ν H locs → lv_has ls 4 [(0, .ref b), (1, .ref (E.2.1 0)), (2, .ref (E.2.1 19)), (3, .int x3)] → W p l e room_1 s m #[Value.ref b] below meth c H locs 30 41236 (lw_Z below #[Value.ref b] s) (F0 m 18 ls [])) : ∀ (x3 : Int32) (μ ν : zM) (H : Heap) (locs : List Loc) (ls : Array Slot), G_La_6 L xs C x3 μ ν → zL E s μ ν H locs → lv_has ls 4 [(0, .ref b), (1, .ref (E.2.1 0)), (2, .ref (E.2.1 19)), (3, .int x3)] → W p l e room_1 s m #[Value.ref b] below meth c H locs 30 41236 (lw_Z below #[Value.ref b] s) (F0 m 368 ls []) := by
  have hx := X.1
  have hb := X.2.1
  intro x3 μ ν H locs ls h w hl
  unfold G_La_6 at h
  refine lv_aload_n hx hb d_La_368 rfl (lv_at hl 1 rfl) ?_
  refine lv_aload_n hx hb d_La_369 rfl (lv_at hl 0 rfl) ?_
  refine lv_iload_n hx hb d_La_370 rfl (lv_at hl 3 rfl) ?_
  refine lv_iconst (v := 1) hx hb d_La_371 (by decide) ?_
  refine lv_iadd hx hb d_La_372 ?_
  obtain ⟨hi80, h⟩ := h
  refine va_sld hx hb hX hbl hbA w.2.2 hi80 d_La_373 ?_
  refine lv_aload_n hx hb d_La_374 rfl (lv_at hl 0 rfl) ?_
  refine lv_iload_n hx hb d_La_375 rfl (lv_at hl 3 rfl) ?_
  refine lv_iconst (v := 2) hx hb d_La_376 (by decide) ?_
  refine lv_iadd hx hb d_La_377 ?_
  obtain ⟨hi81, h⟩ := h
  refine va_sld hx hb hX hbl hbA w.2.2 hi81 d_La_378 ?_
  refine lv_aload_n hx hb d_La_379 rfl (lv_at hl 0 rfl) ?_
  refine lv_iload_n hx hb d_La_380 rfl (lv_at hl 3 rfl) ?_
  refine lv_iconst (v := 3) hx hb d_La_381 (by decide) ?_
  refine lv_iadd hx hb d_La_382 ?_
  obtain ⟨hi82, h⟩ := h
  refine va_sld hx hb hX hbl hbA w.2.2 hi82 d_La_383 ?_
  refine z_cVi (E := zt E (zM0 E ν)) (V := zwC) (As := [.int (xs (x3 + (1 : Int32)).toNatClampNeg), .int (xs (x3 + (2 : Int32)).toNatClampNeg), .int (xs (x3 + (3 : Int32)).toNatClampNeg)]) (rest := []) (q0 := 0) (ci := 5) (zX_t X) (zL_C w) (c_Bh_follow l (zt E (zM0 E ν)) μ (xs (x3 + (1 : Int32)).toNatClampNeg) (xs (x3 + (2 : Int32)).toNatClampNeg) (xs (x3 + (3 : Int32)).toNatClampNeg) _ h) rfl rfl rfl w_ml_La_41 ⟨w_im_Bh_follow, w_se_Bh_follow⟩ w_in_Bh w_co_Bh_follow q_Bh_follow.1 q_Bh_follow.2 rfl ⟨Nat.le_of_ble_eq_true rfl, Nat.le_of_ble_eq_true rfl⟩ ⟨(show (30 : Nat) ≤ 30 from Nat.le_refl _), (show (41236 : Nat) ≤ 41236 from Nat.le_refl _)⟩ hl.1 rfl (Nat.le_of_ble_eq_true rfl) d_La_384 (fun r83 μ84 H locs h w => ?_)
  have w := zC_L w
  refine lv_aload_n hx hb d_La_387 rfl (lv_at hl 2 rfl) ?_
  refine lv_aload_n hx hb d_La_388 rfl (lv_at hl 0 rfl) ?_
  refine lv_iload_n hx hb d_La_389 rfl (lv_at hl 3 rfl) ?_
  refine lv_iconst (v := 1) hx hb d_La_390 (by decide) ?_
  refine lv_iadd hx hb d_La_391 ?_
  obtain ⟨hi85, h⟩ := h
  refine va_sld hx hb hX hbl hbA w.2.2 hi85 d_La_392 ?_
  refine lv_aload_n hx hb d_La_393 rfl (lv_at hl 0 rfl) ?_
  refine lv_iload_n hx hb d_La_394 rfl (lv_at hl 3 rfl) ?_
  refine lv_iconst (v := 2) hx hb d_La_395 (by decide) ?_
  refine lv_iadd hx hb d_La_396 ?_
  obtain ⟨hi86, h⟩ := h
  refine va_sld hx hb hX hbl hbA w.2.2 hi86 d_La_397 ?_
  refine lv_aload_n hx hb d_La_398 rfl (lv_at hl 0 rfl) ?_
  refine lv_iload_n hx hb d_La_399 rfl (lv_at hl 3 rfl) ?_
  refine lv_iconst (v := 3) hx hb d_La_400 (by decide) ?_
  refine lv_iadd hx hb d_La_401 ?_
  obtain ⟨hi87, h⟩ := h
  refine va_sld hx hb hX hbl hbA w.2.2 hi87 d_La_402 ?_
  refine z_cVi (E := zt E (zC0 E μ84)) (V := zwM) (As := [.int (xs (x3 + (1 : Int32)).toNatClampNeg), .int (xs (x3 + (2 : Int32)).toNatClampNeg), .int (xs (x3 + (3 : Int32)).toNatClampNeg)]) (rest := [.int r83]) (q0 := 0) (ci := 6) (zX_t X) (zL_M w) (c_Mo_follow l (zt E (zC0 E μ84)) ν (xs (x3 + (1 : Int32)).toNatClampNeg) (xs (x3 + (2 : Int32)).toNatClampNeg) (xs (x3 + (3 : Int32)).toNatClampNeg) _ h) rfl rfl rfl w_ml_La_44 ⟨w_im_Mo_follow, w_se_Mo_follow⟩ w_in_Mo w_co_Mo_follow q_Mo_follow.1 q_Mo_follow.2 rfl ⟨Nat.le_of_ble_eq_true rfl, Nat.le_of_ble_eq_true rfl⟩ ⟨(show (30 : Nat) ≤ 30 from Nat.le_refl _), (show (41236 : Nat) ≤ 41236 from Nat.le_refl _)⟩ hl.1 rfl (Nat.le_of_ble_eq_true rfl) d_La_403 (fun r88 ν89 H locs h w => ?_)
  have w := zM_L w
  refine lv_icmp_eq (tgt := 664) hx hb d_La_406 (by decide) (fun c90 => ?_) (fun c90 => ?_)
  · have h := h.1 c90
    obtain ⟨x91, ex91⟩ : ∃ y : Int32, y = x3 + 5 := ⟨_, rfl⟩
    have h := h x91 ex91
    refine lv_iinc (v := x91) (lv' := [(3, .int x91), (0, .ref b), (1, .ref (E.2.1 0)), (2, .ref (E.2.1 19))]) hx hb d_La_664 hl (k := 3) rfl (by rw [ex91]; rfl) (by decide) rfl (fun ls hl => ?_)
    refine lv_goto (tgt := 18) hx hb d_La_667 (by decide) ?_
    exact ih x91 μ84 ν89 _ _ _ h w (lv_sub hl [1, 2, 3, 0] rfl)
  · have h := h.2 c90
    refine lv_iconst (v := 0) hx hb d_La_409 (by decide) ?_
    exact h.elim
def G_La_7 (L : Nat) (xs : Nat → Int32) (ih : Int32 → zM → zM → Prop) (x3 : Int32) (μ ν : zM) : Prop := vp_in (x3 + (1 : Int32)) L ∧ (vp_in (x3 + (2 : Int32)) L ∧ (f_Bh_move μ (xs (x3 + (1 : Int32)).toNatClampNeg) (xs (x3 + (2 : Int32)).toNatClampNeg) (fun r95 μ96 => (vp_in (x3 + (1 : Int32)) L ∧ (vp_in (x3 + (2 : Int32)) L ∧ (f_Mo_move ν (xs (x3 + (1 : Int32)).toNatClampNeg) (xs (x3 + (2 : Int32)).toNatClampNeg) (fun r99 ν100 => ((r95 = r99 → (∀ x102 : Int32, x102 = x3 + 5 → (ih x102 μ96 ν100))) ∧ (¬ r95 = r99 → (False))))))))))
set_option maxHeartbeats 4000000 in
set_option maxRecDepth 100000 in
theorem M_La_7 {p : Program} {l : Launch} {e : Env} {s : State} {m : MethodId} {below : List Frame} {meth : Method} {c : Code} {E : zE} {b L : Nat} {xs : Nat → Int32} (hE : E.2.2.2.2.2.1 = fun q => s.heap.size ≤ q) (X : zX E p s m #[Value.ref b] c code "BeatHeapLaw" 4) (hr : meth.sig.returnType = ret) (hlk : meth.locks = false) (hX : va_X b L xs s s.heap) (hbl : b < s.heap.size) (hbA : ¬ zA E b) (C : Int32 → zM → zM → Prop) (ih : ∀ (x3 : Int32) (μ ν : zM) (H : Heap) (locs : List Loc) (ls : Array Slot), C x3 μ ν → zL E s μ ν H locs → lv_has ls 4 [(0, .ref b), (1, .ref (E.2.1 0)), (2, .ref (E.2.1 19)), (3, .int x3)] → W p l e room_1 s m #[Value.ref b] below meth c H locs 30 41236 (lw_Z below #[Value.ref b] s) (F0 m 18 ls [])) : ∀ (x3 : Int32) (μ ν : zM) (H : Heap) (locs : List Loc) (ls : Array Slot), G_La_7 L xs C x3 μ ν → zL E s μ ν H locs → lv_has ls 4 [(0, .ref b), (1, .ref (E.2.1 0)), (2, .ref (E.2.1 19)), (3, .int x3)] → W p l e room_1 s m #[Value.ref b] below meth c H locs 30 41236 (lw_Z below #[Value.ref b] s) (F0 m 411 ls []) := by
  have hx := X.1
  have hb := X.2.1
  intro x3 μ ν H locs ls h w hl
  unfold G_La_7 at h
  refine lv_aload_n hx hb d_La_411 rfl (lv_at hl 1 rfl) ?_
  refine lv_aload_n hx hb d_La_412 rfl (lv_at hl 0 rfl) ?_
  refine lv_iload_n hx hb d_La_413 rfl (lv_at hl 3 rfl) ?_
  refine lv_iconst (v := 1) hx hb d_La_414 (by decide) ?_
  refine lv_iadd hx hb d_La_415 ?_
  obtain ⟨hi93, h⟩ := h
  refine va_sld hx hb hX hbl hbA w.2.2 hi93 d_La_416 ?_
  refine lv_aload_n hx hb d_La_417 rfl (lv_at hl 0 rfl) ?_
  refine lv_iload_n hx hb d_La_418 rfl (lv_at hl 3 rfl) ?_
  refine lv_iconst (v := 2) hx hb d_La_419 (by decide) ?_
  refine lv_iadd hx hb d_La_420 ?_
  obtain ⟨hi94, h⟩ := h
  refine va_sld hx hb hX hbl hbA w.2.2 hi94 d_La_421 ?_
  refine z_cVi (E := zt E (zM0 E ν)) (V := zwC) (As := [.int (xs (x3 + (1 : Int32)).toNatClampNeg), .int (xs (x3 + (2 : Int32)).toNatClampNeg)]) (rest := []) (q0 := 0) (ci := 5) (zX_t X) (zL_C w) (c_Bh_move l (zt E (zM0 E ν)) μ (xs (x3 + (1 : Int32)).toNatClampNeg) (xs (x3 + (2 : Int32)).toNatClampNeg) _ h) rfl rfl rfl w_ml_La_45 ⟨w_im_Bh_move, w_se_Bh_move⟩ w_in_Bh w_co_Bh_move q_Bh_move.1 q_Bh_move.2 rfl ⟨Nat.le_of_ble_eq_true rfl, Nat.le_of_ble_eq_true rfl⟩ ⟨(show (30 : Nat) ≤ 30 from Nat.le_refl _), (show (41236 : Nat) ≤ 41236 from Nat.le_refl _)⟩ hl.1 rfl (Nat.le_of_ble_eq_true rfl) d_La_422 (fun r95 μ96 H locs h w => ?_)
  have w := zC_L w
  refine lv_aload_n hx hb d_La_425 rfl (lv_at hl 2 rfl) ?_
  refine lv_aload_n hx hb d_La_426 rfl (lv_at hl 0 rfl) ?_
  refine lv_iload_n hx hb d_La_427 rfl (lv_at hl 3 rfl) ?_
  refine lv_iconst (v := 1) hx hb d_La_428 (by decide) ?_
  refine lv_iadd hx hb d_La_429 ?_
  obtain ⟨hi97, h⟩ := h
  refine va_sld hx hb hX hbl hbA w.2.2 hi97 d_La_430 ?_
  refine lv_aload_n hx hb d_La_431 rfl (lv_at hl 0 rfl) ?_
  refine lv_iload_n hx hb d_La_432 rfl (lv_at hl 3 rfl) ?_
  refine lv_iconst (v := 2) hx hb d_La_433 (by decide) ?_
  refine lv_iadd hx hb d_La_434 ?_
  obtain ⟨hi98, h⟩ := h
  refine va_sld hx hb hX hbl hbA w.2.2 hi98 d_La_435 ?_
  refine z_cVi (E := zt E (zC0 E μ96)) (V := zwM) (As := [.int (xs (x3 + (1 : Int32)).toNatClampNeg), .int (xs (x3 + (2 : Int32)).toNatClampNeg)]) (rest := [.int r95]) (q0 := 0) (ci := 6) (zX_t X) (zL_M w) (c_Mo_move l (zt E (zC0 E μ96)) ν (xs (x3 + (1 : Int32)).toNatClampNeg) (xs (x3 + (2 : Int32)).toNatClampNeg) _ h) rfl rfl rfl w_ml_La_49 ⟨w_im_Mo_move, w_se_Mo_move⟩ w_in_Mo w_co_Mo_move q_Mo_move.1 q_Mo_move.2 rfl ⟨Nat.le_of_ble_eq_true rfl, Nat.le_of_ble_eq_true rfl⟩ ⟨(show (30 : Nat) ≤ 30 from Nat.le_refl _), (show (41236 : Nat) ≤ 41236 from Nat.le_refl _)⟩ hl.1 rfl (Nat.le_of_ble_eq_true rfl) d_La_436 (fun r99 ν100 H locs h w => ?_)
  have w := zM_L w
  refine lv_icmp_eq (tgt := 664) hx hb d_La_439 (by decide) (fun c101 => ?_) (fun c101 => ?_)
  · have h := h.1 c101
    obtain ⟨x102, ex102⟩ : ∃ y : Int32, y = x3 + 5 := ⟨_, rfl⟩
    have h := h x102 ex102
    refine lv_iinc (v := x102) (lv' := [(3, .int x102), (0, .ref b), (1, .ref (E.2.1 0)), (2, .ref (E.2.1 19))]) hx hb d_La_664 hl (k := 3) rfl (by rw [ex102]; rfl) (by decide) rfl (fun ls hl => ?_)
    refine lv_goto (tgt := 18) hx hb d_La_667 (by decide) ?_
    exact ih x102 μ96 ν100 _ _ _ h w (lv_sub hl [1, 2, 3, 0] rfl)
  · have h := h.2 c101
    refine lv_iconst (v := 0) hx hb d_La_442 (by decide) ?_
    exact h.elim
def G_La_8 (L : Nat) (xs : Nat → Int32) (ih : Int32 → zM → zM → Prop) (x3 : Int32) (μ ν : zM) : Prop := vp_in (x3 + (1 : Int32)) L ∧ (f_Bh_drop μ (xs (x3 + (1 : Int32)).toNatClampNeg) (fun r105 μ106 => (vp_in (x3 + (1 : Int32)) L ∧ (f_Mo_drop ν (xs (x3 + (1 : Int32)).toNatClampNeg) (fun r108 ν109 => ((r105 = r108 → (∀ x111 : Int32, x111 = x3 + 5 → (ih x111 μ106 ν109))) ∧ (¬ r105 = r108 → (False))))))))
set_option maxHeartbeats 4000000 in
set_option maxRecDepth 100000 in
theorem M_La_8 {p : Program} {l : Launch} {e : Env} {s : State} {m : MethodId} {below : List Frame} {meth : Method} {c : Code} {E : zE} {b L : Nat} {xs : Nat → Int32} (hE : E.2.2.2.2.2.1 = fun q => s.heap.size ≤ q) (X : zX E p s m #[Value.ref b] c code "BeatHeapLaw" 4) (hr : meth.sig.returnType = ret) (hlk : meth.locks = false) (hX : va_X b L xs s s.heap) (hbl : b < s.heap.size) (hbA : ¬ zA E b) (C : Int32 → zM → zM → Prop) (ih : ∀ (x3 : Int32) (μ ν : zM) (H : Heap) (locs : List Loc) (ls : Array Slot), C x3 μ ν → zL E s μ ν H locs → lv_has ls 4 [(0, .ref b), (1, .ref (E.2.1 0)), (2, .ref (E.2.1 19)), (3, .int x3)] → W p l e room_1 s m #[Value.ref b] below meth c H locs 30 41236 (lw_Z below #[Value.ref b] s) (F0 m 18 ls [])) : ∀ (x3 : Int32) (μ ν : zM) (H : Heap) (locs : List Loc) (ls : Array Slot), G_La_8 L xs C x3 μ ν → zL E s μ ν H locs → lv_has ls 4 [(0, .ref b), (1, .ref (E.2.1 0)), (2, .ref (E.2.1 19)), (3, .int x3)] → W p l e room_1 s m #[Value.ref b] below meth c H locs 30 41236 (lw_Z below #[Value.ref b] s) (F0 m 444 ls []) := by
  have hx := X.1
  have hb := X.2.1
  intro x3 μ ν H locs ls h w hl
  unfold G_La_8 at h
  refine lv_aload_n hx hb d_La_444 rfl (lv_at hl 1 rfl) ?_
  refine lv_aload_n hx hb d_La_445 rfl (lv_at hl 0 rfl) ?_
  refine lv_iload_n hx hb d_La_446 rfl (lv_at hl 3 rfl) ?_
  refine lv_iconst (v := 1) hx hb d_La_447 (by decide) ?_
  refine lv_iadd hx hb d_La_448 ?_
  obtain ⟨hi104, h⟩ := h
  refine va_sld hx hb hX hbl hbA w.2.2 hi104 d_La_449 ?_
  refine z_cVi (E := zt E (zM0 E ν)) (V := zwC) (As := [.int (xs (x3 + (1 : Int32)).toNatClampNeg)]) (rest := []) (q0 := 0) (ci := 5) (zX_t X) (zL_C w) (c_Bh_drop l (zt E (zM0 E ν)) μ (xs (x3 + (1 : Int32)).toNatClampNeg) _ h) rfl rfl rfl w_ml_La_50 ⟨w_im_Bh_drop, w_se_Bh_drop⟩ w_in_Bh w_co_Bh_drop q_Bh_drop.1 q_Bh_drop.2 rfl ⟨Nat.le_of_ble_eq_true rfl, Nat.le_of_ble_eq_true rfl⟩ ⟨(show (30 : Nat) ≤ 30 from Nat.le_refl _), (show (41236 : Nat) ≤ 41236 from Nat.le_refl _)⟩ hl.1 rfl (Nat.le_of_ble_eq_true rfl) d_La_450 (fun r105 μ106 H locs h w => ?_)
  have w := zC_L w
  refine lv_aload_n hx hb d_La_453 rfl (lv_at hl 2 rfl) ?_
  refine lv_aload_n hx hb d_La_454 rfl (lv_at hl 0 rfl) ?_
  refine lv_iload_n hx hb d_La_455 rfl (lv_at hl 3 rfl) ?_
  refine lv_iconst (v := 1) hx hb d_La_456 (by decide) ?_
  refine lv_iadd hx hb d_La_457 ?_
  obtain ⟨hi107, h⟩ := h
  refine va_sld hx hb hX hbl hbA w.2.2 hi107 d_La_458 ?_
  refine z_cVi (E := zt E (zC0 E μ106)) (V := zwM) (As := [.int (xs (x3 + (1 : Int32)).toNatClampNeg)]) (rest := [.int r105]) (q0 := 0) (ci := 6) (zX_t X) (zL_M w) (c_Mo_drop l (zt E (zC0 E μ106)) ν (xs (x3 + (1 : Int32)).toNatClampNeg) _ h) rfl rfl rfl w_ml_La_54 ⟨w_im_Mo_drop, w_se_Mo_drop⟩ w_in_Mo w_co_Mo_drop q_Mo_drop.1 q_Mo_drop.2 rfl ⟨Nat.le_of_ble_eq_true rfl, Nat.le_of_ble_eq_true rfl⟩ ⟨(show (30 : Nat) ≤ 30 from Nat.le_refl _), (show (41236 : Nat) ≤ 41236 from Nat.le_refl _)⟩ hl.1 rfl (Nat.le_of_ble_eq_true rfl) d_La_459 (fun r108 ν109 H locs h w => ?_)
  have w := zM_L w
  refine lv_icmp_eq (tgt := 664) hx hb d_La_462 (by decide) (fun c110 => ?_) (fun c110 => ?_)
  · have h := h.1 c110
    obtain ⟨x111, ex111⟩ : ∃ y : Int32, y = x3 + 5 := ⟨_, rfl⟩
    have h := h x111 ex111
    refine lv_iinc (v := x111) (lv' := [(3, .int x111), (0, .ref b), (1, .ref (E.2.1 0)), (2, .ref (E.2.1 19))]) hx hb d_La_664 hl (k := 3) rfl (by rw [ex111]; rfl) (by decide) rfl (fun ls hl => ?_)
    refine lv_goto (tgt := 18) hx hb d_La_667 (by decide) ?_
    exact ih x111 μ106 ν109 _ _ _ h w (lv_sub hl [1, 2, 3, 0] rfl)
  · have h := h.2 c110
    refine lv_iconst (v := 0) hx hb d_La_465 (by decide) ?_
    exact h.elim
def G_La_9 (L : Nat) (xs : Nat → Int32) (ih : Int32 → zM → zM → Prop) (x3 : Int32) (μ ν : zM) : Prop := vp_in (x3 + (1 : Int32)) L ∧ (f_Bh_idle μ (xs (x3 + (1 : Int32)).toNatClampNeg) (fun r114 μ115 => (vp_in (x3 + (1 : Int32)) L ∧ (f_Mo_idle ν (xs (x3 + (1 : Int32)).toNatClampNeg) (fun r117 ν118 => ((r114 = r117 → (∀ x120 : Int32, x120 = x3 + 5 → (ih x120 μ115 ν118))) ∧ (¬ r114 = r117 → (False))))))))
set_option maxHeartbeats 4000000 in
set_option maxRecDepth 100000 in
theorem M_La_9 {p : Program} {l : Launch} {e : Env} {s : State} {m : MethodId} {below : List Frame} {meth : Method} {c : Code} {E : zE} {b L : Nat} {xs : Nat → Int32} (hE : E.2.2.2.2.2.1 = fun q => s.heap.size ≤ q) (X : zX E p s m #[Value.ref b] c code "BeatHeapLaw" 4) (hr : meth.sig.returnType = ret) (hlk : meth.locks = false) (hX : va_X b L xs s s.heap) (hbl : b < s.heap.size) (hbA : ¬ zA E b) (C : Int32 → zM → zM → Prop) (ih : ∀ (x3 : Int32) (μ ν : zM) (H : Heap) (locs : List Loc) (ls : Array Slot), C x3 μ ν → zL E s μ ν H locs → lv_has ls 4 [(0, .ref b), (1, .ref (E.2.1 0)), (2, .ref (E.2.1 19)), (3, .int x3)] → W p l e room_1 s m #[Value.ref b] below meth c H locs 30 41236 (lw_Z below #[Value.ref b] s) (F0 m 18 ls [])) : ∀ (x3 : Int32) (μ ν : zM) (H : Heap) (locs : List Loc) (ls : Array Slot), G_La_9 L xs C x3 μ ν → zL E s μ ν H locs → lv_has ls 4 [(0, .ref b), (1, .ref (E.2.1 0)), (2, .ref (E.2.1 19)), (3, .int x3)] → W p l e room_1 s m #[Value.ref b] below meth c H locs 30 41236 (lw_Z below #[Value.ref b] s) (F0 m 467 ls []) := by
  have hx := X.1
  have hb := X.2.1
  intro x3 μ ν H locs ls h w hl
  unfold G_La_9 at h
  refine lv_aload_n hx hb d_La_467 rfl (lv_at hl 1 rfl) ?_
  refine lv_aload_n hx hb d_La_468 rfl (lv_at hl 0 rfl) ?_
  refine lv_iload_n hx hb d_La_469 rfl (lv_at hl 3 rfl) ?_
  refine lv_iconst (v := 1) hx hb d_La_470 (by decide) ?_
  refine lv_iadd hx hb d_La_471 ?_
  obtain ⟨hi113, h⟩ := h
  refine va_sld hx hb hX hbl hbA w.2.2 hi113 d_La_472 ?_
  refine z_cVi (E := zt E (zM0 E ν)) (V := zwC) (As := [.int (xs (x3 + (1 : Int32)).toNatClampNeg)]) (rest := []) (q0 := 0) (ci := 5) (zX_t X) (zL_C w) (c_Bh_idle l (zt E (zM0 E ν)) μ (xs (x3 + (1 : Int32)).toNatClampNeg) _ h) rfl rfl rfl w_ml_La_55 ⟨w_im_Bh_idle, w_se_Bh_idle⟩ w_in_Bh w_co_Bh_idle q_Bh_idle.1 q_Bh_idle.2 rfl ⟨Nat.le_of_ble_eq_true rfl, Nat.le_of_ble_eq_true rfl⟩ ⟨(show (30 : Nat) ≤ 30 from Nat.le_refl _), (show (41236 : Nat) ≤ 41236 from Nat.le_refl _)⟩ hl.1 rfl (Nat.le_of_ble_eq_true rfl) d_La_473 (fun r114 μ115 H locs h w => ?_)
  have w := zC_L w
  refine lv_aload_n hx hb d_La_476 rfl (lv_at hl 2 rfl) ?_
  refine lv_aload_n hx hb d_La_477 rfl (lv_at hl 0 rfl) ?_
  refine lv_iload_n hx hb d_La_478 rfl (lv_at hl 3 rfl) ?_
  refine lv_iconst (v := 1) hx hb d_La_479 (by decide) ?_
  refine lv_iadd hx hb d_La_480 ?_
  obtain ⟨hi116, h⟩ := h
  refine va_sld hx hb hX hbl hbA w.2.2 hi116 d_La_481 ?_
  refine z_cVi (E := zt E (zC0 E μ115)) (V := zwM) (As := [.int (xs (x3 + (1 : Int32)).toNatClampNeg)]) (rest := [.int r114]) (q0 := 0) (ci := 6) (zX_t X) (zL_M w) (c_Mo_idle l (zt E (zC0 E μ115)) ν (xs (x3 + (1 : Int32)).toNatClampNeg) _ h) rfl rfl rfl w_ml_La_58 ⟨w_im_Mo_idle, w_se_Mo_idle⟩ w_in_Mo w_co_Mo_idle q_Mo_idle.1 q_Mo_idle.2 rfl ⟨Nat.le_of_ble_eq_true rfl, Nat.le_of_ble_eq_true rfl⟩ ⟨(show (30 : Nat) ≤ 30 from Nat.le_refl _), (show (41236 : Nat) ≤ 41236 from Nat.le_refl _)⟩ hl.1 rfl (Nat.le_of_ble_eq_true rfl) d_La_482 (fun r117 ν118 H locs h w => ?_)
  have w := zM_L w
  refine lv_icmp_eq (tgt := 664) hx hb d_La_485 (by decide) (fun c119 => ?_) (fun c119 => ?_)
  · have h := h.1 c119
    obtain ⟨x120, ex120⟩ : ∃ y : Int32, y = x3 + 5 := ⟨_, rfl⟩
    have h := h x120 ex120
    refine lv_iinc (v := x120) (lv' := [(3, .int x120), (0, .ref b), (1, .ref (E.2.1 0)), (2, .ref (E.2.1 19))]) hx hb d_La_664 hl (k := 3) rfl (by rw [ex120]; rfl) (by decide) rfl (fun ls hl => ?_)
    refine lv_goto (tgt := 18) hx hb d_La_667 (by decide) ?_
    exact ih x120 μ115 ν118 _ _ _ h w (lv_sub hl [1, 2, 3, 0] rfl)
  · have h := h.2 c119
    refine lv_iconst (v := 0) hx hb d_La_488 (by decide) ?_
    exact h.elim
def G_La_10 (L : Nat) (xs : Nat → Int32) (ih : Int32 → zM → zM → Prop) (x3 : Int32) (μ ν : zM) : Prop := f_Bh_start μ (fun r122 μ123 => (f_Mo_start ν (fun r124 ν125 => ((r122 = r124 → (∀ x127 : Int32, x127 = x3 + 5 → (ih x127 μ123 ν125))) ∧ (¬ r122 = r124 → (False))))))
set_option maxHeartbeats 4000000 in
set_option maxRecDepth 100000 in
theorem M_La_10 {p : Program} {l : Launch} {e : Env} {s : State} {m : MethodId} {below : List Frame} {meth : Method} {c : Code} {E : zE} {b L : Nat} {xs : Nat → Int32} (hE : E.2.2.2.2.2.1 = fun q => s.heap.size ≤ q) (X : zX E p s m #[Value.ref b] c code "BeatHeapLaw" 4) (hr : meth.sig.returnType = ret) (hlk : meth.locks = false) (hX : va_X b L xs s s.heap) (hbl : b < s.heap.size) (hbA : ¬ zA E b) (C : Int32 → zM → zM → Prop) (ih : ∀ (x3 : Int32) (μ ν : zM) (H : Heap) (locs : List Loc) (ls : Array Slot), C x3 μ ν → zL E s μ ν H locs → lv_has ls 4 [(0, .ref b), (1, .ref (E.2.1 0)), (2, .ref (E.2.1 19)), (3, .int x3)] → W p l e room_1 s m #[Value.ref b] below meth c H locs 30 41236 (lw_Z below #[Value.ref b] s) (F0 m 18 ls [])) : ∀ (x3 : Int32) (μ ν : zM) (H : Heap) (locs : List Loc) (ls : Array Slot), G_La_10 L xs C x3 μ ν → zL E s μ ν H locs → lv_has ls 4 [(0, .ref b), (1, .ref (E.2.1 0)), (2, .ref (E.2.1 19)), (3, .int x3)] → W p l e room_1 s m #[Value.ref b] below meth c H locs 30 41236 (lw_Z below #[Value.ref b] s) (F0 m 490 ls []) := by
  have hx := X.1
  have hb := X.2.1
  intro x3 μ ν H locs ls h w hl
  unfold G_La_10 at h
  refine lv_aload_n hx hb d_La_490 rfl (lv_at hl 1 rfl) ?_
  refine z_cVi (E := zt E (zM0 E ν)) (V := zwC) (As := []) (rest := []) (q0 := 0) (ci := 5) (zX_t X) (zL_C w) (c_Bh_start l (zt E (zM0 E ν)) μ _ h) rfl rfl rfl w_ml_La_59 ⟨w_im_Bh_start, w_se_Bh_start⟩ w_in_Bh w_co_Bh_start q_Bh_start.1 q_Bh_start.2 rfl ⟨Nat.le_of_ble_eq_true rfl, Nat.le_of_ble_eq_true rfl⟩ ⟨(show (30 : Nat) ≤ 30 from Nat.le_refl _), (show (41236 : Nat) ≤ 41236 from Nat.le_refl _)⟩ hl.1 rfl (Nat.le_of_ble_eq_true rfl) d_La_491 (fun r122 μ123 H locs h w => ?_)
  have w := zC_L w
  refine lv_aload_n hx hb d_La_494 rfl (lv_at hl 2 rfl) ?_
  refine z_cVi (E := zt E (zC0 E μ123)) (V := zwM) (As := []) (rest := [.int r122]) (q0 := 0) (ci := 6) (zX_t X) (zL_M w) (c_Mo_start l (zt E (zC0 E μ123)) ν _ h) rfl rfl rfl w_ml_La_63 ⟨w_im_Mo_start, w_se_Mo_start⟩ w_in_Mo w_co_Mo_start q_Mo_start.1 q_Mo_start.2 rfl ⟨Nat.le_of_ble_eq_true rfl, Nat.le_of_ble_eq_true rfl⟩ ⟨(show (30 : Nat) ≤ 30 from Nat.le_refl _), (show (41236 : Nat) ≤ 41236 from Nat.le_refl _)⟩ hl.1 rfl (Nat.le_of_ble_eq_true rfl) d_La_495 (fun r124 ν125 H locs h w => ?_)
  have w := zM_L w
  refine lv_icmp_eq (tgt := 664) hx hb d_La_498 (by decide) (fun c126 => ?_) (fun c126 => ?_)
  · have h := h.1 c126
    obtain ⟨x127, ex127⟩ : ∃ y : Int32, y = x3 + 5 := ⟨_, rfl⟩
    have h := h x127 ex127
    refine lv_iinc (v := x127) (lv' := [(3, .int x127), (0, .ref b), (1, .ref (E.2.1 0)), (2, .ref (E.2.1 19))]) hx hb d_La_664 hl (k := 3) rfl (by rw [ex127]; rfl) (by decide) rfl (fun ls hl => ?_)
    refine lv_goto (tgt := 18) hx hb d_La_667 (by decide) ?_
    exact ih x127 μ123 ν125 _ _ _ h w (lv_sub hl [1, 2, 3, 0] rfl)
  · have h := h.2 c126
    refine lv_iconst (v := 0) hx hb d_La_501 (by decide) ?_
    exact h.elim
def G_La_11 (L : Nat) (xs : Nat → Int32) (ih : Int32 → zM → zM → Prop) (x3 : Int32) (μ ν : zM) : Prop := vp_in (x3 + (1 : Int32)) L ∧ (vp_in (x3 + (2 : Int32)) L ∧ (f_Bh_root μ (xs (x3 + (1 : Int32)).toNatClampNeg) (xs (x3 + (2 : Int32)).toNatClampNeg) (fun r131 μ132 => (vp_in (x3 + (1 : Int32)) L ∧ (vp_in (x3 + (2 : Int32)) L ∧ (f_Mo_root ν (xs (x3 + (1 : Int32)).toNatClampNeg) (xs (x3 + (2 : Int32)).toNatClampNeg) (fun r135 ν136 => ((r131 = r135 → (∀ x138 : Int32, x138 = x3 + 5 → (ih x138 μ132 ν136))) ∧ (¬ r131 = r135 → (False))))))))))
set_option maxHeartbeats 4000000 in
set_option maxRecDepth 100000 in
theorem M_La_11 {p : Program} {l : Launch} {e : Env} {s : State} {m : MethodId} {below : List Frame} {meth : Method} {c : Code} {E : zE} {b L : Nat} {xs : Nat → Int32} (hE : E.2.2.2.2.2.1 = fun q => s.heap.size ≤ q) (X : zX E p s m #[Value.ref b] c code "BeatHeapLaw" 4) (hr : meth.sig.returnType = ret) (hlk : meth.locks = false) (hX : va_X b L xs s s.heap) (hbl : b < s.heap.size) (hbA : ¬ zA E b) (C : Int32 → zM → zM → Prop) (ih : ∀ (x3 : Int32) (μ ν : zM) (H : Heap) (locs : List Loc) (ls : Array Slot), C x3 μ ν → zL E s μ ν H locs → lv_has ls 4 [(0, .ref b), (1, .ref (E.2.1 0)), (2, .ref (E.2.1 19)), (3, .int x3)] → W p l e room_1 s m #[Value.ref b] below meth c H locs 30 41236 (lw_Z below #[Value.ref b] s) (F0 m 18 ls [])) : ∀ (x3 : Int32) (μ ν : zM) (H : Heap) (locs : List Loc) (ls : Array Slot), G_La_11 L xs C x3 μ ν → zL E s μ ν H locs → lv_has ls 4 [(0, .ref b), (1, .ref (E.2.1 0)), (2, .ref (E.2.1 19)), (3, .int x3)] → W p l e room_1 s m #[Value.ref b] below meth c H locs 30 41236 (lw_Z below #[Value.ref b] s) (F0 m 503 ls []) := by
  have hx := X.1
  have hb := X.2.1
  intro x3 μ ν H locs ls h w hl
  unfold G_La_11 at h
  refine lv_aload_n hx hb d_La_503 rfl (lv_at hl 1 rfl) ?_
  refine lv_aload_n hx hb d_La_504 rfl (lv_at hl 0 rfl) ?_
  refine lv_iload_n hx hb d_La_505 rfl (lv_at hl 3 rfl) ?_
  refine lv_iconst (v := 1) hx hb d_La_506 (by decide) ?_
  refine lv_iadd hx hb d_La_507 ?_
  obtain ⟨hi129, h⟩ := h
  refine va_sld hx hb hX hbl hbA w.2.2 hi129 d_La_508 ?_
  refine lv_aload_n hx hb d_La_509 rfl (lv_at hl 0 rfl) ?_
  refine lv_iload_n hx hb d_La_510 rfl (lv_at hl 3 rfl) ?_
  refine lv_iconst (v := 2) hx hb d_La_511 (by decide) ?_
  refine lv_iadd hx hb d_La_512 ?_
  obtain ⟨hi130, h⟩ := h
  refine va_sld hx hb hX hbl hbA w.2.2 hi130 d_La_513 ?_
  refine z_cVi (E := zt E (zM0 E ν)) (V := zwC) (As := [.int (xs (x3 + (1 : Int32)).toNatClampNeg), .int (xs (x3 + (2 : Int32)).toNatClampNeg)]) (rest := []) (q0 := 0) (ci := 5) (zX_t X) (zL_C w) (c_Bh_root l (zt E (zM0 E ν)) μ (xs (x3 + (1 : Int32)).toNatClampNeg) (xs (x3 + (2 : Int32)).toNatClampNeg) _ h) rfl rfl rfl w_ml_La_64 ⟨w_im_Bh_root, w_se_Bh_root⟩ w_in_Bh w_co_Bh_root q_Bh_root.1 q_Bh_root.2 rfl ⟨Nat.le_of_ble_eq_true rfl, Nat.le_of_ble_eq_true rfl⟩ ⟨(show (30 : Nat) ≤ 30 from Nat.le_refl _), (show (41236 : Nat) ≤ 41236 from Nat.le_refl _)⟩ hl.1 rfl (Nat.le_of_ble_eq_true rfl) d_La_514 (fun r131 μ132 H locs h w => ?_)
  have w := zC_L w
  refine lv_aload_n hx hb d_La_517 rfl (lv_at hl 2 rfl) ?_
  refine lv_aload_n hx hb d_La_518 rfl (lv_at hl 0 rfl) ?_
  refine lv_iload_n hx hb d_La_519 rfl (lv_at hl 3 rfl) ?_
  refine lv_iconst (v := 1) hx hb d_La_520 (by decide) ?_
  refine lv_iadd hx hb d_La_521 ?_
  obtain ⟨hi133, h⟩ := h
  refine va_sld hx hb hX hbl hbA w.2.2 hi133 d_La_522 ?_
  refine lv_aload_n hx hb d_La_523 rfl (lv_at hl 0 rfl) ?_
  refine lv_iload_n hx hb d_La_524 rfl (lv_at hl 3 rfl) ?_
  refine lv_iconst (v := 2) hx hb d_La_525 (by decide) ?_
  refine lv_iadd hx hb d_La_526 ?_
  obtain ⟨hi134, h⟩ := h
  refine va_sld hx hb hX hbl hbA w.2.2 hi134 d_La_527 ?_
  refine z_cVi (E := zt E (zC0 E μ132)) (V := zwM) (As := [.int (xs (x3 + (1 : Int32)).toNatClampNeg), .int (xs (x3 + (2 : Int32)).toNatClampNeg)]) (rest := [.int r131]) (q0 := 0) (ci := 6) (zX_t X) (zL_M w) (c_Mo_root l (zt E (zC0 E μ132)) ν (xs (x3 + (1 : Int32)).toNatClampNeg) (xs (x3 + (2 : Int32)).toNatClampNeg) _ h) rfl rfl rfl w_ml_La_67 ⟨w_im_Mo_root, w_se_Mo_root⟩ w_in_Mo w_co_Mo_root q_Mo_root.1 q_Mo_root.2 rfl ⟨Nat.le_of_ble_eq_true rfl, Nat.le_of_ble_eq_true rfl⟩ ⟨(show (30 : Nat) ≤ 30 from Nat.le_refl _), (show (41236 : Nat) ≤ 41236 from Nat.le_refl _)⟩ hl.1 rfl (Nat.le_of_ble_eq_true rfl) d_La_528 (fun r135 ν136 H locs h w => ?_)
  have w := zM_L w
  refine lv_icmp_eq (tgt := 664) hx hb d_La_531 (by decide) (fun c137 => ?_) (fun c137 => ?_)
  · have h := h.1 c137
    obtain ⟨x138, ex138⟩ : ∃ y : Int32, y = x3 + 5 := ⟨_, rfl⟩
    have h := h x138 ex138
    refine lv_iinc (v := x138) (lv' := [(3, .int x138), (0, .ref b), (1, .ref (E.2.1 0)), (2, .ref (E.2.1 19))]) hx hb d_La_664 hl (k := 3) rfl (by rw [ex138]; rfl) (by decide) rfl (fun ls hl => ?_)
    refine lv_goto (tgt := 18) hx hb d_La_667 (by decide) ?_
    exact ih x138 μ132 ν136 _ _ _ h w (lv_sub hl [1, 2, 3, 0] rfl)
  · have h := h.2 c137
    refine lv_iconst (v := 0) hx hb d_La_534 (by decide) ?_
    exact h.elim
def G_La_12 (L : Nat) (xs : Nat → Int32) (ih : Int32 → zM → zM → Prop) (x3 : Int32) (μ ν : zM) : Prop := vp_in (x3 + (1 : Int32)) L ∧ (f_Bh_word μ (xs (x3 + (1 : Int32)).toNatClampNeg) (fun r141 μ142 => (vp_in (x3 + (1 : Int32)) L ∧ (f_Mo_word ν (xs (x3 + (1 : Int32)).toNatClampNeg) (fun r144 ν145 => ((r141 = r144 → (∀ x147 : Int32, x147 = x3 + 5 → (ih x147 μ142 ν145))) ∧ (¬ r141 = r144 → (False))))))))
set_option maxHeartbeats 4000000 in
set_option maxRecDepth 100000 in
theorem M_La_12 {p : Program} {l : Launch} {e : Env} {s : State} {m : MethodId} {below : List Frame} {meth : Method} {c : Code} {E : zE} {b L : Nat} {xs : Nat → Int32} (hE : E.2.2.2.2.2.1 = fun q => s.heap.size ≤ q) (X : zX E p s m #[Value.ref b] c code "BeatHeapLaw" 4) (hr : meth.sig.returnType = ret) (hlk : meth.locks = false) (hX : va_X b L xs s s.heap) (hbl : b < s.heap.size) (hbA : ¬ zA E b) (C : Int32 → zM → zM → Prop) (ih : ∀ (x3 : Int32) (μ ν : zM) (H : Heap) (locs : List Loc) (ls : Array Slot), C x3 μ ν → zL E s μ ν H locs → lv_has ls 4 [(0, .ref b), (1, .ref (E.2.1 0)), (2, .ref (E.2.1 19)), (3, .int x3)] → W p l e room_1 s m #[Value.ref b] below meth c H locs 30 41236 (lw_Z below #[Value.ref b] s) (F0 m 18 ls [])) : ∀ (x3 : Int32) (μ ν : zM) (H : Heap) (locs : List Loc) (ls : Array Slot), G_La_12 L xs C x3 μ ν → zL E s μ ν H locs → lv_has ls 4 [(0, .ref b), (1, .ref (E.2.1 0)), (2, .ref (E.2.1 19)), (3, .int x3)] → W p l e room_1 s m #[Value.ref b] below meth c H locs 30 41236 (lw_Z below #[Value.ref b] s) (F0 m 536 ls []) := by
  have hx := X.1
  have hb := X.2.1
  intro x3 μ ν H locs ls h w hl
  unfold G_La_12 at h
  refine lv_aload_n hx hb d_La_536 rfl (lv_at hl 1 rfl) ?_
  refine lv_aload_n hx hb d_La_537 rfl (lv_at hl 0 rfl) ?_
  refine lv_iload_n hx hb d_La_538 rfl (lv_at hl 3 rfl) ?_
  refine lv_iconst (v := 1) hx hb d_La_539 (by decide) ?_
  refine lv_iadd hx hb d_La_540 ?_
  obtain ⟨hi140, h⟩ := h
  refine va_sld hx hb hX hbl hbA w.2.2 hi140 d_La_541 ?_
  refine z_cVi (E := zt E (zM0 E ν)) (V := zwC) (As := [.int (xs (x3 + (1 : Int32)).toNatClampNeg)]) (rest := []) (q0 := 0) (ci := 5) (zX_t X) (zL_C w) (c_Bh_word l (zt E (zM0 E ν)) μ (xs (x3 + (1 : Int32)).toNatClampNeg) _ h) rfl rfl rfl w_ml_La_68 ⟨w_im_Bh_word, w_se_Bh_word⟩ w_in_Bh w_co_Bh_word q_Bh_word.1 q_Bh_word.2 rfl ⟨Nat.le_of_ble_eq_true rfl, Nat.le_of_ble_eq_true rfl⟩ ⟨(show (30 : Nat) ≤ 30 from Nat.le_refl _), (show (41236 : Nat) ≤ 41236 from Nat.le_refl _)⟩ hl.1 rfl (Nat.le_of_ble_eq_true rfl) d_La_542 (fun r141 μ142 H locs h w => ?_)
  have w := zC_L w
  refine lv_aload_n hx hb d_La_545 rfl (lv_at hl 2 rfl) ?_
  refine lv_aload_n hx hb d_La_546 rfl (lv_at hl 0 rfl) ?_
  refine lv_iload_n hx hb d_La_547 rfl (lv_at hl 3 rfl) ?_
  refine lv_iconst (v := 1) hx hb d_La_548 (by decide) ?_
  refine lv_iadd hx hb d_La_549 ?_
  obtain ⟨hi143, h⟩ := h
  refine va_sld hx hb hX hbl hbA w.2.2 hi143 d_La_550 ?_
  refine z_cVi (E := zt E (zC0 E μ142)) (V := zwM) (As := [.int (xs (x3 + (1 : Int32)).toNatClampNeg)]) (rest := [.int r141]) (q0 := 0) (ci := 6) (zX_t X) (zL_M w) (c_Mo_word l (zt E (zC0 E μ142)) ν (xs (x3 + (1 : Int32)).toNatClampNeg) _ h) rfl rfl rfl w_ml_La_72 ⟨w_im_Mo_word, w_se_Mo_word⟩ w_in_Mo w_co_Mo_word q_Mo_word.1 q_Mo_word.2 rfl ⟨Nat.le_of_ble_eq_true rfl, Nat.le_of_ble_eq_true rfl⟩ ⟨(show (30 : Nat) ≤ 30 from Nat.le_refl _), (show (41236 : Nat) ≤ 41236 from Nat.le_refl _)⟩ hl.1 rfl (Nat.le_of_ble_eq_true rfl) d_La_551 (fun r144 ν145 H locs h w => ?_)
  have w := zM_L w
  refine lv_icmp_eq (tgt := 664) hx hb d_La_554 (by decide) (fun c146 => ?_) (fun c146 => ?_)
  · have h := h.1 c146
    obtain ⟨x147, ex147⟩ : ∃ y : Int32, y = x3 + 5 := ⟨_, rfl⟩
    have h := h x147 ex147
    refine lv_iinc (v := x147) (lv' := [(3, .int x147), (0, .ref b), (1, .ref (E.2.1 0)), (2, .ref (E.2.1 19))]) hx hb d_La_664 hl (k := 3) rfl (by rw [ex147]; rfl) (by decide) rfl (fun ls hl => ?_)
    refine lv_goto (tgt := 18) hx hb d_La_667 (by decide) ?_
    exact ih x147 μ142 ν145 _ _ _ h w (lv_sub hl [1, 2, 3, 0] rfl)
  · have h := h.2 c146
    refine lv_iconst (v := 0) hx hb d_La_557 (by decide) ?_
    exact h.elim
def G_La_13 (L : Nat) (xs : Nat → Int32) (ih : Int32 → zM → zM → Prop) (x3 : Int32) (μ ν : zM) : Prop := vp_in (x3 + (1 : Int32)) L ∧ (vp_in (x3 + (2 : Int32)) L ∧ (f_Bh_page μ (xs (x3 + (1 : Int32)).toNatClampNeg) (xs (x3 + (2 : Int32)).toNatClampNeg) (fun r151 μ152 => (vp_in (x3 + (1 : Int32)) L ∧ (vp_in (x3 + (2 : Int32)) L ∧ (f_Mo_page ν (xs (x3 + (1 : Int32)).toNatClampNeg) (xs (x3 + (2 : Int32)).toNatClampNeg) (fun r155 ν156 => ((r151 = r155 → (∀ x158 : Int32, x158 = x3 + 5 → (ih x158 μ152 ν156))) ∧ (¬ r151 = r155 → (False))))))))))
set_option maxHeartbeats 4000000 in
set_option maxRecDepth 100000 in
theorem M_La_13 {p : Program} {l : Launch} {e : Env} {s : State} {m : MethodId} {below : List Frame} {meth : Method} {c : Code} {E : zE} {b L : Nat} {xs : Nat → Int32} (hE : E.2.2.2.2.2.1 = fun q => s.heap.size ≤ q) (X : zX E p s m #[Value.ref b] c code "BeatHeapLaw" 4) (hr : meth.sig.returnType = ret) (hlk : meth.locks = false) (hX : va_X b L xs s s.heap) (hbl : b < s.heap.size) (hbA : ¬ zA E b) (C : Int32 → zM → zM → Prop) (ih : ∀ (x3 : Int32) (μ ν : zM) (H : Heap) (locs : List Loc) (ls : Array Slot), C x3 μ ν → zL E s μ ν H locs → lv_has ls 4 [(0, .ref b), (1, .ref (E.2.1 0)), (2, .ref (E.2.1 19)), (3, .int x3)] → W p l e room_1 s m #[Value.ref b] below meth c H locs 30 41236 (lw_Z below #[Value.ref b] s) (F0 m 18 ls [])) : ∀ (x3 : Int32) (μ ν : zM) (H : Heap) (locs : List Loc) (ls : Array Slot), G_La_13 L xs C x3 μ ν → zL E s μ ν H locs → lv_has ls 4 [(0, .ref b), (1, .ref (E.2.1 0)), (2, .ref (E.2.1 19)), (3, .int x3)] → W p l e room_1 s m #[Value.ref b] below meth c H locs 30 41236 (lw_Z below #[Value.ref b] s) (F0 m 559 ls []) := by
  have hx := X.1
  have hb := X.2.1
  intro x3 μ ν H locs ls h w hl
  unfold G_La_13 at h
  refine lv_aload_n hx hb d_La_559 rfl (lv_at hl 1 rfl) ?_
  refine lv_aload_n hx hb d_La_560 rfl (lv_at hl 0 rfl) ?_
  refine lv_iload_n hx hb d_La_561 rfl (lv_at hl 3 rfl) ?_
  refine lv_iconst (v := 1) hx hb d_La_562 (by decide) ?_
  refine lv_iadd hx hb d_La_563 ?_
  obtain ⟨hi149, h⟩ := h
  refine va_sld hx hb hX hbl hbA w.2.2 hi149 d_La_564 ?_
  refine lv_aload_n hx hb d_La_565 rfl (lv_at hl 0 rfl) ?_
  refine lv_iload_n hx hb d_La_566 rfl (lv_at hl 3 rfl) ?_
  refine lv_iconst (v := 2) hx hb d_La_567 (by decide) ?_
  refine lv_iadd hx hb d_La_568 ?_
  obtain ⟨hi150, h⟩ := h
  refine va_sld hx hb hX hbl hbA w.2.2 hi150 d_La_569 ?_
  refine z_cVi (E := zt E (zM0 E ν)) (V := zwC) (As := [.int (xs (x3 + (1 : Int32)).toNatClampNeg), .int (xs (x3 + (2 : Int32)).toNatClampNeg)]) (rest := []) (q0 := 0) (ci := 5) (zX_t X) (zL_C w) (c_Bh_page l (zt E (zM0 E ν)) μ (xs (x3 + (1 : Int32)).toNatClampNeg) (xs (x3 + (2 : Int32)).toNatClampNeg) _ h) rfl rfl rfl w_ml_La_73 ⟨w_im_Bh_page, w_se_Bh_page⟩ w_in_Bh w_co_Bh_page q_Bh_page.1 q_Bh_page.2 rfl ⟨Nat.le_of_ble_eq_true rfl, Nat.le_of_ble_eq_true rfl⟩ ⟨(show (30 : Nat) ≤ 30 from Nat.le_refl _), (show (41236 : Nat) ≤ 41236 from Nat.le_refl _)⟩ hl.1 rfl (Nat.le_of_ble_eq_true rfl) d_La_570 (fun r151 μ152 H locs h w => ?_)
  have w := zC_L w
  refine lv_aload_n hx hb d_La_573 rfl (lv_at hl 2 rfl) ?_
  refine lv_aload_n hx hb d_La_574 rfl (lv_at hl 0 rfl) ?_
  refine lv_iload_n hx hb d_La_575 rfl (lv_at hl 3 rfl) ?_
  refine lv_iconst (v := 1) hx hb d_La_576 (by decide) ?_
  refine lv_iadd hx hb d_La_577 ?_
  obtain ⟨hi153, h⟩ := h
  refine va_sld hx hb hX hbl hbA w.2.2 hi153 d_La_578 ?_
  refine lv_aload_n hx hb d_La_579 rfl (lv_at hl 0 rfl) ?_
  refine lv_iload_n hx hb d_La_580 rfl (lv_at hl 3 rfl) ?_
  refine lv_iconst (v := 2) hx hb d_La_581 (by decide) ?_
  refine lv_iadd hx hb d_La_582 ?_
  obtain ⟨hi154, h⟩ := h
  refine va_sld hx hb hX hbl hbA w.2.2 hi154 d_La_583 ?_
  refine z_cVi (E := zt E (zC0 E μ152)) (V := zwM) (As := [.int (xs (x3 + (1 : Int32)).toNatClampNeg), .int (xs (x3 + (2 : Int32)).toNatClampNeg)]) (rest := [.int r151]) (q0 := 0) (ci := 6) (zX_t X) (zL_M w) (c_Mo_page l (zt E (zC0 E μ152)) ν (xs (x3 + (1 : Int32)).toNatClampNeg) (xs (x3 + (2 : Int32)).toNatClampNeg) _ h) rfl rfl rfl w_ml_La_76 ⟨w_im_Mo_page, w_se_Mo_page⟩ w_in_Mo w_co_Mo_page q_Mo_page.1 q_Mo_page.2 rfl ⟨Nat.le_of_ble_eq_true rfl, Nat.le_of_ble_eq_true rfl⟩ ⟨(show (30 : Nat) ≤ 30 from Nat.le_refl _), (show (41236 : Nat) ≤ 41236 from Nat.le_refl _)⟩ hl.1 rfl (Nat.le_of_ble_eq_true rfl) d_La_584 (fun r155 ν156 H locs h w => ?_)
  have w := zM_L w
  refine lv_icmp_eq (tgt := 664) hx hb d_La_587 (by decide) (fun c157 => ?_) (fun c157 => ?_)
  · have h := h.1 c157
    obtain ⟨x158, ex158⟩ : ∃ y : Int32, y = x3 + 5 := ⟨_, rfl⟩
    have h := h x158 ex158
    refine lv_iinc (v := x158) (lv' := [(3, .int x158), (0, .ref b), (1, .ref (E.2.1 0)), (2, .ref (E.2.1 19))]) hx hb d_La_664 hl (k := 3) rfl (by rw [ex158]; rfl) (by decide) rfl (fun ls hl => ?_)
    refine lv_goto (tgt := 18) hx hb d_La_667 (by decide) ?_
    exact ih x158 μ152 ν156 _ _ _ h w (lv_sub hl [1, 2, 3, 0] rfl)
  · have h := h.2 c157
    refine lv_iconst (v := 0) hx hb d_La_590 (by decide) ?_
    exact h.elim
def G_La_14 (L : Nat) (xs : Nat → Int32) (ih : Int32 → zM → zM → Prop) (x3 : Int32) (μ ν : zM) : Prop := vp_in (x3 + (1 : Int32)) L ∧ (f_Bh_count μ (xs (x3 + (1 : Int32)).toNatClampNeg) (fun r161 μ162 => (vp_in (x3 + (1 : Int32)) L ∧ (f_Mo_count ν (xs (x3 + (1 : Int32)).toNatClampNeg) (fun r164 ν165 => ((r161 = r164 → (∀ x167 : Int32, x167 = x3 + 5 → (ih x167 μ162 ν165))) ∧ (¬ r161 = r164 → (False))))))))
set_option maxHeartbeats 4000000 in
set_option maxRecDepth 100000 in
theorem M_La_14 {p : Program} {l : Launch} {e : Env} {s : State} {m : MethodId} {below : List Frame} {meth : Method} {c : Code} {E : zE} {b L : Nat} {xs : Nat → Int32} (hE : E.2.2.2.2.2.1 = fun q => s.heap.size ≤ q) (X : zX E p s m #[Value.ref b] c code "BeatHeapLaw" 4) (hr : meth.sig.returnType = ret) (hlk : meth.locks = false) (hX : va_X b L xs s s.heap) (hbl : b < s.heap.size) (hbA : ¬ zA E b) (C : Int32 → zM → zM → Prop) (ih : ∀ (x3 : Int32) (μ ν : zM) (H : Heap) (locs : List Loc) (ls : Array Slot), C x3 μ ν → zL E s μ ν H locs → lv_has ls 4 [(0, .ref b), (1, .ref (E.2.1 0)), (2, .ref (E.2.1 19)), (3, .int x3)] → W p l e room_1 s m #[Value.ref b] below meth c H locs 30 41236 (lw_Z below #[Value.ref b] s) (F0 m 18 ls [])) : ∀ (x3 : Int32) (μ ν : zM) (H : Heap) (locs : List Loc) (ls : Array Slot), G_La_14 L xs C x3 μ ν → zL E s μ ν H locs → lv_has ls 4 [(0, .ref b), (1, .ref (E.2.1 0)), (2, .ref (E.2.1 19)), (3, .int x3)] → W p l e room_1 s m #[Value.ref b] below meth c H locs 30 41236 (lw_Z below #[Value.ref b] s) (F0 m 592 ls []) := by
  have hx := X.1
  have hb := X.2.1
  intro x3 μ ν H locs ls h w hl
  unfold G_La_14 at h
  refine lv_aload_n hx hb d_La_592 rfl (lv_at hl 1 rfl) ?_
  refine lv_aload_n hx hb d_La_593 rfl (lv_at hl 0 rfl) ?_
  refine lv_iload_n hx hb d_La_594 rfl (lv_at hl 3 rfl) ?_
  refine lv_iconst (v := 1) hx hb d_La_595 (by decide) ?_
  refine lv_iadd hx hb d_La_596 ?_
  obtain ⟨hi160, h⟩ := h
  refine va_sld hx hb hX hbl hbA w.2.2 hi160 d_La_597 ?_
  refine z_cVi (E := zt E (zM0 E ν)) (V := zwC) (As := [.int (xs (x3 + (1 : Int32)).toNatClampNeg)]) (rest := []) (q0 := 0) (ci := 5) (zX_t X) (zL_C w) (c_Bh_count l (zt E (zM0 E ν)) μ (xs (x3 + (1 : Int32)).toNatClampNeg) _ h) rfl rfl rfl w_ml_La_77 ⟨w_im_Bh_count, w_se_Bh_count⟩ w_in_Bh w_co_Bh_count q_Bh_count.1 q_Bh_count.2 rfl ⟨Nat.le_of_ble_eq_true rfl, Nat.le_of_ble_eq_true rfl⟩ ⟨(show (30 : Nat) ≤ 30 from Nat.le_refl _), (show (41236 : Nat) ≤ 41236 from Nat.le_refl _)⟩ hl.1 rfl (Nat.le_of_ble_eq_true rfl) d_La_598 (fun r161 μ162 H locs h w => ?_)
  have w := zC_L w
  refine lv_aload_n hx hb d_La_601 rfl (lv_at hl 2 rfl) ?_
  refine lv_aload_n hx hb d_La_602 rfl (lv_at hl 0 rfl) ?_
  refine lv_iload_n hx hb d_La_603 rfl (lv_at hl 3 rfl) ?_
  refine lv_iconst (v := 1) hx hb d_La_604 (by decide) ?_
  refine lv_iadd hx hb d_La_605 ?_
  obtain ⟨hi163, h⟩ := h
  refine va_sld hx hb hX hbl hbA w.2.2 hi163 d_La_606 ?_
  refine z_cVi (E := zt E (zC0 E μ162)) (V := zwM) (As := [.int (xs (x3 + (1 : Int32)).toNatClampNeg)]) (rest := [.int r161]) (q0 := 0) (ci := 6) (zX_t X) (zL_M w) (c_Mo_count l (zt E (zC0 E μ162)) ν (xs (x3 + (1 : Int32)).toNatClampNeg) _ h) rfl rfl rfl w_ml_La_80 ⟨w_im_Mo_count, w_se_Mo_count⟩ w_in_Mo w_co_Mo_count q_Mo_count.1 q_Mo_count.2 rfl ⟨Nat.le_of_ble_eq_true rfl, Nat.le_of_ble_eq_true rfl⟩ ⟨(show (30 : Nat) ≤ 30 from Nat.le_refl _), (show (41236 : Nat) ≤ 41236 from Nat.le_refl _)⟩ hl.1 rfl (Nat.le_of_ble_eq_true rfl) d_La_607 (fun r164 ν165 H locs h w => ?_)
  have w := zM_L w
  refine lv_icmp_eq (tgt := 664) hx hb d_La_610 (by decide) (fun c166 => ?_) (fun c166 => ?_)
  · have h := h.1 c166
    obtain ⟨x167, ex167⟩ : ∃ y : Int32, y = x3 + 5 := ⟨_, rfl⟩
    have h := h x167 ex167
    refine lv_iinc (v := x167) (lv' := [(3, .int x167), (0, .ref b), (1, .ref (E.2.1 0)), (2, .ref (E.2.1 19))]) hx hb d_La_664 hl (k := 3) rfl (by rw [ex167]; rfl) (by decide) rfl (fun ls hl => ?_)
    refine lv_goto (tgt := 18) hx hb d_La_667 (by decide) ?_
    exact ih x167 μ162 ν165 _ _ _ h w (lv_sub hl [1, 2, 3, 0] rfl)
  · have h := h.2 c166
    refine lv_iconst (v := 0) hx hb d_La_613 (by decide) ?_
    exact h.elim
def G_La_15 (L : Nat) (xs : Nat → Int32) (ih : Int32 → zM → zM → Prop) (x3 : Int32) (μ ν : zM) : Prop := vp_in (x3 + (1 : Int32)) L ∧ (f_Bh_share μ (xs (x3 + (1 : Int32)).toNatClampNeg) (fun r170 μ171 => (vp_in (x3 + (1 : Int32)) L ∧ (f_Mo_share ν (xs (x3 + (1 : Int32)).toNatClampNeg) (fun r173 ν174 => ((r170 = r173 → (∀ x176 : Int32, x176 = x3 + 5 → (ih x176 μ171 ν174))) ∧ (¬ r170 = r173 → (False))))))))
set_option maxHeartbeats 4000000 in
set_option maxRecDepth 100000 in
theorem M_La_15 {p : Program} {l : Launch} {e : Env} {s : State} {m : MethodId} {below : List Frame} {meth : Method} {c : Code} {E : zE} {b L : Nat} {xs : Nat → Int32} (hE : E.2.2.2.2.2.1 = fun q => s.heap.size ≤ q) (X : zX E p s m #[Value.ref b] c code "BeatHeapLaw" 4) (hr : meth.sig.returnType = ret) (hlk : meth.locks = false) (hX : va_X b L xs s s.heap) (hbl : b < s.heap.size) (hbA : ¬ zA E b) (C : Int32 → zM → zM → Prop) (ih : ∀ (x3 : Int32) (μ ν : zM) (H : Heap) (locs : List Loc) (ls : Array Slot), C x3 μ ν → zL E s μ ν H locs → lv_has ls 4 [(0, .ref b), (1, .ref (E.2.1 0)), (2, .ref (E.2.1 19)), (3, .int x3)] → W p l e room_1 s m #[Value.ref b] below meth c H locs 30 41236 (lw_Z below #[Value.ref b] s) (F0 m 18 ls [])) : ∀ (x3 : Int32) (μ ν : zM) (H : Heap) (locs : List Loc) (ls : Array Slot), G_La_15 L xs C x3 μ ν → zL E s μ ν H locs → lv_has ls 4 [(0, .ref b), (1, .ref (E.2.1 0)), (2, .ref (E.2.1 19)), (3, .int x3)] → W p l e room_1 s m #[Value.ref b] below meth c H locs 30 41236 (lw_Z below #[Value.ref b] s) (F0 m 615 ls []) := by
  have hx := X.1
  have hb := X.2.1
  intro x3 μ ν H locs ls h w hl
  unfold G_La_15 at h
  refine lv_aload_n hx hb d_La_615 rfl (lv_at hl 1 rfl) ?_
  refine lv_aload_n hx hb d_La_616 rfl (lv_at hl 0 rfl) ?_
  refine lv_iload_n hx hb d_La_617 rfl (lv_at hl 3 rfl) ?_
  refine lv_iconst (v := 1) hx hb d_La_618 (by decide) ?_
  refine lv_iadd hx hb d_La_619 ?_
  obtain ⟨hi169, h⟩ := h
  refine va_sld hx hb hX hbl hbA w.2.2 hi169 d_La_620 ?_
  refine z_cVi (E := zt E (zM0 E ν)) (V := zwC) (As := [.int (xs (x3 + (1 : Int32)).toNatClampNeg)]) (rest := []) (q0 := 0) (ci := 5) (zX_t X) (zL_C w) (c_Bh_share l (zt E (zM0 E ν)) μ (xs (x3 + (1 : Int32)).toNatClampNeg) _ h) rfl rfl rfl w_ml_La_81 ⟨w_im_Bh_share, w_se_Bh_share⟩ w_in_Bh w_co_Bh_share q_Bh_share.1 q_Bh_share.2 rfl ⟨Nat.le_of_ble_eq_true rfl, Nat.le_of_ble_eq_true rfl⟩ ⟨(show (30 : Nat) ≤ 30 from Nat.le_refl _), (show (41236 : Nat) ≤ 41236 from Nat.le_refl _)⟩ hl.1 rfl (Nat.le_of_ble_eq_true rfl) d_La_621 (fun r170 μ171 H locs h w => ?_)
  have w := zC_L w
  refine lv_aload_n hx hb d_La_624 rfl (lv_at hl 2 rfl) ?_
  refine lv_aload_n hx hb d_La_625 rfl (lv_at hl 0 rfl) ?_
  refine lv_iload_n hx hb d_La_626 rfl (lv_at hl 3 rfl) ?_
  refine lv_iconst (v := 1) hx hb d_La_627 (by decide) ?_
  refine lv_iadd hx hb d_La_628 ?_
  obtain ⟨hi172, h⟩ := h
  refine va_sld hx hb hX hbl hbA w.2.2 hi172 d_La_629 ?_
  refine z_cVi (E := zt E (zC0 E μ171)) (V := zwM) (As := [.int (xs (x3 + (1 : Int32)).toNatClampNeg)]) (rest := [.int r170]) (q0 := 0) (ci := 6) (zX_t X) (zL_M w) (c_Mo_share l (zt E (zC0 E μ171)) ν (xs (x3 + (1 : Int32)).toNatClampNeg) _ h) rfl rfl rfl w_ml_La_84 ⟨w_im_Mo_share, w_se_Mo_share⟩ w_in_Mo w_co_Mo_share q_Mo_share.1 q_Mo_share.2 rfl ⟨Nat.le_of_ble_eq_true rfl, Nat.le_of_ble_eq_true rfl⟩ ⟨(show (30 : Nat) ≤ 30 from Nat.le_refl _), (show (41236 : Nat) ≤ 41236 from Nat.le_refl _)⟩ hl.1 rfl (Nat.le_of_ble_eq_true rfl) d_La_630 (fun r173 ν174 H locs h w => ?_)
  have w := zM_L w
  refine lv_icmp_eq (tgt := 664) hx hb d_La_633 (by decide) (fun c175 => ?_) (fun c175 => ?_)
  · have h := h.1 c175
    obtain ⟨x176, ex176⟩ : ∃ y : Int32, y = x3 + 5 := ⟨_, rfl⟩
    have h := h x176 ex176
    refine lv_iinc (v := x176) (lv' := [(3, .int x176), (0, .ref b), (1, .ref (E.2.1 0)), (2, .ref (E.2.1 19))]) hx hb d_La_664 hl (k := 3) rfl (by rw [ex176]; rfl) (by decide) rfl (fun ls hl => ?_)
    refine lv_goto (tgt := 18) hx hb d_La_667 (by decide) ?_
    exact ih x176 μ171 ν174 _ _ _ h w (lv_sub hl [1, 2, 3, 0] rfl)
  · have h := h.2 c175
    refine lv_iconst (v := 0) hx hb d_La_636 (by decide) ?_
    exact h.elim
def G_La_16 (L : Nat) (xs : Nat → Int32) (ih : Int32 → zM → zM → Prop) (x3 : Int32) (μ ν : zM) : Prop := f_Bh_reachable μ (fun r178 μ179 => (f_Mo_reachable ν (fun r180 ν181 => ((r178 = r180 → (∀ x183 : Int32, x183 = x3 + 5 → (ih x183 μ179 ν181))) ∧ (¬ r178 = r180 → (False))))))
set_option maxHeartbeats 4000000 in
set_option maxRecDepth 100000 in
theorem M_La_16 {p : Program} {l : Launch} {e : Env} {s : State} {m : MethodId} {below : List Frame} {meth : Method} {c : Code} {E : zE} {b L : Nat} {xs : Nat → Int32} (hE : E.2.2.2.2.2.1 = fun q => s.heap.size ≤ q) (X : zX E p s m #[Value.ref b] c code "BeatHeapLaw" 4) (hr : meth.sig.returnType = ret) (hlk : meth.locks = false) (hX : va_X b L xs s s.heap) (hbl : b < s.heap.size) (hbA : ¬ zA E b) (C : Int32 → zM → zM → Prop) (ih : ∀ (x3 : Int32) (μ ν : zM) (H : Heap) (locs : List Loc) (ls : Array Slot), C x3 μ ν → zL E s μ ν H locs → lv_has ls 4 [(0, .ref b), (1, .ref (E.2.1 0)), (2, .ref (E.2.1 19)), (3, .int x3)] → W p l e room_1 s m #[Value.ref b] below meth c H locs 30 41236 (lw_Z below #[Value.ref b] s) (F0 m 18 ls [])) : ∀ (x3 : Int32) (μ ν : zM) (H : Heap) (locs : List Loc) (ls : Array Slot), G_La_16 L xs C x3 μ ν → zL E s μ ν H locs → lv_has ls 4 [(0, .ref b), (1, .ref (E.2.1 0)), (2, .ref (E.2.1 19)), (3, .int x3)] → W p l e room_1 s m #[Value.ref b] below meth c H locs 30 41236 (lw_Z below #[Value.ref b] s) (F0 m 638 ls []) := by
  have hx := X.1
  have hb := X.2.1
  intro x3 μ ν H locs ls h w hl
  unfold G_La_16 at h
  refine lv_aload_n hx hb d_La_638 rfl (lv_at hl 1 rfl) ?_
  refine z_cVi (E := zt E (zM0 E ν)) (V := zwC) (As := []) (rest := []) (q0 := 0) (ci := 5) (zX_t X) (zL_C w) (c_Bh_reachable l (zt E (zM0 E ν)) μ _ h) rfl rfl rfl w_ml_La_85 ⟨w_im_Bh_reachable, w_se_Bh_reachable⟩ w_in_Bh w_co_Bh_reachable q_Bh_reachable.1 q_Bh_reachable.2 rfl ⟨Nat.le_of_ble_eq_true rfl, Nat.le_of_ble_eq_true rfl⟩ ⟨(show (30 : Nat) ≤ 30 from Nat.le_refl _), (show (41236 : Nat) ≤ 41236 from Nat.le_refl _)⟩ hl.1 rfl (Nat.le_of_ble_eq_true rfl) d_La_639 (fun r178 μ179 H locs h w => ?_)
  have w := zC_L w
  refine lv_aload_n hx hb d_La_642 rfl (lv_at hl 2 rfl) ?_
  refine z_cVi (E := zt E (zC0 E μ179)) (V := zwM) (As := []) (rest := [.int r178]) (q0 := 0) (ci := 6) (zX_t X) (zL_M w) (c_Mo_reachable l (zt E (zC0 E μ179)) ν _ h) rfl rfl rfl w_ml_La_89 ⟨w_im_Mo_reachable, w_se_Mo_reachable⟩ w_in_Mo w_co_Mo_reachable q_Mo_reachable.1 q_Mo_reachable.2 rfl ⟨Nat.le_of_ble_eq_true rfl, Nat.le_of_ble_eq_true rfl⟩ ⟨(show (30 : Nat) ≤ 30 from Nat.le_refl _), (show (41236 : Nat) ≤ 41236 from Nat.le_refl _)⟩ hl.1 rfl (Nat.le_of_ble_eq_true rfl) d_La_643 (fun r180 ν181 H locs h w => ?_)
  have w := zM_L w
  refine lv_icmp_eq (tgt := 664) hx hb d_La_646 (by decide) (fun c182 => ?_) (fun c182 => ?_)
  · have h := h.1 c182
    obtain ⟨x183, ex183⟩ : ∃ y : Int32, y = x3 + 5 := ⟨_, rfl⟩
    have h := h x183 ex183
    refine lv_iinc (v := x183) (lv' := [(3, .int x183), (0, .ref b), (1, .ref (E.2.1 0)), (2, .ref (E.2.1 19))]) hx hb d_La_664 hl (k := 3) rfl (by rw [ex183]; rfl) (by decide) rfl (fun ls hl => ?_)
    refine lv_goto (tgt := 18) hx hb d_La_667 (by decide) ?_
    exact ih x183 μ179 ν181 _ _ _ h w (lv_sub hl [1, 2, 3, 0] rfl)
  · have h := h.2 c182
    refine lv_iconst (v := 0) hx hb d_La_649 (by decide) ?_
    exact h.elim
def G_La_17 (L : Nat) (xs : Nat → Int32) (ih : Int32 → zM → zM → Prop) (x3 : Int32) (μ ν : zM) : Prop := f_Bh_whole μ (fun r185 μ186 => (f_Mo_whole ν (fun r187 ν188 => ((r185 = r187 → (∀ x190 : Int32, x190 = x3 + 5 → (ih x190 μ186 ν188))) ∧ (¬ r185 = r187 → (False))))))
set_option maxHeartbeats 4000000 in
set_option maxRecDepth 100000 in
theorem M_La_17 {p : Program} {l : Launch} {e : Env} {s : State} {m : MethodId} {below : List Frame} {meth : Method} {c : Code} {E : zE} {b L : Nat} {xs : Nat → Int32} (hE : E.2.2.2.2.2.1 = fun q => s.heap.size ≤ q) (X : zX E p s m #[Value.ref b] c code "BeatHeapLaw" 4) (hr : meth.sig.returnType = ret) (hlk : meth.locks = false) (hX : va_X b L xs s s.heap) (hbl : b < s.heap.size) (hbA : ¬ zA E b) (C : Int32 → zM → zM → Prop) (ih : ∀ (x3 : Int32) (μ ν : zM) (H : Heap) (locs : List Loc) (ls : Array Slot), C x3 μ ν → zL E s μ ν H locs → lv_has ls 4 [(0, .ref b), (1, .ref (E.2.1 0)), (2, .ref (E.2.1 19)), (3, .int x3)] → W p l e room_1 s m #[Value.ref b] below meth c H locs 30 41236 (lw_Z below #[Value.ref b] s) (F0 m 18 ls [])) : ∀ (x3 : Int32) (μ ν : zM) (H : Heap) (locs : List Loc) (ls : Array Slot), G_La_17 L xs C x3 μ ν → zL E s μ ν H locs → lv_has ls 4 [(0, .ref b), (1, .ref (E.2.1 0)), (2, .ref (E.2.1 19)), (3, .int x3)] → W p l e room_1 s m #[Value.ref b] below meth c H locs 30 41236 (lw_Z below #[Value.ref b] s) (F0 m 651 ls []) := by
  have hx := X.1
  have hb := X.2.1
  intro x3 μ ν H locs ls h w hl
  unfold G_La_17 at h
  refine lv_aload_n hx hb d_La_651 rfl (lv_at hl 1 rfl) ?_
  refine z_cVi (E := zt E (zM0 E ν)) (V := zwC) (As := []) (rest := []) (q0 := 0) (ci := 5) (zX_t X) (zL_C w) (c_Bh_whole l (zt E (zM0 E ν)) μ _ h) rfl rfl rfl w_ml_La_90 ⟨w_im_Bh_whole, w_se_Bh_whole⟩ w_in_Bh w_co_Bh_whole q_Bh_whole.1 q_Bh_whole.2 rfl ⟨Nat.le_of_ble_eq_true rfl, Nat.le_of_ble_eq_true rfl⟩ ⟨(show (30 : Nat) ≤ 30 from Nat.le_refl _), (show (41236 : Nat) ≤ 41236 from Nat.le_refl _)⟩ hl.1 rfl (Nat.le_of_ble_eq_true rfl) d_La_652 (fun r185 μ186 H locs h w => ?_)
  have w := zC_L w
  refine lv_aload_n hx hb d_La_655 rfl (lv_at hl 2 rfl) ?_
  refine z_cVi (E := zt E (zC0 E μ186)) (V := zwM) (As := []) (rest := [.int r185]) (q0 := 0) (ci := 6) (zX_t X) (zL_M w) (c_Mo_whole l (zt E (zC0 E μ186)) ν _ h) rfl rfl rfl w_ml_La_93 ⟨w_im_Mo_whole, w_se_Mo_whole⟩ w_in_Mo w_co_Mo_whole q_Mo_whole.1 q_Mo_whole.2 rfl ⟨Nat.le_of_ble_eq_true rfl, Nat.le_of_ble_eq_true rfl⟩ ⟨(show (30 : Nat) ≤ 30 from Nat.le_refl _), (show (41236 : Nat) ≤ 41236 from Nat.le_refl _)⟩ hl.1 rfl (Nat.le_of_ble_eq_true rfl) d_La_656 (fun r187 ν188 H locs h w => ?_)
  have w := zM_L w
  refine lv_icmp_eq (tgt := 664) hx hb d_La_659 (by decide) (fun c189 => ?_) (fun c189 => ?_)
  · have h := h.1 c189
    obtain ⟨x190, ex190⟩ : ∃ y : Int32, y = x3 + 5 := ⟨_, rfl⟩
    have h := h x190 ex190
    refine lv_iinc (v := x190) (lv' := [(3, .int x190), (0, .ref b), (1, .ref (E.2.1 0)), (2, .ref (E.2.1 19))]) hx hb d_La_664 hl (k := 3) rfl (by rw [ex190]; rfl) (by decide) rfl (fun ls hl => ?_)
    refine lv_goto (tgt := 18) hx hb d_La_667 (by decide) ?_
    exact ih x190 μ186 ν188 _ _ _ h w (lv_sub hl [1, 2, 3, 0] rfl)
  · have h := h.2 c189
    refine lv_iconst (v := 0) hx hb d_La_662 (by decide) ?_
    exact h.elim
noncomputable def F_La (L : Nat) (xs : Nat → Int32) (n : Nat) : Int32 → zM → zM → Prop := Nat.rec (motive := fun _ => Int32 → zM → zM → Prop) (fun _ _ _ => False) (fun _ ih x3 μ ν => (((Int32.ofNat L) - (5 : Int32)) < x3 → (True)) ∧ (¬ ((Int32.ofNat L) - (5 : Int32)) < x3 → (vp_in x3 L ∧ ((((xs x3.toNatClampNeg) &&& (31 : Int32)).toInt = 0 → G_La_0 L xs ih x3 μ ν) ∧ (((xs x3.toNatClampNeg) &&& (31 : Int32)).toInt = 1 → G_La_1 L xs ih x3 μ ν) ∧ (((xs x3.toNatClampNeg) &&& (31 : Int32)).toInt = 2 → G_La_2 L xs ih x3 μ ν) ∧ (((xs x3.toNatClampNeg) &&& (31 : Int32)).toInt = 3 → G_La_3 L xs ih x3 μ ν) ∧ (((xs x3.toNatClampNeg) &&& (31 : Int32)).toInt = 4 → G_La_4 L xs ih x3 μ ν) ∧ (((xs x3.toNatClampNeg) &&& (31 : Int32)).toInt = 5 → G_La_5 L xs ih x3 μ ν) ∧ (((xs x3.toNatClampNeg) &&& (31 : Int32)).toInt = 6 → G_La_6 L xs ih x3 μ ν) ∧ (((xs x3.toNatClampNeg) &&& (31 : Int32)).toInt = 7 → G_La_7 L xs ih x3 μ ν) ∧ (((xs x3.toNatClampNeg) &&& (31 : Int32)).toInt = 8 → G_La_8 L xs ih x3 μ ν) ∧ (((xs x3.toNatClampNeg) &&& (31 : Int32)).toInt = 9 → G_La_9 L xs ih x3 μ ν) ∧ (((xs x3.toNatClampNeg) &&& (31 : Int32)).toInt = 10 → G_La_10 L xs ih x3 μ ν) ∧ (((xs x3.toNatClampNeg) &&& (31 : Int32)).toInt = 11 → G_La_11 L xs ih x3 μ ν) ∧ (((xs x3.toNatClampNeg) &&& (31 : Int32)).toInt = 12 → G_La_12 L xs ih x3 μ ν) ∧ (((xs x3.toNatClampNeg) &&& (31 : Int32)).toInt = 13 → G_La_13 L xs ih x3 μ ν) ∧ (((xs x3.toNatClampNeg) &&& (31 : Int32)).toInt = 14 → G_La_14 L xs ih x3 μ ν) ∧ (((xs x3.toNatClampNeg) &&& (31 : Int32)).toInt = 15 → G_La_15 L xs ih x3 μ ν) ∧ (((xs x3.toNatClampNeg) &&& (31 : Int32)).toInt = 16 → G_La_16 L xs ih x3 μ ν) ∧ (((xs x3.toNatClampNeg) &&& (31 : Int32)).toInt = 17 → G_La_17 L xs ih x3 μ ν) ∧ (¬ ((xs x3.toNatClampNeg) &&& (31 : Int32)).toInt = 0 → ¬ ((xs x3.toNatClampNeg) &&& (31 : Int32)).toInt = 1 → ¬ ((xs x3.toNatClampNeg) &&& (31 : Int32)).toInt = 2 → ¬ ((xs x3.toNatClampNeg) &&& (31 : Int32)).toInt = 3 → ¬ ((xs x3.toNatClampNeg) &&& (31 : Int32)).toInt = 4 → ¬ ((xs x3.toNatClampNeg) &&& (31 : Int32)).toInt = 5 → ¬ ((xs x3.toNatClampNeg) &&& (31 : Int32)).toInt = 6 → ¬ ((xs x3.toNatClampNeg) &&& (31 : Int32)).toInt = 7 → ¬ ((xs x3.toNatClampNeg) &&& (31 : Int32)).toInt = 8 → ¬ ((xs x3.toNatClampNeg) &&& (31 : Int32)).toInt = 9 → ¬ ((xs x3.toNatClampNeg) &&& (31 : Int32)).toInt = 10 → ¬ ((xs x3.toNatClampNeg) &&& (31 : Int32)).toInt = 11 → ¬ ((xs x3.toNatClampNeg) &&& (31 : Int32)).toInt = 12 → ¬ ((xs x3.toNatClampNeg) &&& (31 : Int32)).toInt = 13 → ¬ ((xs x3.toNatClampNeg) &&& (31 : Int32)).toInt = 14 → ¬ ((xs x3.toNatClampNeg) &&& (31 : Int32)).toInt = 15 → ¬ ((xs x3.toNatClampNeg) &&& (31 : Int32)).toInt = 16 → ¬ ((xs x3.toNatClampNeg) &&& (31 : Int32)).toInt = 17 → (∀ x191 : Int32, x191 = x3 + 5 → (ih x191 μ ν))))))) n
set_option maxHeartbeats 4000000 in
set_option maxRecDepth 100000 in
theorem L_La {p : Program} {l : Launch} {e : Env} {s : State} {m : MethodId} {below : List Frame} {meth : Method} {c : Code} {E : zE} {b L : Nat} {xs : Nat → Int32} (hE : E.2.2.2.2.2.1 = fun q => s.heap.size ≤ q) (X : zX E p s m #[Value.ref b] c code "BeatHeapLaw" 4) (hr : meth.sig.returnType = ret) (hlk : meth.locks = false) (hX : va_X b L xs s s.heap) (hbl : b < s.heap.size) (hbA : ¬ zA E b) : ∀ (n : Nat) (x3 : Int32) (μ ν : zM) (H : Heap) (locs : List Loc) (ls : Array Slot), F_La L xs n x3 μ ν → zL E s μ ν H locs → lv_has ls 4 [(0, .ref b), (1, .ref (E.2.1 0)), (2, .ref (E.2.1 19)), (3, .int x3)] → W p l e room_1 s m #[Value.ref b] below meth c H locs 30 41236 (lw_Z below #[Value.ref b] s) (F0 m 18 ls []) := by
  have hx := X.1
  have hb := X.2.1
  intro n
  induction n with
  | zero => intro x3 μ ν H locs ls h; exact False.elim h
  | succ n ih =>
    intro x3 μ ν H locs ls h w hl
    refine lv_iload_n hx hb d_La_18 rfl (lv_at hl 3 rfl) ?_
    refine lv_aload_n hx hb d_La_19 rfl (lv_at hl 0 rfl) ?_
    refine va_slen hx hb hX hbl hbA w.2.2 d_La_20 ?_
    refine lv_iconst (v := 5) hx hb d_La_21 (by decide) ?_
    refine lv_isub hx hb d_La_22 ?_
    refine lv_icmp_gt (tgt := 670) hx hb d_La_23 (by decide) (fun c1 => ?_) (fun c1 => ?_)
    · have h := h.1 c1
      refine lv_iconst (v := 1) hx hb d_La_670 (by decide) ?_
      refine va_forget (fun q hq => by have h9 : E.2.2.2.2.2.1 q.base := w.2.2.2.2 q hq; rw [hE] at h9; exact h9) ?_
      exact lw_ret hx hb hr hlk d_La_671
    · have h := h.2 c1
      refine lv_aload_n hx hb d_La_26 rfl (lv_at hl 0 rfl) ?_
      refine lv_iload_n hx hb d_La_27 rfl (lv_at hl 3 rfl) ?_
      obtain ⟨hi2, h⟩ := h
      refine va_sld hx hb hX hbl hbA w.2.2 hi2 d_La_28 ?_
      refine lv_bipush (v := 31) hx hb d_La_29 (by decide) ?_
      refine lv_iand hx hb d_La_31 ?_
      by_cases c3 : ((xs x3.toNatClampNeg) &&& (31 : Int32)).toInt = 0
      · have h := h.1 c3
        refine lv_tableIn (tgt := 120) hx hb d_La_32 (by omega) (by omega) (off := 88) (by rw [c3]; rfl) (by decide) ?_
        exact M_La_0 hE X hr hlk hX hbl hbA _ ih x3 μ ν _ _ _ h w hl
      by_cases c18 : ((xs x3.toNatClampNeg) &&& (31 : Int32)).toInt = 1
      · have h := h.2.1 c18
        refine lv_tableIn (tgt := 173) hx hb d_La_32 (by omega) (by omega) (off := 141) (by rw [c18]; rfl) (by decide) ?_
        exact M_La_1 hE X hr hlk hX hbl hbA _ ih x3 μ ν _ _ _ h w hl
      by_cases c31 : ((xs x3.toNatClampNeg) &&& (31 : Int32)).toInt = 2
      · have h := h.2.2.1 c31
        refine lv_tableIn (tgt := 216) hx hb d_La_32 (by omega) (by omega) (off := 184) (by rw [c31]; rfl) (by decide) ?_
        exact M_La_2 hE X hr hlk hX hbl hbA _ ih x3 μ ν _ _ _ h w hl
      by_cases c42 : ((xs x3.toNatClampNeg) &&& (31 : Int32)).toInt = 3
      · have h := h.2.2.2.1 c42
        refine lv_tableIn (tgt := 249) hx hb d_La_32 (by omega) (by omega) (off := 217) (by rw [c42]; rfl) (by decide) ?_
        exact M_La_3 hE X hr hlk hX hbl hbA _ ih x3 μ ν _ _ _ h w hl
      by_cases c55 : ((xs x3.toNatClampNeg) &&& (31 : Int32)).toInt = 4
      · have h := h.2.2.2.2.1 c55
        refine lv_tableIn (tgt := 292) hx hb d_La_32 (by omega) (by omega) (off := 260) (by rw [c55]; rfl) (by decide) ?_
        exact M_La_4 hE X hr hlk hX hbl hbA _ ih x3 μ ν _ _ _ h w hl
      by_cases c66 : ((xs x3.toNatClampNeg) &&& (31 : Int32)).toInt = 5
      · have h := h.2.2.2.2.2.1 c66
        refine lv_tableIn (tgt := 325) hx hb d_La_32 (by omega) (by omega) (off := 293) (by rw [c66]; rfl) (by decide) ?_
        exact M_La_5 hE X hr hlk hX hbl hbA _ ih x3 μ ν _ _ _ h w hl
      by_cases c79 : ((xs x3.toNatClampNeg) &&& (31 : Int32)).toInt = 6
      · have h := h.2.2.2.2.2.2.1 c79
        refine lv_tableIn (tgt := 368) hx hb d_La_32 (by omega) (by omega) (off := 336) (by rw [c79]; rfl) (by decide) ?_
        exact M_La_6 hE X hr hlk hX hbl hbA _ ih x3 μ ν _ _ _ h w hl
      by_cases c92 : ((xs x3.toNatClampNeg) &&& (31 : Int32)).toInt = 7
      · have h := h.2.2.2.2.2.2.2.1 c92
        refine lv_tableIn (tgt := 411) hx hb d_La_32 (by omega) (by omega) (off := 379) (by rw [c92]; rfl) (by decide) ?_
        exact M_La_7 hE X hr hlk hX hbl hbA _ ih x3 μ ν _ _ _ h w hl
      by_cases c103 : ((xs x3.toNatClampNeg) &&& (31 : Int32)).toInt = 8
      · have h := h.2.2.2.2.2.2.2.2.1 c103
        refine lv_tableIn (tgt := 444) hx hb d_La_32 (by omega) (by omega) (off := 412) (by rw [c103]; rfl) (by decide) ?_
        exact M_La_8 hE X hr hlk hX hbl hbA _ ih x3 μ ν _ _ _ h w hl
      by_cases c112 : ((xs x3.toNatClampNeg) &&& (31 : Int32)).toInt = 9
      · have h := h.2.2.2.2.2.2.2.2.2.1 c112
        refine lv_tableIn (tgt := 467) hx hb d_La_32 (by omega) (by omega) (off := 435) (by rw [c112]; rfl) (by decide) ?_
        exact M_La_9 hE X hr hlk hX hbl hbA _ ih x3 μ ν _ _ _ h w hl
      by_cases c121 : ((xs x3.toNatClampNeg) &&& (31 : Int32)).toInt = 10
      · have h := h.2.2.2.2.2.2.2.2.2.2.1 c121
        refine lv_tableIn (tgt := 490) hx hb d_La_32 (by omega) (by omega) (off := 458) (by rw [c121]; rfl) (by decide) ?_
        exact M_La_10 hE X hr hlk hX hbl hbA _ ih x3 μ ν _ _ _ h w hl
      by_cases c128 : ((xs x3.toNatClampNeg) &&& (31 : Int32)).toInt = 11
      · have h := h.2.2.2.2.2.2.2.2.2.2.2.1 c128
        refine lv_tableIn (tgt := 503) hx hb d_La_32 (by omega) (by omega) (off := 471) (by rw [c128]; rfl) (by decide) ?_
        exact M_La_11 hE X hr hlk hX hbl hbA _ ih x3 μ ν _ _ _ h w hl
      by_cases c139 : ((xs x3.toNatClampNeg) &&& (31 : Int32)).toInt = 12
      · have h := h.2.2.2.2.2.2.2.2.2.2.2.2.1 c139
        refine lv_tableIn (tgt := 536) hx hb d_La_32 (by omega) (by omega) (off := 504) (by rw [c139]; rfl) (by decide) ?_
        exact M_La_12 hE X hr hlk hX hbl hbA _ ih x3 μ ν _ _ _ h w hl
      by_cases c148 : ((xs x3.toNatClampNeg) &&& (31 : Int32)).toInt = 13
      · have h := h.2.2.2.2.2.2.2.2.2.2.2.2.2.1 c148
        refine lv_tableIn (tgt := 559) hx hb d_La_32 (by omega) (by omega) (off := 527) (by rw [c148]; rfl) (by decide) ?_
        exact M_La_13 hE X hr hlk hX hbl hbA _ ih x3 μ ν _ _ _ h w hl
      by_cases c159 : ((xs x3.toNatClampNeg) &&& (31 : Int32)).toInt = 14
      · have h := h.2.2.2.2.2.2.2.2.2.2.2.2.2.2.1 c159
        refine lv_tableIn (tgt := 592) hx hb d_La_32 (by omega) (by omega) (off := 560) (by rw [c159]; rfl) (by decide) ?_
        exact M_La_14 hE X hr hlk hX hbl hbA _ ih x3 μ ν _ _ _ h w hl
      by_cases c168 : ((xs x3.toNatClampNeg) &&& (31 : Int32)).toInt = 15
      · have h := h.2.2.2.2.2.2.2.2.2.2.2.2.2.2.2.1 c168
        refine lv_tableIn (tgt := 615) hx hb d_La_32 (by omega) (by omega) (off := 583) (by rw [c168]; rfl) (by decide) ?_
        exact M_La_15 hE X hr hlk hX hbl hbA _ ih x3 μ ν _ _ _ h w hl
      by_cases c177 : ((xs x3.toNatClampNeg) &&& (31 : Int32)).toInt = 16
      · have h := h.2.2.2.2.2.2.2.2.2.2.2.2.2.2.2.2.1 c177
        refine lv_tableIn (tgt := 638) hx hb d_La_32 (by omega) (by omega) (off := 606) (by rw [c177]; rfl) (by decide) ?_
        exact M_La_16 hE X hr hlk hX hbl hbA _ ih x3 μ ν _ _ _ h w hl
      by_cases c184 : ((xs x3.toNatClampNeg) &&& (31 : Int32)).toInt = 17
      · have h := h.2.2.2.2.2.2.2.2.2.2.2.2.2.2.2.2.2.1 c184
        refine lv_tableIn (tgt := 651) hx hb d_La_32 (by omega) (by omega) (off := 619) (by rw [c184]; rfl) (by decide) ?_
        exact M_La_17 hE X hr hlk hX hbl hbA _ ih x3 μ ν _ _ _ h w hl
      have h := h.2.2.2.2.2.2.2.2.2.2.2.2.2.2.2.2.2.2 c3 c18 c31 c42 c55 c66 c79 c92 c103 c112 c121 c128 c139 c148 c159 c168 c177 c184
      refine lv_tableOut (tgt := 664) hx hb d_La_32 (by omega) (by decide) ?_
      obtain ⟨x191, ex191⟩ : ∃ y : Int32, y = x3 + 5 := ⟨_, rfl⟩
      have h := h x191 ex191
      refine lv_iinc (v := x191) (lv' := [(3, .int x191), (0, .ref b), (1, .ref (E.2.1 0)), (2, .ref (E.2.1 19))]) hx hb d_La_664 hl (k := 3) rfl (by rw [ex191]; rfl) (by decide) rfl (fun ls hl => ?_)
      refine lv_goto (tgt := 18) hx hb d_La_667 (by decide) ?_
      exact ih x191 μ ν _ _ _ h w (lv_sub hl [1, 2, 3, 0] rfl)
