theorem q_Mo_freePages : (y_Mo_freePages.cls ≠ "java/lang/invoke/MethodHandle" ∧ y_Mo_freePages.cls ≠ "java/lang/invoke/VarHandle") ∧ (parseMethodDescriptor y_Mo_freePages.desc).map (fun d => d.parameters.length) = some 0 := by decide +kernel
theorem d_Mo_freePages_0 : decode prog_8_method_8_code 0 = .ok (.iconst 0, 1) := by decide +kernel
theorem d_Mo_freePages_1 : decode prog_8_method_8_code 1 = .ok (.istore_n 1, 1) := by decide +kernel
theorem d_Mo_freePages_2 : decode prog_8_method_8_code 2 = .ok (.iconst 0, 1) := by decide +kernel
theorem d_Mo_freePages_3 : decode prog_8_method_8_code 3 = .ok (.istore_n 2, 1) := by decide +kernel
theorem d_Mo_freePages_4 : decode prog_8_method_8_code 4 = .ok (.iload_n 2, 1) := by decide +kernel
theorem d_Mo_freePages_5 : decode prog_8_method_8_code 5 = .ok (.aload_n 0, 1) := by decide +kernel
theorem d_Mo_freePages_6 : decode prog_8_method_8_code 6 = .ok (.getfield 45, 3) := by decide +kernel
theorem d_Mo_freePages_9 : decode prog_8_method_8_code 9 = .ok (.if_icmp .ge 27, 3) := by decide +kernel
theorem d_Mo_freePages_12 : decode prog_8_method_8_code 12 = .ok (.iload_n 1, 1) := by decide +kernel
theorem d_Mo_freePages_13 : decode prog_8_method_8_code 13 = .ok (.aload_n 0, 1) := by decide +kernel
theorem d_Mo_freePages_14 : decode prog_8_method_8_code 14 = .ok (.getfield 13, 3) := by decide +kernel
theorem d_Mo_freePages_17 : decode prog_8_method_8_code 17 = .ok (.iload_n 2, 1) := by decide +kernel
theorem d_Mo_freePages_18 : decode prog_8_method_8_code 18 = .ok (.iaload, 1) := by decide +kernel
theorem d_Mo_freePages_19 : decode prog_8_method_8_code 19 = .ok (.iconst (-1), 1) := by decide +kernel
theorem d_Mo_freePages_20 : decode prog_8_method_8_code 20 = .ok (.if_icmp .ne 7, 3) := by decide +kernel
theorem d_Mo_freePages_23 : decode prog_8_method_8_code 23 = .ok (.iconst 1, 1) := by decide +kernel
theorem d_Mo_freePages_24 : decode prog_8_method_8_code 24 = .ok (.goto 4, 3) := by decide +kernel
theorem d_Mo_freePages_27 : decode prog_8_method_8_code 27 = .ok (.iconst 0, 1) := by decide +kernel
theorem d_Mo_freePages_28 : decode prog_8_method_8_code 28 = .ok (.iadd, 1) := by decide +kernel
theorem d_Mo_freePages_29 : decode prog_8_method_8_code 29 = .ok (.istore_n 1, 1) := by decide +kernel
theorem d_Mo_freePages_30 : decode prog_8_method_8_code 30 = .ok (.iinc 2 1, 3) := by decide +kernel
theorem d_Mo_freePages_33 : decode prog_8_method_8_code 33 = .ok (.goto (-29), 3) := by decide +kernel
theorem d_Mo_freePages_36 : decode prog_8_method_8_code 36 = .ok (.iload_n 1, 1) := by decide +kernel
theorem d_Mo_freePages_37 : decode prog_8_method_8_code 37 = .ok (.ireturn, 1) := by decide +kernel
noncomputable def F_Mo_freePages_4 (K : Int32 → zM → Prop) (n : Nat) : Int32 → Int32 → zM → Prop := Nat.rec (motive := fun _ => Int32 → Int32 → zM → Prop) (fun _ _ _ => False) (fun _ ih x1 x2 μ => ((μ 19 0) ≤ x2 → (K x1 μ)) ∧ (¬ (μ 19 0) ≤ x2 → (vp_in x2 64 ∧ ((¬ (μ 21 x2.toNatClampNeg) = (-1 : Int32) → (∀ x4 : Int32, x4 = (x1 + (0 : Int32)) → (∀ x5 : Int32, x5 = x2 + 1 → (ih x4 x5 μ)))) ∧ ((μ 21 x2.toNatClampNeg) = (-1 : Int32) → (∀ x6 : Int32, x6 = (x1 + (1 : Int32)) → (∀ x7 : Int32, x7 = x2 + 1 → (ih x6 x7 μ)))))))) n
def f_Mo_freePages (μ : zM) (K : Int32 → zM → Prop) : Prop := ∃ n : Nat, F_Mo_freePages_4 K n (0 : Int32) (0 : Int32) μ
set_option maxHeartbeats 4000000 in
set_option maxRecDepth 100000 in
theorem L_Mo_freePages_4 {p : Program} {l : Launch} {e : Env} {s : State} {m : MethodId} {args : Array Value} {below : List Frame} {meth : Method} {c : Code} {E : zE} (X : zX E p s m args c prog_8_method_8_code "BeatHeapModel" 3) (hr : meth.sig.returnType = (some .int)) (hlk : meth.locks = false) (K : Int32 → zM → Prop) : ∀ (n : Nat) (x1 x2 : Int32) (μ : zM) (H : Heap) (locs : List Loc) (ls : Array Slot), F_Mo_freePages_4 K n x1 x2 μ → zW zwM E s μ H locs → lv_has ls 3 [(0, .ref (E.2.1 19)), (1, .int x1), (2, .int x2)] → W p l e { frames := 0, cells := 0, slots := 0, locals := 0 } s m args below meth c H locs 0 0 (MQ below (va_Qi K (zR zwM E) (zA E)) args s 0 0 (zA E)) (F0 m 4 ls []) := by
  have hx := X.1
  have hb := X.2.1
  intro n
  induction n with
  | zero => intro x1 x2 μ H locs ls h; exact False.elim h
  | succ n ih =>
    intro x1 x2 μ H locs ls h w hl
    refine lv_iload_n hx hb d_Mo_freePages_4 rfl (lv_at hl 2 rfl) ?_
    refine lv_aload_n hx hb d_Mo_freePages_5 rfl (lv_at hl 0 rfl) ?_
    refine gt_19_0 X w w_fl_Mo_45 d_Mo_freePages_6 ?_
    refine lv_icmp_ge (tgt := 36) hx hb d_Mo_freePages_9 (by decide) (fun c1 => ?_) (fun c1 => ?_)
    · have h := h.1 c1
      refine lv_iload_n hx hb d_Mo_freePages_36 rfl (lv_at hl 1 rfl) ?_
      exact z_iret X hr hlk w h d_Mo_freePages_37
    · have h := h.2 c1
      refine lv_iload_n hx hb d_Mo_freePages_12 rfl (lv_at hl 1 rfl) ?_
      refine lv_aload_n hx hb d_Mo_freePages_13 rfl (lv_at hl 0 rfl) ?_
      refine gt_19_5 X w w_fl_Mo_13 d_Mo_freePages_14 ?_
      refine lv_iload_n hx hb d_Mo_freePages_17 rfl (lv_at hl 2 rfl) ?_
      obtain ⟨hi2, h⟩ := h
      refine al_21 X w hi2 d_Mo_freePages_18 ?_
      refine lv_iconst (v := (-1)) hx hb d_Mo_freePages_19 (by decide) ?_
      refine lv_icmp_ne (tgt := 27) hx hb d_Mo_freePages_20 (by decide) (fun c3 => ?_) (fun c3 => ?_)
      · have h := h.1 c3
        refine lv_iconst (v := 0) hx hb d_Mo_freePages_27 (by decide) ?_
        refine lv_iadd hx hb d_Mo_freePages_28 ?_
        refine lv_topi (fun x4 ex4 => ?_)
        have h := h x4 ex4
        refine lv_istore_n (lv' := [(1, .int x4), (0, .ref (E.2.1 19)), (2, .int x2)]) hx hb d_Mo_freePages_29 rfl hl (by decide) rfl (fun ls hl => ?_)
        obtain ⟨x5, ex5⟩ : ∃ y : Int32, y = x2 + 1 := ⟨_, rfl⟩
        have h := h x5 ex5
        refine lv_iinc (v := x5) (lv' := [(2, .int x5), (1, .int x4), (0, .ref (E.2.1 19))]) hx hb d_Mo_freePages_30 hl (k := 2) rfl (by rw [ex5]; rfl) (by decide) rfl (fun ls hl => ?_)
        refine lv_goto (tgt := 4) hx hb d_Mo_freePages_33 (by decide) ?_
        exact ih x4 x5 μ _ _ _ h w (lv_sub hl [2, 1, 0] rfl)
      · have h := h.2 c3
        refine lv_iconst (v := 1) hx hb d_Mo_freePages_23 (by decide) ?_
        refine lv_goto (tgt := 28) hx hb d_Mo_freePages_24 (by decide) ?_
        refine lv_iadd hx hb d_Mo_freePages_28 ?_
        refine lv_topi (fun x6 ex6 => ?_)
        have h := h x6 ex6
        refine lv_istore_n (lv' := [(1, .int x6), (0, .ref (E.2.1 19)), (2, .int x2)]) hx hb d_Mo_freePages_29 rfl hl (by decide) rfl (fun ls hl => ?_)
        obtain ⟨x7, ex7⟩ : ∃ y : Int32, y = x2 + 1 := ⟨_, rfl⟩
        have h := h x7 ex7
        refine lv_iinc (v := x7) (lv' := [(2, .int x7), (1, .int x6), (0, .ref (E.2.1 19))]) hx hb d_Mo_freePages_30 hl (k := 2) rfl (by rw [ex7]; rfl) (by decide) rfl (fun ls hl => ?_)
        refine lv_goto (tgt := 4) hx hb d_Mo_freePages_33 (by decide) ?_
        exact ih x6 x7 μ _ _ _ h w (lv_sub hl [2, 1, 0] rfl)

set_option maxHeartbeats 4000000 in
set_option maxRecDepth 100000 in
theorem c_Mo_freePages (l : Launch) (E : zE) (μ : zM) (K : Int32 → zM → Prop) (h : f_Mo_freePages μ K) : Met l y_Mo_freePages (Cond.code y_Mo_freePages prog_8_method_8_code 3 (some .int) :: zT) { frames := 0, cells := 0, slots := 0, locals := 0 } (va_Pc [.ref (E.2.1 19)] (zR zwM E μ)) (va_Qi K (zR zwM E) (zA E)) 0 0 (zA E) := by
  refine z_head (by decide) (Nat.le_of_ble_eq_true rfl) ?_
  intro p e s m below meth c X hr hlk w ls hl
  have X : zX E p s m _ c prog_8_method_8_code "BeatHeapModel" 3 := X
  have hx := X.1
  have hb := X.2.1
  have hl : lv_has ls 3 [(0, .ref (E.2.1 19))] := hl
  unfold f_Mo_freePages at h
  refine lv_iconst (v := 0) hx hb d_Mo_freePages_0 (by decide) ?_
  refine lv_istore_n (lv' := [(1, .int (0 : Int32)), (0, .ref (E.2.1 19))]) hx hb d_Mo_freePages_1 rfl hl (by decide) rfl (fun ls hl => ?_)
  refine lv_iconst (v := 0) hx hb d_Mo_freePages_2 (by decide) ?_
  refine lv_istore_n (lv' := [(2, .int (0 : Int32)), (1, .int (0 : Int32)), (0, .ref (E.2.1 19))]) hx hb d_Mo_freePages_3 rfl hl (by decide) rfl (fun ls hl => ?_)
  obtain ⟨n, h⟩ := h
  exact L_Mo_freePages_4 X hr hlk K n (0 : Int32) (0 : Int32) μ _ _ _ h w (lv_sub hl [2, 1, 0] rfl)
theorem q_Mo_beginCycle : (y_Mo_beginCycle.cls ≠ "java/lang/invoke/MethodHandle" ∧ y_Mo_beginCycle.cls ≠ "java/lang/invoke/VarHandle") ∧ (parseMethodDescriptor y_Mo_beginCycle.desc).map (fun d => d.parameters.length) = some 0 := by decide +kernel
theorem d_Mo_beginCycle_0 : decode prog_8_method_9_code 0 = .ok (.aload_n 0, 1) := by decide +kernel
theorem d_Mo_beginCycle_1 : decode prog_8_method_9_code 1 = .ok (.iconst 1, 1) := by decide +kernel
theorem d_Mo_beginCycle_2 : decode prog_8_method_9_code 2 = .ok (.putfield 61, 3) := by decide +kernel
theorem d_Mo_beginCycle_5 : decode prog_8_method_9_code 5 = .ok (.aload_n 0, 1) := by decide +kernel
theorem d_Mo_beginCycle_6 : decode prog_8_method_9_code 6 = .ok (.iconst 0, 1) := by decide +kernel
theorem d_Mo_beginCycle_7 : decode prog_8_method_9_code 7 = .ok (.putfield 92, 3) := by decide +kernel
theorem d_Mo_beginCycle_10 : decode prog_8_method_9_code 10 = .ok (.aload_n 0, 1) := by decide +kernel
theorem d_Mo_beginCycle_11 : decode prog_8_method_9_code 11 = .ok (.iconst 0, 1) := by decide +kernel
theorem d_Mo_beginCycle_12 : decode prog_8_method_9_code 12 = .ok (.putfield 58, 3) := by decide +kernel
theorem d_Mo_beginCycle_15 : decode prog_8_method_9_code 15 = .ok (.aload_n 0, 1) := by decide +kernel
theorem d_Mo_beginCycle_16 : decode prog_8_method_9_code 16 = .ok (.iconst (-1), 1) := by decide +kernel
theorem d_Mo_beginCycle_17 : decode prog_8_method_9_code 17 = .ok (.putfield 64, 3) := by decide +kernel
theorem d_Mo_beginCycle_20 : decode prog_8_method_9_code 20 = .ok (.aload_n 0, 1) := by decide +kernel
theorem d_Mo_beginCycle_21 : decode prog_8_method_9_code 21 = .ok (.aload_n 0, 1) := by decide +kernel
theorem d_Mo_beginCycle_22 : decode prog_8_method_9_code 22 = .ok (.getfield 49, 3) := by decide +kernel
theorem d_Mo_beginCycle_25 : decode prog_8_method_9_code 25 = .ok (.putfield 70, 3) := by decide +kernel
theorem d_Mo_beginCycle_28 : decode prog_8_method_9_code 28 = .ok (.return_, 1) := by decide +kernel
def f_Mo_beginCycle (μ : zM) (K : zM → Prop) : Prop := ∀ μ1 : zM, μ1 = zp μ 19 13 (1 : Int32) → (∀ μ2 : zM, μ2 = zp μ1 19 14 (0 : Int32) → (∀ μ3 : zM, μ3 = zp μ2 19 12 (0 : Int32) → (∀ μ4 : zM, μ4 = zp μ3 19 15 (-1 : Int32) → (∀ μ5 : zM, μ5 = zp μ4 19 18 (μ4 19 1) → (K μ5)))))
set_option maxHeartbeats 4000000 in
set_option maxRecDepth 100000 in
theorem c_Mo_beginCycle (l : Launch) (E : zE) (μ : zM) (K : zM → Prop) (h : f_Mo_beginCycle μ K) : Met l y_Mo_beginCycle (Cond.code y_Mo_beginCycle prog_8_method_9_code 1 none :: zT) { frames := 0, cells := 0, slots := 0, locals := 0 } (va_Pc [.ref (E.2.1 19)] (zR zwM E μ)) (va_Qv K (zR zwM E) (zA E)) 0 0 (zA E) := by
  refine z_head (by decide) (Nat.le_of_ble_eq_true rfl) ?_
  intro p e s m below meth c X hr hlk w ls hl
  have X : zX E p s m _ c prog_8_method_9_code "BeatHeapModel" 1 := X
  have hx := X.1
  have hb := X.2.1
  have hl : lv_has ls 1 [(0, .ref (E.2.1 19))] := hl
  unfold f_Mo_beginCycle at h
  refine lv_aload_n hx hb d_Mo_beginCycle_0 rfl (lv_at hl 0 rfl) ?_
  refine lv_iconst (v := 1) hx hb d_Mo_beginCycle_1 (by decide) ?_
  refine pt_19_13 X w w_fl_Mo_61 d_Mo_beginCycle_2 (fun μ1 H locs eμ1 w => ?_)
  have h := h μ1 eμ1
  refine lv_aload_n hx hb d_Mo_beginCycle_5 rfl (lv_at hl 0 rfl) ?_
  refine lv_iconst (v := 0) hx hb d_Mo_beginCycle_6 (by decide) ?_
  refine pt_19_14 X w w_fl_Mo_92 d_Mo_beginCycle_7 (fun μ2 H locs eμ2 w => ?_)
  have h := h μ2 eμ2
  refine lv_aload_n hx hb d_Mo_beginCycle_10 rfl (lv_at hl 0 rfl) ?_
  refine lv_iconst (v := 0) hx hb d_Mo_beginCycle_11 (by decide) ?_
  refine pt_19_12 X w w_fl_Mo_58 d_Mo_beginCycle_12 (fun μ3 H locs eμ3 w => ?_)
  have h := h μ3 eμ3
  refine lv_aload_n hx hb d_Mo_beginCycle_15 rfl (lv_at hl 0 rfl) ?_
  refine lv_iconst (v := (-1)) hx hb d_Mo_beginCycle_16 (by decide) ?_
  refine pt_19_15 X w w_fl_Mo_64 d_Mo_beginCycle_17 (fun μ4 H locs eμ4 w => ?_)
  have h := h μ4 eμ4
  refine lv_aload_n hx hb d_Mo_beginCycle_20 rfl (lv_at hl 0 rfl) ?_
  refine lv_aload_n hx hb d_Mo_beginCycle_21 rfl (lv_at hl 0 rfl) ?_
  refine gt_19_1 X w w_fl_Mo_49 d_Mo_beginCycle_22 ?_
  refine pt_19_18 X w w_fl_Mo_70 d_Mo_beginCycle_25 (fun μ5 H locs eμ5 w => ?_)
  have h := h μ5 eμ5
  exact z_vret X hr hlk w h d_Mo_beginCycle_28
theorem q_Mo_tick : (y_Mo_tick.cls ≠ "java/lang/invoke/MethodHandle" ∧ y_Mo_tick.cls ≠ "java/lang/invoke/VarHandle") ∧ (parseMethodDescriptor y_Mo_tick.desc).map (fun d => d.parameters.length) = some 1 := by decide +kernel
theorem d_Mo_tick_0 : decode prog_8_method_7_code 0 = .ok (.aload_n 0, 1) := by decide +kernel
theorem d_Mo_tick_1 : decode prog_8_method_7_code 1 = .ok (.getfield 35, 3) := by decide +kernel
theorem d_Mo_tick_4 : decode prog_8_method_7_code 4 = .ok (.aload_n 0, 1) := by decide +kernel
theorem d_Mo_tick_5 : decode prog_8_method_7_code 5 = .ok (.getfield 82, 3) := by decide +kernel
theorem d_Mo_tick_8 : decode prog_8_method_7_code 8 = .ok (.aload_n 0, 1) := by decide +kernel
theorem d_Mo_tick_9 : decode prog_8_method_7_code 9 = .ok (.getfield 85, 3) := by decide +kernel
theorem d_Mo_tick_12 : decode prog_8_method_7_code 12 = .ok (.iadd, 1) := by decide +kernel
theorem d_Mo_tick_13 : decode prog_8_method_7_code 13 = .ok (.sipush 2000, 3) := by decide +kernel
theorem d_Mo_tick_16 : decode prog_8_method_7_code 16 = .ok (.irem, 1) := by decide +kernel
theorem d_Mo_tick_17 : decode prog_8_method_7_code 17 = .ok (.iload_n 1, 1) := by decide +kernel
theorem d_Mo_tick_18 : decode prog_8_method_7_code 18 = .ok (.bastore, 1) := by decide +kernel
theorem d_Mo_tick_19 : decode prog_8_method_7_code 19 = .ok (.iload_n 1, 1) := by decide +kernel
theorem d_Mo_tick_20 : decode prog_8_method_7_code 20 = .ok (.ifCond .eq 16, 3) := by decide +kernel
theorem d_Mo_tick_23 : decode prog_8_method_7_code 23 = .ok (.aload_n 0, 1) := by decide +kernel
theorem d_Mo_tick_24 : decode prog_8_method_7_code 24 = .ok (.dup, 1) := by decide +kernel
theorem d_Mo_tick_25 : decode prog_8_method_7_code 25 = .ok (.getfield 82, 3) := by decide +kernel
theorem d_Mo_tick_28 : decode prog_8_method_7_code 28 = .ok (.iconst 1, 1) := by decide +kernel
theorem d_Mo_tick_29 : decode prog_8_method_7_code 29 = .ok (.iadd, 1) := by decide +kernel
theorem d_Mo_tick_30 : decode prog_8_method_7_code 30 = .ok (.putfield 82, 3) := by decide +kernel
theorem d_Mo_tick_33 : decode prog_8_method_7_code 33 = .ok (.goto 13, 3) := by decide +kernel
theorem d_Mo_tick_36 : decode prog_8_method_7_code 36 = .ok (.aload_n 0, 1) := by decide +kernel
theorem d_Mo_tick_37 : decode prog_8_method_7_code 37 = .ok (.dup, 1) := by decide +kernel
theorem d_Mo_tick_38 : decode prog_8_method_7_code 38 = .ok (.getfield 85, 3) := by decide +kernel
theorem d_Mo_tick_41 : decode prog_8_method_7_code 41 = .ok (.iconst 1, 1) := by decide +kernel
theorem d_Mo_tick_42 : decode prog_8_method_7_code 42 = .ok (.iadd, 1) := by decide +kernel
theorem d_Mo_tick_43 : decode prog_8_method_7_code 43 = .ok (.putfield 85, 3) := by decide +kernel
theorem d_Mo_tick_46 : decode prog_8_method_7_code 46 = .ok (.return_, 1) := by decide +kernel
def f_Mo_tick (μ : zM) (a1 : Int32) (K : zM → Prop) : Prop := vp_in (((μ 19 22) + (μ 19 23)) - ((μ 19 22) + (μ 19 23)) / (2000 : Int32) * (2000 : Int32)) 2000 ∧ ∀ μ2 : zM, μ2 = zp μ 28 (((μ 19 22) + (μ 19 23)) - ((μ 19 22) + (μ 19 23)) / (2000 : Int32) * (2000 : Int32)).toNatClampNeg (vp_nar .boolean a1) → ((a1 = 0 → (∀ μ4 : zM, μ4 = zp μ2 19 23 ((μ2 19 23) + (1 : Int32)) → (K μ4))) ∧ (¬ a1 = 0 → (∀ μ5 : zM, μ5 = zp μ2 19 22 ((μ2 19 22) + (1 : Int32)) → (K μ5))))
set_option maxHeartbeats 4000000 in
set_option maxRecDepth 100000 in
theorem c_Mo_tick (l : Launch) (E : zE) (μ : zM) (a1 : Int32) (K : zM → Prop) (h : f_Mo_tick μ a1 K) : Met l y_Mo_tick (Cond.code y_Mo_tick prog_8_method_7_code 2 none :: zT) { frames := 0, cells := 0, slots := 0, locals := 0 } (va_Pc [.ref (E.2.1 19), .int a1] (zR zwM E μ)) (va_Qv K (zR zwM E) (zA E)) 0 0 (zA E) := by
  refine z_head (by decide) (Nat.le_of_ble_eq_true rfl) ?_
  intro p e s m below meth c X hr hlk w ls hl
  have X : zX E p s m _ c prog_8_method_7_code "BeatHeapModel" 2 := X
  have hx := X.1
  have hb := X.2.1
  have hl : lv_has ls 2 [(0, .ref (E.2.1 19)), (1, .int a1)] := hl
  unfold f_Mo_tick at h
  refine lv_aload_n hx hb d_Mo_tick_0 rfl (lv_at hl 0 rfl) ?_
  refine gt_19_24 X w w_fl_Mo_35 d_Mo_tick_1 ?_
  refine lv_aload_n hx hb d_Mo_tick_4 rfl (lv_at hl 0 rfl) ?_
  refine gt_19_22 X w w_fl_Mo_82 d_Mo_tick_5 ?_
  refine lv_aload_n hx hb d_Mo_tick_8 rfl (lv_at hl 0 rfl) ?_
  refine gt_19_23 X w w_fl_Mo_85 d_Mo_tick_9 ?_
  refine lv_iadd hx hb d_Mo_tick_12 ?_
  refine lv_sipush (v := 2000) hx hb d_Mo_tick_13 (by decide) ?_
  refine lv_irem hx hb d_Mo_tick_16 (by decide) ?_
  refine lv_iload_n hx hb d_Mo_tick_17 rfl (lv_at hl 1 rfl) ?_
  obtain ⟨hi1, h⟩ := h
  refine as_28 X w hi1 d_Mo_tick_18 (fun μ2 H locs eμ2 w => ?_)
  have h := h μ2 eμ2
  refine lv_iload_n hx hb d_Mo_tick_19 rfl (lv_at hl 1 rfl) ?_
  refine lv_if_eq (tgt := 36) hx hb d_Mo_tick_20 (by decide) (fun c3 => ?_) (fun c3 => ?_)
  · have h := h.1 c3
    refine lv_aload_n hx hb d_Mo_tick_36 rfl (lv_at hl 0 rfl) ?_
    refine lv_dup hx hb d_Mo_tick_37 rfl ?_
    refine gt_19_23 X w w_fl_Mo_85 d_Mo_tick_38 ?_
    refine lv_iconst (v := 1) hx hb d_Mo_tick_41 (by decide) ?_
    refine lv_iadd hx hb d_Mo_tick_42 ?_
    refine pt_19_23 X w w_fl_Mo_85 d_Mo_tick_43 (fun μ4 H locs eμ4 w => ?_)
    have h := h μ4 eμ4
    exact z_vret X hr hlk w h d_Mo_tick_46
  · have h := h.2 c3
    refine lv_aload_n hx hb d_Mo_tick_23 rfl (lv_at hl 0 rfl) ?_
    refine lv_dup hx hb d_Mo_tick_24 rfl ?_
    refine gt_19_22 X w w_fl_Mo_82 d_Mo_tick_25 ?_
    refine lv_iconst (v := 1) hx hb d_Mo_tick_28 (by decide) ?_
    refine lv_iadd hx hb d_Mo_tick_29 ?_
    refine pt_19_22 X w w_fl_Mo_82 d_Mo_tick_30 (fun μ5 H locs eμ5 w => ?_)
    have h := h μ5 eμ5
    refine lv_goto (tgt := 46) hx hb d_Mo_tick_33 (by decide) ?_
    exact z_vret X hr hlk w h d_Mo_tick_46
theorem q_Mo_nextBlock : (y_Mo_nextBlock.cls ≠ "java/lang/invoke/MethodHandle" ∧ y_Mo_nextBlock.cls ≠ "java/lang/invoke/VarHandle") ∧ (parseMethodDescriptor y_Mo_nextBlock.desc).map (fun d => d.parameters.length) = some 0 := by decide +kernel
theorem d_Mo_nextBlock_0 : decode prog_8_method_15_code 0 = .ok (.aload_n 0, 1) := by decide +kernel
theorem d_Mo_nextBlock_1 : decode prog_8_method_15_code 1 = .ok (.getfield 67, 3) := by decide +kernel
theorem d_Mo_nextBlock_4 : decode prog_8_method_15_code 4 = .ok (.istore_n 1, 1) := by decide +kernel
theorem d_Mo_nextBlock_5 : decode prog_8_method_15_code 5 = .ok (.iload_n 1, 1) := by decide +kernel
theorem d_Mo_nextBlock_6 : decode prog_8_method_15_code 6 = .ok (.bipush 64, 2) := by decide +kernel
theorem d_Mo_nextBlock_8 : decode prog_8_method_15_code 8 = .ok (.aload_n 0, 1) := by decide +kernel
theorem d_Mo_nextBlock_9 : decode prog_8_method_15_code 9 = .ok (.getfield 45, 3) := by decide +kernel
theorem d_Mo_nextBlock_12 : decode prog_8_method_15_code 12 = .ok (.imul, 1) := by decide +kernel
theorem d_Mo_nextBlock_13 : decode prog_8_method_15_code 13 = .ok (.if_icmp .ge 31, 3) := by decide +kernel
theorem d_Mo_nextBlock_16 : decode prog_8_method_15_code 16 = .ok (.aload_n 0, 1) := by decide +kernel
theorem d_Mo_nextBlock_17 : decode prog_8_method_15_code 17 = .ok (.getfield 13, 3) := by decide +kernel
theorem d_Mo_nextBlock_20 : decode prog_8_method_15_code 20 = .ok (.iload_n 1, 1) := by decide +kernel
theorem d_Mo_nextBlock_21 : decode prog_8_method_15_code 21 = .ok (.bipush 64, 2) := by decide +kernel
theorem d_Mo_nextBlock_23 : decode prog_8_method_15_code 23 = .ok (.idiv, 1) := by decide +kernel
theorem d_Mo_nextBlock_24 : decode prog_8_method_15_code 24 = .ok (.iaload, 1) := by decide +kernel
theorem d_Mo_nextBlock_25 : decode prog_8_method_15_code 25 = .ok (.iconst (-1), 1) := by decide +kernel
theorem d_Mo_nextBlock_26 : decode prog_8_method_15_code 26 = .ok (.if_icmp .eq 5, 3) := by decide +kernel
theorem d_Mo_nextBlock_29 : decode prog_8_method_15_code 29 = .ok (.iload_n 1, 1) := by decide +kernel
theorem d_Mo_nextBlock_30 : decode prog_8_method_15_code 30 = .ok (.ireturn, 1) := by decide +kernel
theorem d_Mo_nextBlock_31 : decode prog_8_method_15_code 31 = .ok (.iload_n 1, 1) := by decide +kernel
theorem d_Mo_nextBlock_32 : decode prog_8_method_15_code 32 = .ok (.bipush 64, 2) := by decide +kernel
theorem d_Mo_nextBlock_34 : decode prog_8_method_15_code 34 = .ok (.idiv, 1) := by decide +kernel
theorem d_Mo_nextBlock_35 : decode prog_8_method_15_code 35 = .ok (.iconst 1, 1) := by decide +kernel
theorem d_Mo_nextBlock_36 : decode prog_8_method_15_code 36 = .ok (.iadd, 1) := by decide +kernel
theorem d_Mo_nextBlock_37 : decode prog_8_method_15_code 37 = .ok (.bipush 64, 2) := by decide +kernel
theorem d_Mo_nextBlock_39 : decode prog_8_method_15_code 39 = .ok (.imul, 1) := by decide +kernel
theorem d_Mo_nextBlock_40 : decode prog_8_method_15_code 40 = .ok (.istore_n 1, 1) := by decide +kernel
theorem d_Mo_nextBlock_41 : decode prog_8_method_15_code 41 = .ok (.goto (-36), 3) := by decide +kernel
theorem d_Mo_nextBlock_44 : decode prog_8_method_15_code 44 = .ok (.iconst (-1), 1) := by decide +kernel
theorem d_Mo_nextBlock_45 : decode prog_8_method_15_code 45 = .ok (.ireturn, 1) := by decide +kernel
noncomputable def F_Mo_nextBlock_5 (K : Int32 → zM → Prop) (n : Nat) : Int32 → zM → Prop := Nat.rec (motive := fun _ => Int32 → zM → Prop) (fun _ _ => False) (fun _ ih x1 μ => (((64 : Int32) * (μ 19 0)) ≤ x1 → (K (-1 : Int32) μ)) ∧ (¬ ((64 : Int32) * (μ 19 0)) ≤ x1 → (vp_in (x1 / (64 : Int32)) 64 ∧ (((μ 21 (x1 / (64 : Int32)).toNatClampNeg) = (-1 : Int32) → (∀ x5 : Int32, x5 = (((x1 / (64 : Int32)) + (1 : Int32)) * (64 : Int32)) → (ih x5 μ))) ∧ (¬ (μ 21 (x1 / (64 : Int32)).toNatClampNeg) = (-1 : Int32) → (K x1 μ)))))) n
def f_Mo_nextBlock (μ : zM) (K : Int32 → zM → Prop) : Prop := ∀ x1 : Int32, x1 = (μ 19 17) → (∃ n : Nat, F_Mo_nextBlock_5 K n x1 μ)
set_option maxHeartbeats 4000000 in
set_option maxRecDepth 100000 in
theorem L_Mo_nextBlock_5 {p : Program} {l : Launch} {e : Env} {s : State} {m : MethodId} {args : Array Value} {below : List Frame} {meth : Method} {c : Code} {E : zE} (X : zX E p s m args c prog_8_method_15_code "BeatHeapModel" 2) (hr : meth.sig.returnType = (some .int)) (hlk : meth.locks = false) (K : Int32 → zM → Prop) : ∀ (n : Nat) (x1 : Int32) (μ : zM) (H : Heap) (locs : List Loc) (ls : Array Slot), F_Mo_nextBlock_5 K n x1 μ → zW zwM E s μ H locs → lv_has ls 2 [(0, .ref (E.2.1 19)), (1, .int x1)] → W p l e { frames := 0, cells := 0, slots := 0, locals := 0 } s m args below meth c H locs 0 0 (MQ below (va_Qi K (zR zwM E) (zA E)) args s 0 0 (zA E)) (F0 m 5 ls []) := by
  have hx := X.1
  have hb := X.2.1
  intro n
  induction n with
  | zero => intro x1 μ H locs ls h; exact False.elim h
  | succ n ih =>
    intro x1 μ H locs ls h w hl
    refine lv_iload_n hx hb d_Mo_nextBlock_5 rfl (lv_at hl 1 rfl) ?_
    refine lv_bipush (v := 64) hx hb d_Mo_nextBlock_6 (by decide) ?_
    refine lv_aload_n hx hb d_Mo_nextBlock_8 rfl (lv_at hl 0 rfl) ?_
    refine gt_19_0 X w w_fl_Mo_45 d_Mo_nextBlock_9 ?_
    refine lv_imul hx hb d_Mo_nextBlock_12 ?_
    refine lv_icmp_ge (tgt := 44) hx hb d_Mo_nextBlock_13 (by decide) (fun c2 => ?_) (fun c2 => ?_)
    · have h := h.1 c2
      refine lv_iconst (v := (-1)) hx hb d_Mo_nextBlock_44 (by decide) ?_
      exact z_iret X hr hlk w h d_Mo_nextBlock_45
    · have h := h.2 c2
      refine lv_aload_n hx hb d_Mo_nextBlock_16 rfl (lv_at hl 0 rfl) ?_
      refine gt_19_5 X w w_fl_Mo_13 d_Mo_nextBlock_17 ?_
      refine lv_iload_n hx hb d_Mo_nextBlock_20 rfl (lv_at hl 1 rfl) ?_
      refine lv_bipush (v := 64) hx hb d_Mo_nextBlock_21 (by decide) ?_
      refine lv_idiv hx hb d_Mo_nextBlock_23 (by decide) ?_
      obtain ⟨hi3, h⟩ := h
      refine al_21 X w hi3 d_Mo_nextBlock_24 ?_
      refine lv_iconst (v := (-1)) hx hb d_Mo_nextBlock_25 (by decide) ?_
      refine lv_icmp_eq (tgt := 31) hx hb d_Mo_nextBlock_26 (by decide) (fun c4 => ?_) (fun c4 => ?_)
      · have h := h.1 c4
        refine lv_iload_n hx hb d_Mo_nextBlock_31 rfl (lv_at hl 1 rfl) ?_
        refine lv_bipush (v := 64) hx hb d_Mo_nextBlock_32 (by decide) ?_
        refine lv_idiv hx hb d_Mo_nextBlock_34 (by decide) ?_
        refine lv_iconst (v := 1) hx hb d_Mo_nextBlock_35 (by decide) ?_
        refine lv_iadd hx hb d_Mo_nextBlock_36 ?_
        refine lv_bipush (v := 64) hx hb d_Mo_nextBlock_37 (by decide) ?_
        refine lv_imul hx hb d_Mo_nextBlock_39 ?_
        refine lv_topi (fun x5 ex5 => ?_)
        have h := h x5 ex5
        refine lv_istore_n (lv' := [(1, .int x5), (0, .ref (E.2.1 19))]) hx hb d_Mo_nextBlock_40 rfl hl (by decide) rfl (fun ls hl => ?_)
        refine lv_goto (tgt := 5) hx hb d_Mo_nextBlock_41 (by decide) ?_
        exact ih x5 μ _ _ _ h w (lv_sub hl [1, 0] rfl)
      · have h := h.2 c4
        refine lv_iload_n hx hb d_Mo_nextBlock_29 rfl (lv_at hl 1 rfl) ?_
        exact z_iret X hr hlk w h d_Mo_nextBlock_30

set_option maxHeartbeats 4000000 in
set_option maxRecDepth 100000 in
theorem c_Mo_nextBlock (l : Launch) (E : zE) (μ : zM) (K : Int32 → zM → Prop) (h : f_Mo_nextBlock μ K) : Met l y_Mo_nextBlock (Cond.code y_Mo_nextBlock prog_8_method_15_code 2 (some .int) :: zT) { frames := 0, cells := 0, slots := 0, locals := 0 } (va_Pc [.ref (E.2.1 19)] (zR zwM E μ)) (va_Qi K (zR zwM E) (zA E)) 0 0 (zA E) := by
  refine z_head (by decide) (Nat.le_of_ble_eq_true rfl) ?_
  intro p e s m below meth c X hr hlk w ls hl
  have X : zX E p s m _ c prog_8_method_15_code "BeatHeapModel" 2 := X
  have hx := X.1
  have hb := X.2.1
  have hl : lv_has ls 2 [(0, .ref (E.2.1 19))] := hl
  unfold f_Mo_nextBlock at h
  refine lv_aload_n hx hb d_Mo_nextBlock_0 rfl (lv_at hl 0 rfl) ?_
  refine gt_19_17 X w w_fl_Mo_67 d_Mo_nextBlock_1 ?_
  refine lv_topi (fun x1 ex1 => ?_)
  have h := h x1 ex1
  refine lv_istore_n (lv' := [(1, .int x1), (0, .ref (E.2.1 19))]) hx hb d_Mo_nextBlock_4 rfl hl (by decide) rfl (fun ls hl => ?_)
  obtain ⟨n, h⟩ := h
  exact L_Mo_nextBlock_5 X hr hlk K n x1 μ _ _ _ h w (lv_sub hl [1, 0] rfl)
theorem q_Mo_sizeAt : (y_Mo_sizeAt.cls ≠ "java/lang/invoke/MethodHandle" ∧ y_Mo_sizeAt.cls ≠ "java/lang/invoke/VarHandle") ∧ (parseMethodDescriptor y_Mo_sizeAt.desc).map (fun d => d.parameters.length) = some 1 := by decide +kernel
theorem d_Mo_sizeAt_0 : decode prog_8_method_6_code 0 = .ok (.aload_n 0, 1) := by decide +kernel
theorem d_Mo_sizeAt_1 : decode prog_8_method_6_code 1 = .ok (.getfield 13, 3) := by decide +kernel
theorem d_Mo_sizeAt_4 : decode prog_8_method_6_code 4 = .ok (.iload_n 1, 1) := by decide +kernel
theorem d_Mo_sizeAt_5 : decode prog_8_method_6_code 5 = .ok (.bipush 64, 2) := by decide +kernel
theorem d_Mo_sizeAt_7 : decode prog_8_method_6_code 7 = .ok (.idiv, 1) := by decide +kernel
theorem d_Mo_sizeAt_8 : decode prog_8_method_6_code 8 = .ok (.iaload, 1) := by decide +kernel
theorem d_Mo_sizeAt_9 : decode prog_8_method_6_code 9 = .ok (.invokestatic 88, 3) := by decide +kernel
theorem d_Mo_sizeAt_12 : decode prog_8_method_6_code 12 = .ok (.ireturn, 1) := by decide +kernel
def f_Mo_sizeAt (μ : zM) (a1 : Int32) (K : Int32 → zM → Prop) : Prop := vp_in (a1 / (64 : Int32)) 64 ∧ (f_Mo_sizeOf μ (μ 21 (a1 / (64 : Int32)).toNatClampNeg) (fun r3 μ2 => (K r3 μ2)))
set_option maxHeartbeats 4000000 in
set_option maxRecDepth 100000 in
theorem c_Mo_sizeAt (l : Launch) (E : zE) (μ : zM) (a1 : Int32) (K : Int32 → zM → Prop) (h : f_Mo_sizeAt μ a1 K) : Met l y_Mo_sizeAt (Cond.code y_Mo_sizeAt prog_8_method_6_code 2 (some .int) :: zT) { frames := 1, cells := 0, slots := 0, locals := 20 } (va_Pc [.ref (E.2.1 19), .int a1] (zR zwM E μ)) (va_Qi K (zR zwM E) (zA E)) 0 0 (zA E) := by
  refine z_head (by decide) (Nat.le_of_ble_eq_true rfl) ?_
  intro p e s m below meth c X hr hlk w ls hl
  have X : zX E p s m _ c prog_8_method_6_code "BeatHeapModel" 2 := X
  have hx := X.1
  have hb := X.2.1
  have hl : lv_has ls 2 [(0, .ref (E.2.1 19)), (1, .int a1)] := hl
  unfold f_Mo_sizeAt at h
  refine lv_aload_n hx hb d_Mo_sizeAt_0 rfl (lv_at hl 0 rfl) ?_
  refine gt_19_5 X w w_fl_Mo_13 d_Mo_sizeAt_1 ?_
  refine lv_iload_n hx hb d_Mo_sizeAt_4 rfl (lv_at hl 1 rfl) ?_
  refine lv_bipush (v := 64) hx hb d_Mo_sizeAt_5 (by decide) ?_
  refine lv_idiv hx hb d_Mo_sizeAt_7 (by decide) ?_
  obtain ⟨hi1, h⟩ := h
  refine al_21 X w hi1 d_Mo_sizeAt_8 ?_
  refine z_cSi (As := [.int (μ 21 (a1 / (64 : Int32)).toNatClampNeg)]) (rest := []) X w (c_Mo_sizeOf l E μ (μ 21 (a1 / (64 : Int32)).toNatClampNeg) _ h) w_ml_Mo_88 w_st_Mo_sizeOf w_in_Mo w_co_Mo_sizeOf q_Mo_sizeOf.1 q_Mo_sizeOf.2 rfl ⟨Nat.le_of_ble_eq_true rfl, Nat.le_of_ble_eq_true rfl⟩ ⟨Nat.zero_le _, Nat.zero_le _⟩ hl.1 rfl (Nat.le_of_ble_eq_true rfl) d_Mo_sizeAt_9 (fun r3 μ2 H locs h w => ?_)
  exact z_iret X hr hlk w h d_Mo_sizeAt_12
theorem q_Mo_holding : (y_Mo_holding.cls ≠ "java/lang/invoke/MethodHandle" ∧ y_Mo_holding.cls ≠ "java/lang/invoke/VarHandle") ∧ (parseMethodDescriptor y_Mo_holding.desc).map (fun d => d.parameters.length) = some 1 := by decide +kernel
theorem d_Mo_holding_0 : decode prog_8_method_16_code 0 = .ok (.iconst 0, 1) := by decide +kernel
theorem d_Mo_holding_1 : decode prog_8_method_16_code 1 = .ok (.istore_n 2, 1) := by decide +kernel
theorem d_Mo_holding_2 : decode prog_8_method_16_code 2 = .ok (.bipush 64, 2) := by decide +kernel
theorem d_Mo_holding_4 : decode prog_8_method_16_code 4 = .ok (.iload_n 1, 1) := by decide +kernel
theorem d_Mo_holding_5 : decode prog_8_method_16_code 5 = .ok (.imul, 1) := by decide +kernel
theorem d_Mo_holding_6 : decode prog_8_method_16_code 6 = .ok (.istore_n 3, 1) := by decide +kernel
theorem d_Mo_holding_7 : decode prog_8_method_16_code 7 = .ok (.iload_n 3, 1) := by decide +kernel
theorem d_Mo_holding_8 : decode prog_8_method_16_code 8 = .ok (.bipush 64, 2) := by decide +kernel
theorem d_Mo_holding_10 : decode prog_8_method_16_code 10 = .ok (.iload_n 1, 1) := by decide +kernel
theorem d_Mo_holding_11 : decode prog_8_method_16_code 11 = .ok (.iconst 1, 1) := by decide +kernel
theorem d_Mo_holding_12 : decode prog_8_method_16_code 12 = .ok (.iadd, 1) := by decide +kernel
theorem d_Mo_holding_13 : decode prog_8_method_16_code 13 = .ok (.imul, 1) := by decide +kernel
theorem d_Mo_holding_14 : decode prog_8_method_16_code 14 = .ok (.if_icmp .ge 26, 3) := by decide +kernel
theorem d_Mo_holding_17 : decode prog_8_method_16_code 17 = .ok (.iload_n 2, 1) := by decide +kernel
theorem d_Mo_holding_18 : decode prog_8_method_16_code 18 = .ok (.aload_n 0, 1) := by decide +kernel
theorem d_Mo_holding_19 : decode prog_8_method_16_code 19 = .ok (.getfield 16, 3) := by decide +kernel
theorem d_Mo_holding_22 : decode prog_8_method_16_code 22 = .ok (.iload_n 3, 1) := by decide +kernel
theorem d_Mo_holding_23 : decode prog_8_method_16_code 23 = .ok (.iaload, 1) := by decide +kernel
theorem d_Mo_holding_24 : decode prog_8_method_16_code 24 = .ok (.ifCond .eq 7, 3) := by decide +kernel
theorem d_Mo_holding_27 : decode prog_8_method_16_code 27 = .ok (.iconst 1, 1) := by decide +kernel
theorem d_Mo_holding_28 : decode prog_8_method_16_code 28 = .ok (.goto 4, 3) := by decide +kernel
theorem d_Mo_holding_31 : decode prog_8_method_16_code 31 = .ok (.iconst 0, 1) := by decide +kernel
theorem d_Mo_holding_32 : decode prog_8_method_16_code 32 = .ok (.iadd, 1) := by decide +kernel
theorem d_Mo_holding_33 : decode prog_8_method_16_code 33 = .ok (.istore_n 2, 1) := by decide +kernel
theorem d_Mo_holding_34 : decode prog_8_method_16_code 34 = .ok (.iinc 3 1, 3) := by decide +kernel
theorem d_Mo_holding_37 : decode prog_8_method_16_code 37 = .ok (.goto (-30), 3) := by decide +kernel
theorem d_Mo_holding_40 : decode prog_8_method_16_code 40 = .ok (.iload_n 2, 1) := by decide +kernel
theorem d_Mo_holding_41 : decode prog_8_method_16_code 41 = .ok (.ireturn, 1) := by decide +kernel
noncomputable def F_Mo_holding_7 (K : Int32 → zM → Prop) (n : Nat) : Int32 → Int32 → Int32 → zM → Prop := Nat.rec (motive := fun _ => Int32 → Int32 → Int32 → zM → Prop) (fun _ _ _ _ => False) (fun _ ih x1 x2 x3 μ => (((64 : Int32) * (x1 + (1 : Int32))) ≤ x3 → (K x2 μ)) ∧ (¬ ((64 : Int32) * (x1 + (1 : Int32))) ≤ x3 → (vp_in x3 4096 ∧ (((μ 22 x3.toNatClampNeg) = 0 → (∀ x5 : Int32, x5 = (x2 + (0 : Int32)) → (∀ x6 : Int32, x6 = x3 + 1 → (ih x1 x5 x6 μ)))) ∧ (¬ (μ 22 x3.toNatClampNeg) = 0 → (∀ x7 : Int32, x7 = (x2 + (1 : Int32)) → (∀ x8 : Int32, x8 = x3 + 1 → (ih x1 x7 x8 μ)))))))) n
def f_Mo_holding (μ : zM) (a1 : Int32) (K : Int32 → zM → Prop) : Prop := ∀ x1 : Int32, x1 = ((64 : Int32) * a1) → (∃ n : Nat, F_Mo_holding_7 K n a1 (0 : Int32) x1 μ)
set_option maxHeartbeats 4000000 in
set_option maxRecDepth 100000 in
theorem L_Mo_holding_7 {p : Program} {l : Launch} {e : Env} {s : State} {m : MethodId} {args : Array Value} {below : List Frame} {meth : Method} {c : Code} {E : zE} (X : zX E p s m args c prog_8_method_16_code "BeatHeapModel" 4) (hr : meth.sig.returnType = (some .int)) (hlk : meth.locks = false) (K : Int32 → zM → Prop) : ∀ (n : Nat) (x1 x2 x3 : Int32) (μ : zM) (H : Heap) (locs : List Loc) (ls : Array Slot), F_Mo_holding_7 K n x1 x2 x3 μ → zW zwM E s μ H locs → lv_has ls 4 [(0, .ref (E.2.1 19)), (1, .int x1), (2, .int x2), (3, .int x3)] → W p l e { frames := 0, cells := 0, slots := 0, locals := 0 } s m args below meth c H locs 0 0 (MQ below (va_Qi K (zR zwM E) (zA E)) args s 0 0 (zA E)) (F0 m 7 ls []) := by
  have hx := X.1
  have hb := X.2.1
  intro n
  induction n with
  | zero => intro x1 x2 x3 μ H locs ls h; exact False.elim h
  | succ n ih =>
    intro x1 x2 x3 μ H locs ls h w hl
    refine lv_iload_n hx hb d_Mo_holding_7 rfl (lv_at hl 3 rfl) ?_
    refine lv_bipush (v := 64) hx hb d_Mo_holding_8 (by decide) ?_
    refine lv_iload_n hx hb d_Mo_holding_10 rfl (lv_at hl 1 rfl) ?_
    refine lv_iconst (v := 1) hx hb d_Mo_holding_11 (by decide) ?_
    refine lv_iadd hx hb d_Mo_holding_12 ?_
    refine lv_imul hx hb d_Mo_holding_13 ?_
    refine lv_icmp_ge (tgt := 40) hx hb d_Mo_holding_14 (by decide) (fun c2 => ?_) (fun c2 => ?_)
    · have h := h.1 c2
      refine lv_iload_n hx hb d_Mo_holding_40 rfl (lv_at hl 2 rfl) ?_
      exact z_iret X hr hlk w h d_Mo_holding_41
    · have h := h.2 c2
      refine lv_iload_n hx hb d_Mo_holding_17 rfl (lv_at hl 2 rfl) ?_
      refine lv_aload_n hx hb d_Mo_holding_18 rfl (lv_at hl 0 rfl) ?_
      refine gt_19_6 X w w_fl_Mo_16 d_Mo_holding_19 ?_
      refine lv_iload_n hx hb d_Mo_holding_22 rfl (lv_at hl 3 rfl) ?_
      obtain ⟨hi3, h⟩ := h
      refine al_22 X w hi3 d_Mo_holding_23 ?_
      refine lv_if_eq (tgt := 31) hx hb d_Mo_holding_24 (by decide) (fun c4 => ?_) (fun c4 => ?_)
      · have h := h.1 c4
        refine lv_iconst (v := 0) hx hb d_Mo_holding_31 (by decide) ?_
        refine lv_iadd hx hb d_Mo_holding_32 ?_
        refine lv_topi (fun x5 ex5 => ?_)
        have h := h x5 ex5
        refine lv_istore_n (lv' := [(2, .int x5), (0, .ref (E.2.1 19)), (1, .int x1), (3, .int x3)]) hx hb d_Mo_holding_33 rfl hl (by decide) rfl (fun ls hl => ?_)
        obtain ⟨x6, ex6⟩ : ∃ y : Int32, y = x3 + 1 := ⟨_, rfl⟩
        have h := h x6 ex6
        refine lv_iinc (v := x6) (lv' := [(3, .int x6), (2, .int x5), (0, .ref (E.2.1 19)), (1, .int x1)]) hx hb d_Mo_holding_34 hl (k := 3) rfl (by rw [ex6]; rfl) (by decide) rfl (fun ls hl => ?_)
        refine lv_goto (tgt := 7) hx hb d_Mo_holding_37 (by decide) ?_
        exact ih x1 x5 x6 μ _ _ _ h w (lv_sub hl [2, 3, 1, 0] rfl)
      · have h := h.2 c4
        refine lv_iconst (v := 1) hx hb d_Mo_holding_27 (by decide) ?_
        refine lv_goto (tgt := 32) hx hb d_Mo_holding_28 (by decide) ?_
        refine lv_iadd hx hb d_Mo_holding_32 ?_
        refine lv_topi (fun x7 ex7 => ?_)
        have h := h x7 ex7
        refine lv_istore_n (lv' := [(2, .int x7), (0, .ref (E.2.1 19)), (1, .int x1), (3, .int x3)]) hx hb d_Mo_holding_33 rfl hl (by decide) rfl (fun ls hl => ?_)
        obtain ⟨x8, ex8⟩ : ∃ y : Int32, y = x3 + 1 := ⟨_, rfl⟩
        have h := h x8 ex8
        refine lv_iinc (v := x8) (lv' := [(3, .int x8), (2, .int x7), (0, .ref (E.2.1 19)), (1, .int x1)]) hx hb d_Mo_holding_34 hl (k := 3) rfl (by rw [ex8]; rfl) (by decide) rfl (fun ls hl => ?_)
        refine lv_goto (tgt := 7) hx hb d_Mo_holding_37 (by decide) ?_
        exact ih x1 x7 x8 μ _ _ _ h w (lv_sub hl [2, 3, 1, 0] rfl)

set_option maxHeartbeats 4000000 in
set_option maxRecDepth 100000 in
theorem c_Mo_holding (l : Launch) (E : zE) (μ : zM) (a1 : Int32) (K : Int32 → zM → Prop) (h : f_Mo_holding μ a1 K) : Met l y_Mo_holding (Cond.code y_Mo_holding prog_8_method_16_code 4 (some .int) :: zT) { frames := 0, cells := 0, slots := 0, locals := 0 } (va_Pc [.ref (E.2.1 19), .int a1] (zR zwM E μ)) (va_Qi K (zR zwM E) (zA E)) 0 0 (zA E) := by
  refine z_head (by decide) (Nat.le_of_ble_eq_true rfl) ?_
  intro p e s m below meth c X hr hlk w ls hl
  have X : zX E p s m _ c prog_8_method_16_code "BeatHeapModel" 4 := X
  have hx := X.1
  have hb := X.2.1
  have hl : lv_has ls 4 [(0, .ref (E.2.1 19)), (1, .int a1)] := hl
  unfold f_Mo_holding at h
  refine lv_iconst (v := 0) hx hb d_Mo_holding_0 (by decide) ?_
  refine lv_istore_n (lv' := [(2, .int (0 : Int32)), (0, .ref (E.2.1 19)), (1, .int a1)]) hx hb d_Mo_holding_1 rfl hl (by decide) rfl (fun ls hl => ?_)
  refine lv_bipush (v := 64) hx hb d_Mo_holding_2 (by decide) ?_
  refine lv_iload_n hx hb d_Mo_holding_4 rfl (lv_at hl 2 rfl) ?_
  refine lv_imul hx hb d_Mo_holding_5 ?_
  refine lv_topi (fun x1 ex1 => ?_)
  have h := h x1 ex1
  refine lv_istore_n (lv' := [(3, .int x1), (2, .int (0 : Int32)), (0, .ref (E.2.1 19)), (1, .int a1)]) hx hb d_Mo_holding_6 rfl hl (by decide) rfl (fun ls hl => ?_)
  obtain ⟨n, h⟩ := h
  exact L_Mo_holding_7 X hr hlk K n a1 (0 : Int32) x1 μ _ _ _ h w (lv_sub hl [2, 3, 1, 0] rfl)
theorem q_Mo_sweepStep : (y_Mo_sweepStep.cls ≠ "java/lang/invoke/MethodHandle" ∧ y_Mo_sweepStep.cls ≠ "java/lang/invoke/VarHandle") ∧ (parseMethodDescriptor y_Mo_sweepStep.desc).map (fun d => d.parameters.length) = some 0 := by decide +kernel
theorem d_Mo_sweepStep_0 : decode prog_8_method_17_code 0 = .ok (.aload_n 0, 1) := by decide +kernel
theorem d_Mo_sweepStep_1 : decode prog_8_method_17_code 1 = .ok (.invokevirtual 119, 3) := by decide +kernel
theorem d_Mo_sweepStep_4 : decode prog_8_method_17_code 4 = .ok (.istore_n 1, 1) := by decide +kernel
theorem d_Mo_sweepStep_5 : decode prog_8_method_17_code 5 = .ok (.aload_n 0, 1) := by decide +kernel
theorem d_Mo_sweepStep_6 : decode prog_8_method_17_code 6 = .ok (.iload_n 1, 1) := by decide +kernel
theorem d_Mo_sweepStep_7 : decode prog_8_method_17_code 7 = .ok (.invokevirtual 125, 3) := by decide +kernel
theorem d_Mo_sweepStep_10 : decode prog_8_method_17_code 10 = .ok (.istore_n 2, 1) := by decide +kernel
theorem d_Mo_sweepStep_11 : decode prog_8_method_17_code 11 = .ok (.aload_n 0, 1) := by decide +kernel
theorem d_Mo_sweepStep_12 : decode prog_8_method_17_code 12 = .ok (.getfield 19, 3) := by decide +kernel
theorem d_Mo_sweepStep_15 : decode prog_8_method_17_code 15 = .ok (.iload_n 1, 1) := by decide +kernel
theorem d_Mo_sweepStep_16 : decode prog_8_method_17_code 16 = .ok (.baload, 1) := by decide +kernel
theorem d_Mo_sweepStep_17 : decode prog_8_method_17_code 17 = .ok (.ifCond .eq 13, 3) := by decide +kernel
theorem d_Mo_sweepStep_20 : decode prog_8_method_17_code 20 = .ok (.aload_n 0, 1) := by decide +kernel
theorem d_Mo_sweepStep_21 : decode prog_8_method_17_code 21 = .ok (.getfield 19, 3) := by decide +kernel
theorem d_Mo_sweepStep_24 : decode prog_8_method_17_code 24 = .ok (.iload_n 1, 1) := by decide +kernel
theorem d_Mo_sweepStep_25 : decode prog_8_method_17_code 25 = .ok (.iconst 0, 1) := by decide +kernel
theorem d_Mo_sweepStep_26 : decode prog_8_method_17_code 26 = .ok (.bastore, 1) := by decide +kernel
theorem d_Mo_sweepStep_27 : decode prog_8_method_17_code 27 = .ok (.goto 51, 3) := by decide +kernel
theorem d_Mo_sweepStep_30 : decode prog_8_method_17_code 30 = .ok (.aload_n 0, 1) := by decide +kernel
theorem d_Mo_sweepStep_31 : decode prog_8_method_17_code 31 = .ok (.getfield 16, 3) := by decide +kernel
theorem d_Mo_sweepStep_34 : decode prog_8_method_17_code 34 = .ok (.iload_n 1, 1) := by decide +kernel
theorem d_Mo_sweepStep_35 : decode prog_8_method_17_code 35 = .ok (.iaload, 1) := by decide +kernel
theorem d_Mo_sweepStep_36 : decode prog_8_method_17_code 36 = .ok (.ifCond .eq 42, 3) := by decide +kernel
theorem d_Mo_sweepStep_39 : decode prog_8_method_17_code 39 = .ok (.aload_n 0, 1) := by decide +kernel
theorem d_Mo_sweepStep_40 : decode prog_8_method_17_code 40 = .ok (.getfield 16, 3) := by decide +kernel
theorem d_Mo_sweepStep_43 : decode prog_8_method_17_code 43 = .ok (.iload_n 1, 1) := by decide +kernel
theorem d_Mo_sweepStep_44 : decode prog_8_method_17_code 44 = .ok (.iconst 0, 1) := by decide +kernel
theorem d_Mo_sweepStep_45 : decode prog_8_method_17_code 45 = .ok (.iastore, 1) := by decide +kernel
theorem d_Mo_sweepStep_46 : decode prog_8_method_17_code 46 = .ok (.aload_n 0, 1) := by decide +kernel
theorem d_Mo_sweepStep_47 : decode prog_8_method_17_code 47 = .ok (.dup, 1) := by decide +kernel
theorem d_Mo_sweepStep_48 : decode prog_8_method_17_code 48 = .ok (.getfield 76, 3) := by decide +kernel
theorem d_Mo_sweepStep_51 : decode prog_8_method_17_code 51 = .ok (.iconst 1, 1) := by decide +kernel
theorem d_Mo_sweepStep_52 : decode prog_8_method_17_code 52 = .ok (.iadd, 1) := by decide +kernel
theorem d_Mo_sweepStep_53 : decode prog_8_method_17_code 53 = .ok (.putfield 76, 3) := by decide +kernel
theorem d_Mo_sweepStep_56 : decode prog_8_method_17_code 56 = .ok (.iconst 0, 1) := by decide +kernel
theorem d_Mo_sweepStep_57 : decode prog_8_method_17_code 57 = .ok (.istore_n 3, 1) := by decide +kernel
theorem d_Mo_sweepStep_58 : decode prog_8_method_17_code 58 = .ok (.iload_n 3, 1) := by decide +kernel
theorem d_Mo_sweepStep_59 : decode prog_8_method_17_code 59 = .ok (.iload_n 2, 1) := by decide +kernel
theorem d_Mo_sweepStep_60 : decode prog_8_method_17_code 60 = .ok (.if_icmp .ge 18, 3) := by decide +kernel
theorem d_Mo_sweepStep_63 : decode prog_8_method_17_code 63 = .ok (.aload_n 0, 1) := by decide +kernel
theorem d_Mo_sweepStep_64 : decode prog_8_method_17_code 64 = .ok (.getfield 7, 3) := by decide +kernel
theorem d_Mo_sweepStep_67 : decode prog_8_method_17_code 67 = .ok (.iload_n 1, 1) := by decide +kernel
theorem d_Mo_sweepStep_68 : decode prog_8_method_17_code 68 = .ok (.iload_n 3, 1) := by decide +kernel
theorem d_Mo_sweepStep_69 : decode prog_8_method_17_code 69 = .ok (.iadd, 1) := by decide +kernel
theorem d_Mo_sweepStep_70 : decode prog_8_method_17_code 70 = .ok (.iconst 0, 1) := by decide +kernel
theorem d_Mo_sweepStep_71 : decode prog_8_method_17_code 71 = .ok (.iastore, 1) := by decide +kernel
theorem d_Mo_sweepStep_72 : decode prog_8_method_17_code 72 = .ok (.iinc 3 1, 3) := by decide +kernel
theorem d_Mo_sweepStep_75 : decode prog_8_method_17_code 75 = .ok (.goto (-17), 3) := by decide +kernel
theorem d_Mo_sweepStep_78 : decode prog_8_method_17_code 78 = .ok (.aload_n 0, 1) := by decide +kernel
theorem d_Mo_sweepStep_79 : decode prog_8_method_17_code 79 = .ok (.iload_n 1, 1) := by decide +kernel
theorem d_Mo_sweepStep_80 : decode prog_8_method_17_code 80 = .ok (.iload_n 2, 1) := by decide +kernel
theorem d_Mo_sweepStep_81 : decode prog_8_method_17_code 81 = .ok (.iadd, 1) := by decide +kernel
theorem d_Mo_sweepStep_82 : decode prog_8_method_17_code 82 = .ok (.putfield 67, 3) := by decide +kernel
theorem d_Mo_sweepStep_85 : decode prog_8_method_17_code 85 = .ok (.iload_n 1, 1) := by decide +kernel
theorem d_Mo_sweepStep_86 : decode prog_8_method_17_code 86 = .ok (.bipush 64, 2) := by decide +kernel
theorem d_Mo_sweepStep_88 : decode prog_8_method_17_code 88 = .ok (.idiv, 1) := by decide +kernel
theorem d_Mo_sweepStep_89 : decode prog_8_method_17_code 89 = .ok (.istore_n 3, 1) := by decide +kernel
theorem d_Mo_sweepStep_90 : decode prog_8_method_17_code 90 = .ok (.aload_n 0, 1) := by decide +kernel
theorem d_Mo_sweepStep_91 : decode prog_8_method_17_code 91 = .ok (.getfield 67, 3) := by decide +kernel
theorem d_Mo_sweepStep_94 : decode prog_8_method_17_code 94 = .ok (.bipush 64, 2) := by decide +kernel
theorem d_Mo_sweepStep_96 : decode prog_8_method_17_code 96 = .ok (.iload_n 3, 1) := by decide +kernel
theorem d_Mo_sweepStep_97 : decode prog_8_method_17_code 97 = .ok (.iconst 1, 1) := by decide +kernel
theorem d_Mo_sweepStep_98 : decode prog_8_method_17_code 98 = .ok (.iadd, 1) := by decide +kernel
theorem d_Mo_sweepStep_99 : decode prog_8_method_17_code 99 = .ok (.imul, 1) := by decide +kernel
theorem d_Mo_sweepStep_100 : decode prog_8_method_17_code 100 = .ok (.if_icmp .ne 18, 3) := by decide +kernel
theorem d_Mo_sweepStep_103 : decode prog_8_method_17_code 103 = .ok (.aload_n 0, 1) := by decide +kernel
theorem d_Mo_sweepStep_104 : decode prog_8_method_17_code 104 = .ok (.iload_n 3, 1) := by decide +kernel
theorem d_Mo_sweepStep_105 : decode prog_8_method_17_code 105 = .ok (.invokevirtual 128, 3) := by decide +kernel
theorem d_Mo_sweepStep_108 : decode prog_8_method_17_code 108 = .ok (.ifCond .ne 10, 3) := by decide +kernel
theorem d_Mo_sweepStep_111 : decode prog_8_method_17_code 111 = .ok (.aload_n 0, 1) := by decide +kernel
theorem d_Mo_sweepStep_112 : decode prog_8_method_17_code 112 = .ok (.getfield 13, 3) := by decide +kernel
theorem d_Mo_sweepStep_115 : decode prog_8_method_17_code 115 = .ok (.iload_n 3, 1) := by decide +kernel
theorem d_Mo_sweepStep_116 : decode prog_8_method_17_code 116 = .ok (.iconst (-1), 1) := by decide +kernel
theorem d_Mo_sweepStep_117 : decode prog_8_method_17_code 117 = .ok (.iastore, 1) := by decide +kernel
theorem d_Mo_sweepStep_118 : decode prog_8_method_17_code 118 = .ok (.return_, 1) := by decide +kernel
noncomputable def F_Mo_sweepStep_58 (K : zM → Prop) (n : Nat) : Int32 → Int32 → Int32 → zM → Prop := Nat.rec (motive := fun _ => Int32 → Int32 → Int32 → zM → Prop) (fun _ _ _ _ => False) (fun _ ih x1 x2 x3 μ => (x2 ≤ x3 → (∀ μ21 : zM, μ21 = zp μ 19 17 (x1 + x2) → (∀ x22 : Int32, x22 = (x1 / (64 : Int32)) → ((¬ (μ21 19 17) = ((64 : Int32) * (x22 + (1 : Int32))) → (K μ21)) ∧ ((μ21 19 17) = ((64 : Int32) * (x22 + (1 : Int32))) → (f_Mo_holding μ21 x22 (fun r25 μ24 => ((¬ r25 = 0 → (K μ24)) ∧ (r25 = 0 → (vp_in x22 64 ∧ ∀ μ28 : zM, μ28 = zp μ24 21 x22.toNatClampNeg (-1 : Int32) → (K μ28))))))))))) ∧ (¬ x2 ≤ x3 → (vp_in (x1 + x3) 4096 ∧ ∀ μ30 : zM, μ30 = zp μ 20 (x1 + x3).toNatClampNeg (0 : Int32) → (∀ x31 : Int32, x31 = x3 + 1 → (ih x1 x2 x31 μ30))))) n
def f_Mo_sweepStep (μ : zM) (K : zM → Prop) : Prop := f_Mo_nextBlock μ (fun r2 μ1 => (f_Mo_sizeAt μ1 r2 (fun r4 μ3 => (vp_in r2 4096 ∧ (((μ3 23 r2.toNatClampNeg) = 0 → (vp_in r2 4096 ∧ (((μ3 22 r2.toNatClampNeg) = 0 → (∀ μ9 : zM, μ9 = zp μ3 19 17 (r2 + r4) → (∀ x10 : Int32, x10 = (r2 / (64 : Int32)) → ((¬ (μ9 19 17) = ((64 : Int32) * (x10 + (1 : Int32))) → (K μ9)) ∧ ((μ9 19 17) = ((64 : Int32) * (x10 + (1 : Int32))) → (f_Mo_holding μ9 x10 (fun r13 μ12 => ((¬ r13 = 0 → (K μ12)) ∧ (r13 = 0 → (vp_in x10 64 ∧ ∀ μ16 : zM, μ16 = zp μ12 21 x10.toNatClampNeg (-1 : Int32) → (K μ16))))))))))) ∧ (¬ (μ3 22 r2.toNatClampNeg) = 0 → (vp_in r2 4096 ∧ ∀ μ18 : zM, μ18 = zp μ3 22 r2.toNatClampNeg (0 : Int32) → (∀ μ19 : zM, μ19 = zp μ18 19 20 ((μ18 19 20) + (1 : Int32)) → (∃ n : Nat, F_Mo_sweepStep_58 K n r2 r4 (0 : Int32) μ19))))))) ∧ (¬ (μ3 23 r2.toNatClampNeg) = 0 → (vp_in r2 4096 ∧ ∀ μ33 : zM, μ33 = zp μ3 23 r2.toNatClampNeg (vp_nar .boolean (0 : Int32)) → (∀ μ34 : zM, μ34 = zp μ33 19 17 (r2 + r4) → (∀ x35 : Int32, x35 = (r2 / (64 : Int32)) → ((¬ (μ34 19 17) = ((64 : Int32) * (x35 + (1 : Int32))) → (K μ34)) ∧ ((μ34 19 17) = ((64 : Int32) * (x35 + (1 : Int32))) → (f_Mo_holding μ34 x35 (fun r38 μ37 => ((¬ r38 = 0 → (K μ37)) ∧ (r38 = 0 → (vp_in x35 64 ∧ ∀ μ41 : zM, μ41 = zp μ37 21 x35.toNatClampNeg (-1 : Int32) → (K μ41)))))))))))))))))
set_option maxHeartbeats 4000000 in
set_option maxRecDepth 100000 in
theorem L_Mo_sweepStep_58 {p : Program} {l : Launch} {e : Env} {s : State} {m : MethodId} {args : Array Value} {below : List Frame} {meth : Method} {c : Code} {E : zE} (X : zX E p s m args c prog_8_method_17_code "BeatHeapModel" 4) (hr : meth.sig.returnType = none) (hlk : meth.locks = false) (K : zM → Prop) : ∀ (n : Nat) (x1 x2 x3 : Int32) (μ : zM) (H : Heap) (locs : List Loc) (ls : Array Slot), F_Mo_sweepStep_58 K n x1 x2 x3 μ → zW zwM E s μ H locs → lv_has ls 4 [(0, .ref (E.2.1 19)), (1, .int x1), (2, .int x2), (3, .int x3)] → W p l e { frames := 2, cells := 0, slots := 0, locals := 41 } s m args below meth c H locs 0 0 (MQ below (va_Qv K (zR zwM E) (zA E)) args s 0 0 (zA E)) (F0 m 58 ls []) := by
  have hx := X.1
  have hb := X.2.1
  intro n
  induction n with
  | zero => intro x1 x2 x3 μ H locs ls h; exact False.elim h
  | succ n ih =>
    intro x1 x2 x3 μ H locs ls h w hl
    refine lv_iload_n hx hb d_Mo_sweepStep_58 rfl (lv_at hl 3 rfl) ?_
    refine lv_iload_n hx hb d_Mo_sweepStep_59 rfl (lv_at hl 2 rfl) ?_
    refine lv_icmp_ge (tgt := 78) hx hb d_Mo_sweepStep_60 (by decide) (fun c20 => ?_) (fun c20 => ?_)
    · have h := h.1 c20
      refine lv_aload_n hx hb d_Mo_sweepStep_78 rfl (lv_at hl 0 rfl) ?_
      refine lv_iload_n hx hb d_Mo_sweepStep_79 rfl (lv_at hl 1 rfl) ?_
      refine lv_iload_n hx hb d_Mo_sweepStep_80 rfl (lv_at hl 2 rfl) ?_
      refine lv_iadd hx hb d_Mo_sweepStep_81 ?_
      refine pt_19_17 X w w_fl_Mo_67 d_Mo_sweepStep_82 (fun μ21 H locs eμ21 w => ?_)
      have h := h μ21 eμ21
      refine lv_iload_n hx hb d_Mo_sweepStep_85 rfl (lv_at hl 1 rfl) ?_
      refine lv_bipush (v := 64) hx hb d_Mo_sweepStep_86 (by decide) ?_
      refine lv_idiv hx hb d_Mo_sweepStep_88 (by decide) ?_
      refine lv_topi (fun x22 ex22 => ?_)
      have h := h x22 ex22
      refine lv_istore_n (lv' := [(3, .int x22), (0, .ref (E.2.1 19)), (1, .int x1), (2, .int x2)]) hx hb d_Mo_sweepStep_89 rfl hl (by decide) rfl (fun ls hl => ?_)
      refine lv_aload_n hx hb d_Mo_sweepStep_90 rfl (lv_at hl 1 rfl) ?_
      refine gt_19_17 X w w_fl_Mo_67 d_Mo_sweepStep_91 ?_
      refine lv_bipush (v := 64) hx hb d_Mo_sweepStep_94 (by decide) ?_
      refine lv_iload_n hx hb d_Mo_sweepStep_96 rfl (lv_at hl 0 rfl) ?_
      refine lv_iconst (v := 1) hx hb d_Mo_sweepStep_97 (by decide) ?_
      refine lv_iadd hx hb d_Mo_sweepStep_98 ?_
      refine lv_imul hx hb d_Mo_sweepStep_99 ?_
      refine lv_icmp_ne (tgt := 118) hx hb d_Mo_sweepStep_100 (by decide) (fun c23 => ?_) (fun c23 => ?_)
      · have h := h.1 c23
        exact z_vret X hr hlk w h d_Mo_sweepStep_118
      · have h := h.2 c23
        refine lv_aload_n hx hb d_Mo_sweepStep_103 rfl (lv_at hl 1 rfl) ?_
        refine lv_iload_n hx hb d_Mo_sweepStep_104 rfl (lv_at hl 0 rfl) ?_
        refine z_cVi (As := [.int x22]) (rest := []) (q0 := 0) (ci := 6) X w (c_Mo_holding l E μ21 x22 _ h) rfl rfl rfl w_ml_Mo_128 ⟨w_im_Mo_holding, w_se_Mo_holding⟩ w_in_Mo w_co_Mo_holding q_Mo_holding.1 q_Mo_holding.2 rfl ⟨Nat.le_of_ble_eq_true rfl, Nat.le_of_ble_eq_true rfl⟩ ⟨Nat.zero_le _, Nat.zero_le _⟩ hl.1 rfl (Nat.le_of_ble_eq_true rfl) d_Mo_sweepStep_105 (fun r25 μ24 H locs h w => ?_)
        refine lv_if_ne (tgt := 118) hx hb d_Mo_sweepStep_108 (by decide) (fun c26 => ?_) (fun c26 => ?_)
        · have h := h.1 c26
          exact z_vret X hr hlk w h d_Mo_sweepStep_118
        · have h := h.2 c26
          refine lv_aload_n hx hb d_Mo_sweepStep_111 rfl (lv_at hl 1 rfl) ?_
          refine gt_19_5 X w w_fl_Mo_13 d_Mo_sweepStep_112 ?_
          refine lv_iload_n hx hb d_Mo_sweepStep_115 rfl (lv_at hl 0 rfl) ?_
          refine lv_iconst (v := (-1)) hx hb d_Mo_sweepStep_116 (by decide) ?_
          obtain ⟨hi27, h⟩ := h
          refine as_21 X w hi27 d_Mo_sweepStep_117 (fun μ28 H locs eμ28 w => ?_)
          have h := h μ28 eμ28
          exact z_vret X hr hlk w h d_Mo_sweepStep_118
    · have h := h.2 c20
      refine lv_aload_n hx hb d_Mo_sweepStep_63 rfl (lv_at hl 0 rfl) ?_
      refine gt_19_4 X w w_fl_Mo_7 d_Mo_sweepStep_64 ?_
      refine lv_iload_n hx hb d_Mo_sweepStep_67 rfl (lv_at hl 1 rfl) ?_
      refine lv_iload_n hx hb d_Mo_sweepStep_68 rfl (lv_at hl 3 rfl) ?_
      refine lv_iadd hx hb d_Mo_sweepStep_69 ?_
      refine lv_iconst (v := 0) hx hb d_Mo_sweepStep_70 (by decide) ?_
      obtain ⟨hi29, h⟩ := h
      refine as_20 X w hi29 d_Mo_sweepStep_71 (fun μ30 H locs eμ30 w => ?_)
      have h := h μ30 eμ30
      obtain ⟨x31, ex31⟩ : ∃ y : Int32, y = x3 + 1 := ⟨_, rfl⟩
      have h := h x31 ex31
      refine lv_iinc (v := x31) (lv' := [(3, .int x31), (0, .ref (E.2.1 19)), (1, .int x1), (2, .int x2)]) hx hb d_Mo_sweepStep_72 hl (k := 3) rfl (by rw [ex31]; rfl) (by decide) rfl (fun ls hl => ?_)
      refine lv_goto (tgt := 58) hx hb d_Mo_sweepStep_75 (by decide) ?_
      exact ih x1 x2 x31 μ30 _ _ _ h w (lv_sub hl [1, 2, 3, 0] rfl)

set_option maxHeartbeats 4000000 in
set_option maxRecDepth 100000 in
theorem c_Mo_sweepStep (l : Launch) (E : zE) (μ : zM) (K : zM → Prop) (h : f_Mo_sweepStep μ K) : Met l y_Mo_sweepStep (Cond.code y_Mo_sweepStep prog_8_method_17_code 4 none :: zT) { frames := 2, cells := 0, slots := 0, locals := 41 } (va_Pc [.ref (E.2.1 19)] (zR zwM E μ)) (va_Qv K (zR zwM E) (zA E)) 0 0 (zA E) := by
  refine z_head (by decide) (Nat.le_of_ble_eq_true rfl) ?_
  intro p e s m below meth c X hr hlk w ls hl
  have X : zX E p s m _ c prog_8_method_17_code "BeatHeapModel" 4 := X
  have hx := X.1
  have hb := X.2.1
  have hl : lv_has ls 4 [(0, .ref (E.2.1 19))] := hl
  unfold f_Mo_sweepStep at h
  refine lv_aload_n hx hb d_Mo_sweepStep_0 rfl (lv_at hl 0 rfl) ?_
  refine z_cVi (As := []) (rest := []) (q0 := 0) (ci := 6) X w (c_Mo_nextBlock l E μ _ h) rfl rfl rfl w_ml_Mo_119 ⟨w_im_Mo_nextBlock, w_se_Mo_nextBlock⟩ w_in_Mo w_co_Mo_nextBlock q_Mo_nextBlock.1 q_Mo_nextBlock.2 rfl ⟨Nat.le_of_ble_eq_true rfl, Nat.le_of_ble_eq_true rfl⟩ ⟨Nat.zero_le _, Nat.zero_le _⟩ hl.1 rfl (Nat.le_of_ble_eq_true rfl) d_Mo_sweepStep_1 (fun r2 μ1 H locs h w => ?_)
  refine lv_istore_n (lv' := [(1, .int r2), (0, .ref (E.2.1 19))]) hx hb d_Mo_sweepStep_4 rfl hl (by decide) rfl (fun ls hl => ?_)
  refine lv_aload_n hx hb d_Mo_sweepStep_5 rfl (lv_at hl 1 rfl) ?_
  refine lv_iload_n hx hb d_Mo_sweepStep_6 rfl (lv_at hl 0 rfl) ?_
  refine z_cVi (As := [.int r2]) (rest := []) (q0 := 0) (ci := 6) X w (c_Mo_sizeAt l E μ1 r2 _ h) rfl rfl rfl w_ml_Mo_125 ⟨w_im_Mo_sizeAt, w_se_Mo_sizeAt⟩ w_in_Mo w_co_Mo_sizeAt q_Mo_sizeAt.1 q_Mo_sizeAt.2 rfl ⟨Nat.le_of_ble_eq_true rfl, Nat.le_of_ble_eq_true rfl⟩ ⟨Nat.zero_le _, Nat.zero_le _⟩ hl.1 rfl (Nat.le_of_ble_eq_true rfl) d_Mo_sweepStep_7 (fun r4 μ3 H locs h w => ?_)
  refine lv_istore_n (lv' := [(2, .int r4), (1, .int r2), (0, .ref (E.2.1 19))]) hx hb d_Mo_sweepStep_10 rfl hl (by decide) rfl (fun ls hl => ?_)
  refine lv_aload_n hx hb d_Mo_sweepStep_11 rfl (lv_at hl 2 rfl) ?_
  refine gt_19_7 X w w_fl_Mo_19 d_Mo_sweepStep_12 ?_
  refine lv_iload_n hx hb d_Mo_sweepStep_15 rfl (lv_at hl 1 rfl) ?_
  obtain ⟨hi5, h⟩ := h
  refine al_23 X w hi5 d_Mo_sweepStep_16 ?_
  refine lv_if_eq (tgt := 30) hx hb d_Mo_sweepStep_17 (by decide) (fun c6 => ?_) (fun c6 => ?_)
  · have h := h.1 c6
    refine lv_aload_n hx hb d_Mo_sweepStep_30 rfl (lv_at hl 2 rfl) ?_
    refine gt_19_6 X w w_fl_Mo_16 d_Mo_sweepStep_31 ?_
    refine lv_iload_n hx hb d_Mo_sweepStep_34 rfl (lv_at hl 1 rfl) ?_
    obtain ⟨hi7, h⟩ := h
    refine al_22 X w hi7 d_Mo_sweepStep_35 ?_
    refine lv_if_eq (tgt := 78) hx hb d_Mo_sweepStep_36 (by decide) (fun c8 => ?_) (fun c8 => ?_)
    · have h := h.1 c8
      refine lv_aload_n hx hb d_Mo_sweepStep_78 rfl (lv_at hl 2 rfl) ?_
      refine lv_iload_n hx hb d_Mo_sweepStep_79 rfl (lv_at hl 1 rfl) ?_
      refine lv_iload_n hx hb d_Mo_sweepStep_80 rfl (lv_at hl 0 rfl) ?_
      refine lv_iadd hx hb d_Mo_sweepStep_81 ?_
      refine pt_19_17 X w w_fl_Mo_67 d_Mo_sweepStep_82 (fun μ9 H locs eμ9 w => ?_)
      have h := h μ9 eμ9
      refine lv_iload_n hx hb d_Mo_sweepStep_85 rfl (lv_at hl 1 rfl) ?_
      refine lv_bipush (v := 64) hx hb d_Mo_sweepStep_86 (by decide) ?_
      refine lv_idiv hx hb d_Mo_sweepStep_88 (by decide) ?_
      refine lv_topi (fun x10 ex10 => ?_)
      have h := h x10 ex10
      refine lv_istore_n (lv' := [(3, .int x10), (2, .int r4), (1, .int r2), (0, .ref (E.2.1 19))]) hx hb d_Mo_sweepStep_89 rfl hl (by decide) rfl (fun ls hl => ?_)
      refine lv_aload_n hx hb d_Mo_sweepStep_90 rfl (lv_at hl 3 rfl) ?_
      refine gt_19_17 X w w_fl_Mo_67 d_Mo_sweepStep_91 ?_
      refine lv_bipush (v := 64) hx hb d_Mo_sweepStep_94 (by decide) ?_
      refine lv_iload_n hx hb d_Mo_sweepStep_96 rfl (lv_at hl 0 rfl) ?_
      refine lv_iconst (v := 1) hx hb d_Mo_sweepStep_97 (by decide) ?_
      refine lv_iadd hx hb d_Mo_sweepStep_98 ?_
      refine lv_imul hx hb d_Mo_sweepStep_99 ?_
      refine lv_icmp_ne (tgt := 118) hx hb d_Mo_sweepStep_100 (by decide) (fun c11 => ?_) (fun c11 => ?_)
      · have h := h.1 c11
        exact z_vret X hr hlk w h d_Mo_sweepStep_118
      · have h := h.2 c11
        refine lv_aload_n hx hb d_Mo_sweepStep_103 rfl (lv_at hl 3 rfl) ?_
        refine lv_iload_n hx hb d_Mo_sweepStep_104 rfl (lv_at hl 0 rfl) ?_
        refine z_cVi (As := [.int x10]) (rest := []) (q0 := 0) (ci := 6) X w (c_Mo_holding l E μ9 x10 _ h) rfl rfl rfl w_ml_Mo_128 ⟨w_im_Mo_holding, w_se_Mo_holding⟩ w_in_Mo w_co_Mo_holding q_Mo_holding.1 q_Mo_holding.2 rfl ⟨Nat.le_of_ble_eq_true rfl, Nat.le_of_ble_eq_true rfl⟩ ⟨Nat.zero_le _, Nat.zero_le _⟩ hl.1 rfl (Nat.le_of_ble_eq_true rfl) d_Mo_sweepStep_105 (fun r13 μ12 H locs h w => ?_)
        refine lv_if_ne (tgt := 118) hx hb d_Mo_sweepStep_108 (by decide) (fun c14 => ?_) (fun c14 => ?_)
        · have h := h.1 c14
          exact z_vret X hr hlk w h d_Mo_sweepStep_118
        · have h := h.2 c14
          refine lv_aload_n hx hb d_Mo_sweepStep_111 rfl (lv_at hl 3 rfl) ?_
          refine gt_19_5 X w w_fl_Mo_13 d_Mo_sweepStep_112 ?_
          refine lv_iload_n hx hb d_Mo_sweepStep_115 rfl (lv_at hl 0 rfl) ?_
          refine lv_iconst (v := (-1)) hx hb d_Mo_sweepStep_116 (by decide) ?_
          obtain ⟨hi15, h⟩ := h
          refine as_21 X w hi15 d_Mo_sweepStep_117 (fun μ16 H locs eμ16 w => ?_)
          have h := h μ16 eμ16
          exact z_vret X hr hlk w h d_Mo_sweepStep_118
    · have h := h.2 c8
      refine lv_aload_n hx hb d_Mo_sweepStep_39 rfl (lv_at hl 2 rfl) ?_
      refine gt_19_6 X w w_fl_Mo_16 d_Mo_sweepStep_40 ?_
      refine lv_iload_n hx hb d_Mo_sweepStep_43 rfl (lv_at hl 1 rfl) ?_
      refine lv_iconst (v := 0) hx hb d_Mo_sweepStep_44 (by decide) ?_
      obtain ⟨hi17, h⟩ := h
      refine as_22 X w hi17 d_Mo_sweepStep_45 (fun μ18 H locs eμ18 w => ?_)
      have h := h μ18 eμ18
      refine lv_aload_n hx hb d_Mo_sweepStep_46 rfl (lv_at hl 2 rfl) ?_
      refine lv_dup hx hb d_Mo_sweepStep_47 rfl ?_
      refine gt_19_20 X w w_fl_Mo_76 d_Mo_sweepStep_48 ?_
      refine lv_iconst (v := 1) hx hb d_Mo_sweepStep_51 (by decide) ?_
      refine lv_iadd hx hb d_Mo_sweepStep_52 ?_
      refine pt_19_20 X w w_fl_Mo_76 d_Mo_sweepStep_53 (fun μ19 H locs eμ19 w => ?_)
      have h := h μ19 eμ19
      refine lv_iconst (v := 0) hx hb d_Mo_sweepStep_56 (by decide) ?_
      refine lv_istore_n (lv' := [(3, .int (0 : Int32)), (2, .int r4), (1, .int r2), (0, .ref (E.2.1 19))]) hx hb d_Mo_sweepStep_57 rfl hl (by decide) rfl (fun ls hl => ?_)
      obtain ⟨n, h⟩ := h
      exact L_Mo_sweepStep_58 X hr hlk K n r2 r4 (0 : Int32) μ19 _ _ _ h w (lv_sub hl [3, 2, 1, 0] rfl)
  · have h := h.2 c6
    refine lv_aload_n hx hb d_Mo_sweepStep_20 rfl (lv_at hl 2 rfl) ?_
    refine gt_19_7 X w w_fl_Mo_19 d_Mo_sweepStep_21 ?_
    refine lv_iload_n hx hb d_Mo_sweepStep_24 rfl (lv_at hl 1 rfl) ?_
    refine lv_iconst (v := 0) hx hb d_Mo_sweepStep_25 (by decide) ?_
    obtain ⟨hi32, h⟩ := h
    refine as_23 X w hi32 d_Mo_sweepStep_26 (fun μ33 H locs eμ33 w => ?_)
    have h := h μ33 eμ33
    refine lv_goto (tgt := 78) hx hb d_Mo_sweepStep_27 (by decide) ?_
    refine lv_aload_n hx hb d_Mo_sweepStep_78 rfl (lv_at hl 2 rfl) ?_
    refine lv_iload_n hx hb d_Mo_sweepStep_79 rfl (lv_at hl 1 rfl) ?_
    refine lv_iload_n hx hb d_Mo_sweepStep_80 rfl (lv_at hl 0 rfl) ?_
    refine lv_iadd hx hb d_Mo_sweepStep_81 ?_
    refine pt_19_17 X w w_fl_Mo_67 d_Mo_sweepStep_82 (fun μ34 H locs eμ34 w => ?_)
    have h := h μ34 eμ34
    refine lv_iload_n hx hb d_Mo_sweepStep_85 rfl (lv_at hl 1 rfl) ?_
    refine lv_bipush (v := 64) hx hb d_Mo_sweepStep_86 (by decide) ?_
    refine lv_idiv hx hb d_Mo_sweepStep_88 (by decide) ?_
    refine lv_topi (fun x35 ex35 => ?_)
    have h := h x35 ex35
    refine lv_istore_n (lv' := [(3, .int x35), (2, .int r4), (1, .int r2), (0, .ref (E.2.1 19))]) hx hb d_Mo_sweepStep_89 rfl hl (by decide) rfl (fun ls hl => ?_)
    refine lv_aload_n hx hb d_Mo_sweepStep_90 rfl (lv_at hl 3 rfl) ?_
    refine gt_19_17 X w w_fl_Mo_67 d_Mo_sweepStep_91 ?_
    refine lv_bipush (v := 64) hx hb d_Mo_sweepStep_94 (by decide) ?_
    refine lv_iload_n hx hb d_Mo_sweepStep_96 rfl (lv_at hl 0 rfl) ?_
    refine lv_iconst (v := 1) hx hb d_Mo_sweepStep_97 (by decide) ?_
    refine lv_iadd hx hb d_Mo_sweepStep_98 ?_
    refine lv_imul hx hb d_Mo_sweepStep_99 ?_
    refine lv_icmp_ne (tgt := 118) hx hb d_Mo_sweepStep_100 (by decide) (fun c36 => ?_) (fun c36 => ?_)
    · have h := h.1 c36
      exact z_vret X hr hlk w h d_Mo_sweepStep_118
    · have h := h.2 c36
      refine lv_aload_n hx hb d_Mo_sweepStep_103 rfl (lv_at hl 3 rfl) ?_
      refine lv_iload_n hx hb d_Mo_sweepStep_104 rfl (lv_at hl 0 rfl) ?_
      refine z_cVi (As := [.int x35]) (rest := []) (q0 := 0) (ci := 6) X w (c_Mo_holding l E μ34 x35 _ h) rfl rfl rfl w_ml_Mo_128 ⟨w_im_Mo_holding, w_se_Mo_holding⟩ w_in_Mo w_co_Mo_holding q_Mo_holding.1 q_Mo_holding.2 rfl ⟨Nat.le_of_ble_eq_true rfl, Nat.le_of_ble_eq_true rfl⟩ ⟨Nat.zero_le _, Nat.zero_le _⟩ hl.1 rfl (Nat.le_of_ble_eq_true rfl) d_Mo_sweepStep_105 (fun r38 μ37 H locs h w => ?_)
      refine lv_if_ne (tgt := 118) hx hb d_Mo_sweepStep_108 (by decide) (fun c39 => ?_) (fun c39 => ?_)
      · have h := h.1 c39
        exact z_vret X hr hlk w h d_Mo_sweepStep_118
      · have h := h.2 c39
        refine lv_aload_n hx hb d_Mo_sweepStep_111 rfl (lv_at hl 3 rfl) ?_
        refine gt_19_5 X w w_fl_Mo_13 d_Mo_sweepStep_112 ?_
        refine lv_iload_n hx hb d_Mo_sweepStep_115 rfl (lv_at hl 0 rfl) ?_
        refine lv_iconst (v := (-1)) hx hb d_Mo_sweepStep_116 (by decide) ?_
        obtain ⟨hi40, h⟩ := h
        refine as_21 X w hi40 d_Mo_sweepStep_117 (fun μ41 H locs eμ41 w => ?_)
        have h := h μ41 eμ41
        exact z_vret X hr hlk w h d_Mo_sweepStep_118
