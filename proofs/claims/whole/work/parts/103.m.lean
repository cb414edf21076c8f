theorem q_Bh_takeForRoot : (y_Bh_takeForRoot.cls ≠ "java/lang/invoke/MethodHandle" ∧ y_Bh_takeForRoot.cls ≠ "java/lang/invoke/VarHandle") ∧ (parseMethodDescriptor y_Bh_takeForRoot.desc).map (fun d => d.parameters.length) = some 5 := by decide +kernel
theorem d_Bh_takeForRoot_0 : decode prog_1_method_29_code 0 = .ok (.aload_n 0, 1) := by decide +kernel
theorem d_Bh_takeForRoot_1 : decode prog_1_method_29_code 1 = .ok (.iload_n 2, 1) := by decide +kernel
theorem d_Bh_takeForRoot_2 : decode prog_1_method_29_code 2 = .ok (.iload_n 3, 1) := by decide +kernel
theorem d_Bh_takeForRoot_3 : decode prog_1_method_29_code 3 = .ok (.iload 4, 2) := by decide +kernel
theorem d_Bh_takeForRoot_5 : decode prog_1_method_29_code 5 = .ok (.iload 5, 2) := by decide +kernel
theorem d_Bh_takeForRoot_7 : decode prog_1_method_29_code 7 = .ok (.invokevirtual 189, 3) := by decide +kernel
theorem d_Bh_takeForRoot_10 : decode prog_1_method_29_code 10 = .ok (.istore 6, 2) := by decide +kernel
theorem d_Bh_takeForRoot_12 : decode prog_1_method_29_code 12 = .ok (.iload 6, 2) := by decide +kernel
theorem d_Bh_takeForRoot_14 : decode prog_1_method_29_code 14 = .ok (.iconst (-1), 1) := by decide +kernel
theorem d_Bh_takeForRoot_15 : decode prog_1_method_29_code 15 = .ok (.if_icmp .ne 13, 3) := by decide +kernel
theorem d_Bh_takeForRoot_18 : decode prog_1_method_29_code 18 = .ok (.aload_n 0, 1) := by decide +kernel
theorem d_Bh_takeForRoot_19 : decode prog_1_method_29_code 19 = .ok (.getfield 12, 3) := by decide +kernel
theorem d_Bh_takeForRoot_22 : decode prog_1_method_29_code 22 = .ok (.invokevirtual 100, 3) := by decide +kernel
theorem d_Bh_takeForRoot_25 : decode prog_1_method_29_code 25 = .ok (.pop, 1) := by decide +kernel
theorem d_Bh_takeForRoot_26 : decode prog_1_method_29_code 26 = .ok (.iconst 0, 1) := by decide +kernel
theorem d_Bh_takeForRoot_27 : decode prog_1_method_29_code 27 = .ok (.ireturn, 1) := by decide +kernel
theorem d_Bh_takeForRoot_28 : decode prog_1_method_29_code 28 = .ok (.aload_n 0, 1) := by decide +kernel
theorem d_Bh_takeForRoot_29 : decode prog_1_method_29_code 29 = .ok (.iload_n 1, 1) := by decide +kernel
theorem d_Bh_takeForRoot_30 : decode prog_1_method_29_code 30 = .ok (.iload 6, 2) := by decide +kernel
theorem d_Bh_takeForRoot_32 : decode prog_1_method_29_code 32 = .ok (.invokevirtual 97, 3) := by decide +kernel
theorem d_Bh_takeForRoot_35 : decode prog_1_method_29_code 35 = .ok (.iconst 1, 1) := by decide +kernel
theorem d_Bh_takeForRoot_36 : decode prog_1_method_29_code 36 = .ok (.ireturn, 1) := by decide +kernel
def f_Bh_takeForRoot (μ : zM) (a1 a2 a3 a4 a5 : Int32) (K : Int32 → zM → Prop) : Prop := f_Bh_takeBlock μ a2 a3 a4 a5 (fun r2 μ1 => ((¬ r2 = (-1 : Int32) → (f_Bh_setRoot μ1 a1 r2 (fun μ4 => (K (1 : Int32) μ4)))) ∧ (r2 = (-1 : Int32) → (f_Co_beginCycle μ1 (fun r6 μ5 => (K (0 : Int32) μ5))))))
set_option maxHeartbeats 4000000 in
set_option maxRecDepth 100000 in
theorem c_Bh_takeForRoot (l : Launch) (E : zE) (μ : zM) (a1 a2 a3 a4 a5 : Int32) (K : Int32 → zM → Prop) (h : f_Bh_takeForRoot μ a1 a2 a3 a4 a5 K) : Met l y_Bh_takeForRoot (Cond.code y_Bh_takeForRoot prog_1_method_29_code 7 (some .boolean) :: zT) { frames := 5, cells := 0, slots := 0, locals := 116 } (va_Pc [.ref (E.2.1 0), .int a1, .int a2, .int a3, .int a4, .int a5] (zR zwC E μ)) (va_Qi K (zR zwC E) (zA E)) 0 0 (zA E) := by
  refine z_head (by decide) (Nat.le_of_ble_eq_true rfl) ?_
  intro p e s m below meth c X hr hlk w ls hl
  have X : zX E p s m _ c prog_1_method_29_code "BeatHeap" 7 := X
  have hx := X.1
  have hb := X.2.1
  have hl : lv_has ls 7 [(0, .ref (E.2.1 0)), (1, .int a1), (2, .int a2), (3, .int a3), (4, .int a4), (5, .int a5)] := hl
  unfold f_Bh_takeForRoot at h
  refine lv_aload_n hx hb d_Bh_takeForRoot_0 rfl (lv_at hl 0 rfl) ?_
  refine lv_iload_n hx hb d_Bh_takeForRoot_1 rfl (lv_at hl 2 rfl) ?_
  refine lv_iload_n hx hb d_Bh_takeForRoot_2 rfl (lv_at hl 3 rfl) ?_
  refine lv_iload hx hb d_Bh_takeForRoot_3 (lv_at hl 4 rfl) ?_
  refine lv_iload hx hb d_Bh_takeForRoot_5 (lv_at hl 5 rfl) ?_
  refine z_cVi (As := [.int a2, .int a3, .int a4, .int a5]) (rest := []) (q0 := 0) (ci := 5) X w (c_Bh_takeBlock l E μ a2 a3 a4 a5 _ h) rfl rfl rfl w_ml_Bh_189 ⟨w_im_Bh_takeBlock, w_se_Bh_takeBlock⟩ w_in_Bh w_co_Bh_takeBlock q_Bh_takeBlock.1 q_Bh_takeBlock.2 rfl ⟨Nat.le_of_ble_eq_true rfl, Nat.le_of_ble_eq_true rfl⟩ ⟨Nat.zero_le _, Nat.zero_le _⟩ hl.1 rfl (Nat.le_of_ble_eq_true rfl) d_Bh_takeForRoot_7 (fun r2 μ1 H locs h w => ?_)
  refine lv_istore (lv' := [(6, .int r2), (0, .ref (E.2.1 0)), (1, .int a1), (2, .int a2), (3, .int a3), (4, .int a4), (5, .int a5)]) hx hb d_Bh_takeForRoot_10 hl (by decide) rfl (fun ls hl => ?_)
  refine lv_iload hx hb d_Bh_takeForRoot_12 (lv_at hl 0 rfl) ?_
  refine lv_iconst (v := (-1)) hx hb d_Bh_takeForRoot_14 (by decide) ?_
  refine lv_icmp_ne (tgt := 28) hx hb d_Bh_takeForRoot_15 (by decide) (fun c3 => ?_) (fun c3 => ?_)
  · have h := h.1 c3
    refine lv_aload_n hx hb d_Bh_takeForRoot_28 rfl (lv_at hl 1 rfl) ?_
    refine lv_iload_n hx hb d_Bh_takeForRoot_29 rfl (lv_at hl 2 rfl) ?_
    refine lv_iload hx hb d_Bh_takeForRoot_30 (lv_at hl 0 rfl) ?_
    refine z_cVv (As := [.int a1, .int r2]) (rest := []) (q0 := 0) (ci := 5) X w (c_Bh_setRoot l E μ1 a1 r2 _ h) rfl rfl rfl w_ml_Bh_97 ⟨w_im_Bh_setRoot, w_se_Bh_setRoot⟩ w_in_Bh w_co_Bh_setRoot q_Bh_setRoot.1 q_Bh_setRoot.2 rfl ⟨Nat.le_of_ble_eq_true rfl, Nat.le_of_ble_eq_true rfl⟩ ⟨Nat.zero_le _, Nat.zero_le _⟩ hl.1 rfl (Nat.le_of_ble_eq_true rfl) d_Bh_takeForRoot_32 (fun μ4 H locs h w => ?_)
    refine lv_iconst (v := 1) hx hb d_Bh_takeForRoot_35 (by decide) ?_
    exact z_zret X hr hlk w (by decide) h d_Bh_takeForRoot_36
  · have h := h.2 c3
    refine lv_aload_n hx hb d_Bh_takeForRoot_18 rfl (lv_at hl 1 rfl) ?_
    refine gt_0_0 X w w_fl_Bh_12 d_Bh_takeForRoot_19 ?_
    refine z_cVi (As := []) (rest := []) (q0 := 1) (ci := 2) X w (c_Co_beginCycle l E μ1 _ h) rfl rfl rfl w_ml_Bh_100 ⟨w_im_Co_beginCycle, w_se_Co_beginCycle⟩ w_in_Co w_co_Co_beginCycle q_Co_beginCycle.1 q_Co_beginCycle.2 rfl ⟨Nat.le_of_ble_eq_true rfl, Nat.le_of_ble_eq_true rfl⟩ ⟨Nat.zero_le _, Nat.zero_le _⟩ hl.1 rfl (Nat.le_of_ble_eq_true rfl) d_Bh_takeForRoot_22 (fun r6 μ5 H locs h w => ?_)
    refine lv_pop hx hb d_Bh_takeForRoot_25 rfl ?_
    refine lv_iconst (v := 0) hx hb d_Bh_takeForRoot_26 (by decide) ?_
    exact z_zret X hr hlk w (by decide) h d_Bh_takeForRoot_27
theorem q_Bh_takeTicks : (y_Bh_takeTicks.cls ≠ "java/lang/invoke/MethodHandle" ∧ y_Bh_takeTicks.cls ≠ "java/lang/invoke/VarHandle") ∧ (parseMethodDescriptor y_Bh_takeTicks.desc).map (fun d => d.parameters.length) = some 1 := by decide +kernel
theorem d_Bh_takeTicks_0 : decode prog_1_method_24_code 0 = .ok (.iload_n 0, 1) := by decide +kernel
theorem d_Bh_takeTicks_1 : decode prog_1_method_24_code 1 = .ok (.invokestatic 169, 3) := by decide +kernel
theorem d_Bh_takeTicks_4 : decode prog_1_method_24_code 4 = .ok (.ifCond .eq 11, 3) := by decide +kernel
theorem d_Bh_takeTicks_7 : decode prog_1_method_24_code 7 = .ok (.getstatic 172, 3) := by decide +kernel
theorem d_Bh_takeTicks_10 : decode prog_1_method_24_code 10 = .ok (.iload_n 0, 1) := by decide +kernel
theorem d_Bh_takeTicks_11 : decode prog_1_method_24_code 11 = .ok (.iaload, 1) := by decide +kernel
theorem d_Bh_takeTicks_12 : decode prog_1_method_24_code 12 = .ok (.goto 4, 3) := by decide +kernel
theorem d_Bh_takeTicks_15 : decode prog_1_method_24_code 15 = .ok (.iconst 0, 1) := by decide +kernel
theorem d_Bh_takeTicks_16 : decode prog_1_method_24_code 16 = .ok (.ireturn, 1) := by decide +kernel
def f_Bh_takeTicks (μ : zM) (a0 : Int32) (K : Int32 → zM → Prop) : Prop := f_Bh_isClass μ a0 (fun r2 μ1 => ((r2 = 0 → (K (0 : Int32) μ1)) ∧ (¬ r2 = 0 → (vp_in a0 4 ∧ (K (zb2 a0.toNatClampNeg) μ1)))))
set_option maxHeartbeats 4000000 in
set_option maxRecDepth 100000 in
theorem c_Bh_takeTicks (l : Launch) (E : zE) (μ : zM) (a0 : Int32) (K : Int32 → zM → Prop) (h : f_Bh_takeTicks μ a0 K) : Met l y_Bh_takeTicks (Cond.code y_Bh_takeTicks prog_1_method_24_code 1 (some .int) :: zT) { frames := 1, cells := 0, slots := 0, locals := 20 } (va_Pc [.int a0] (zR zwC E μ)) (va_Qi K (zR zwC E) (zA E)) 0 0 (zA E) := by
  refine z_head (by decide) (Nat.le_of_ble_eq_true rfl) ?_
  intro p e s m below meth c X hr hlk w ls hl
  have X : zX E p s m _ c prog_1_method_24_code "BeatHeap" 1 := X
  have hx := X.1
  have hb := X.2.1
  have hl : lv_has ls 1 [(0, .int a0)] := hl
  unfold f_Bh_takeTicks at h
  refine lv_iload_n hx hb d_Bh_takeTicks_0 rfl (lv_at hl 0 rfl) ?_
  refine z_cSi (As := [.int a0]) (rest := []) X w (c_Bh_isClass l E μ a0 _ h) w_ml_Bh_169 w_st_Bh_isClass w_in_Bh w_co_Bh_isClass q_Bh_isClass.1 q_Bh_isClass.2 rfl ⟨Nat.le_of_ble_eq_true rfl, Nat.le_of_ble_eq_true rfl⟩ ⟨Nat.zero_le _, Nat.zero_le _⟩ hl.1 rfl (Nat.le_of_ble_eq_true rfl) d_Bh_takeTicks_1 (fun r2 μ1 H locs h w => ?_)
  refine lv_if_eq (tgt := 15) hx hb d_Bh_takeTicks_4 (by decide) (fun c3 => ?_) (fun c3 => ?_)
  · have h := h.1 c3
    refine lv_iconst (v := 0) hx hb d_Bh_takeTicks_15 (by decide) ?_
    exact z_iret X hr hlk w h d_Bh_takeTicks_16
  · have h := h.2 c3
    refine sg_2 X w w_fl_Bh_172 d_Bh_takeTicks_7 ?_
    refine lv_iload_n hx hb d_Bh_takeTicks_10 rfl (lv_at hl 0 rfl) ?_
    obtain ⟨hi4, h⟩ := h
    refine sl_2 X w hi4 d_Bh_takeTicks_11 ?_
    refine lv_goto (tgt := 16) hx hb d_Bh_takeTicks_12 (by decide) ?_
    exact z_iret X hr hlk w h d_Bh_takeTicks_16
theorem q_Ck_keep : (y_Ck_keep.cls ≠ "java/lang/invoke/MethodHandle" ∧ y_Ck_keep.cls ≠ "java/lang/invoke/VarHandle") ∧ (parseMethodDescriptor y_Ck_keep.desc).map (fun d => d.parameters.length) = some 1 := by decide +kernel
theorem d_Ck_keep_0 : decode prog_3_method_5_code 0 = .ok (.aload_n 0, 1) := by decide +kernel
theorem d_Ck_keep_1 : decode prog_3_method_5_code 1 = .ok (.getfield 15, 3) := by decide +kernel
theorem d_Ck_keep_4 : decode prog_3_method_5_code 4 = .ok (.ifCond .lt 13, 3) := by decide +kernel
theorem d_Ck_keep_7 : decode prog_3_method_5_code 7 = .ok (.aload_n 0, 1) := by decide +kernel
theorem d_Ck_keep_8 : decode prog_3_method_5_code 8 = .ok (.getfield 15, 3) := by decide +kernel
theorem d_Ck_keep_11 : decode prog_3_method_5_code 11 = .ok (.sipush 2000, 3) := by decide +kernel
theorem d_Ck_keep_14 : decode prog_3_method_5_code 14 = .ok (.if_icmp .lt 8, 3) := by decide +kernel
theorem d_Ck_keep_17 : decode prog_3_method_5_code 17 = .ok (.aload_n 0, 1) := by decide +kernel
theorem d_Ck_keep_18 : decode prog_3_method_5_code 18 = .ok (.iconst 0, 1) := by decide +kernel
theorem d_Ck_keep_19 : decode prog_3_method_5_code 19 = .ok (.putfield 15, 3) := by decide +kernel
theorem d_Ck_keep_22 : decode prog_3_method_5_code 22 = .ok (.aload_n 0, 1) := by decide +kernel
theorem d_Ck_keep_23 : decode prog_3_method_5_code 23 = .ok (.getfield 9, 3) := by decide +kernel
theorem d_Ck_keep_26 : decode prog_3_method_5_code 26 = .ok (.aload_n 0, 1) := by decide +kernel
theorem d_Ck_keep_27 : decode prog_3_method_5_code 27 = .ok (.getfield 15, 3) := by decide +kernel
theorem d_Ck_keep_30 : decode prog_3_method_5_code 30 = .ok (.iload_n 1, 1) := by decide +kernel
theorem d_Ck_keep_31 : decode prog_3_method_5_code 31 = .ok (.i2b, 1) := by decide +kernel
theorem d_Ck_keep_32 : decode prog_3_method_5_code 32 = .ok (.bastore, 1) := by decide +kernel
theorem d_Ck_keep_33 : decode prog_3_method_5_code 33 = .ok (.aload_n 0, 1) := by decide +kernel
theorem d_Ck_keep_34 : decode prog_3_method_5_code 34 = .ok (.dup, 1) := by decide +kernel
theorem d_Ck_keep_35 : decode prog_3_method_5_code 35 = .ok (.getfield 15, 3) := by decide +kernel
theorem d_Ck_keep_38 : decode prog_3_method_5_code 38 = .ok (.iconst 1, 1) := by decide +kernel
theorem d_Ck_keep_39 : decode prog_3_method_5_code 39 = .ok (.iadd, 1) := by decide +kernel
theorem d_Ck_keep_40 : decode prog_3_method_5_code 40 = .ok (.putfield 15, 3) := by decide +kernel
theorem d_Ck_keep_43 : decode prog_3_method_5_code 43 = .ok (.aload_n 0, 1) := by decide +kernel
theorem d_Ck_keep_44 : decode prog_3_method_5_code 44 = .ok (.getfield 19, 3) := by decide +kernel
theorem d_Ck_keep_47 : decode prog_3_method_5_code 47 = .ok (.sipush 2000, 3) := by decide +kernel
theorem d_Ck_keep_50 : decode prog_3_method_5_code 50 = .ok (.if_icmp .ge 13, 3) := by decide +kernel
theorem d_Ck_keep_53 : decode prog_3_method_5_code 53 = .ok (.aload_n 0, 1) := by decide +kernel
theorem d_Ck_keep_54 : decode prog_3_method_5_code 54 = .ok (.dup, 1) := by decide +kernel
theorem d_Ck_keep_55 : decode prog_3_method_5_code 55 = .ok (.getfield 19, 3) := by decide +kernel
theorem d_Ck_keep_58 : decode prog_3_method_5_code 58 = .ok (.iconst 1, 1) := by decide +kernel
theorem d_Ck_keep_59 : decode prog_3_method_5_code 59 = .ok (.iadd, 1) := by decide +kernel
theorem d_Ck_keep_60 : decode prog_3_method_5_code 60 = .ok (.putfield 19, 3) := by decide +kernel
theorem d_Ck_keep_63 : decode prog_3_method_5_code 63 = .ok (.return_, 1) := by decide +kernel
def f_Ck_keep (μ : zM) (a1 : Int32) (K : zM → Prop) : Prop := ((μ 10 1) < 0 → (∀ μ2 : zM, μ2 = zp μ 10 1 (0 : Int32) → (vp_in (μ2 10 1) 2000 ∧ ∀ μ4 : zM, μ4 = zp μ2 11 (μ2 10 1).toNatClampNeg (vp_nar .byte a1.toInt8.toInt32) → (∀ μ5 : zM, μ5 = zp μ4 10 1 ((μ4 10 1) + (1 : Int32)) → (((2000 : Int32) ≤ (μ5 10 2) → (K μ5)) ∧ (¬ (2000 : Int32) ≤ (μ5 10 2) → (∀ μ7 : zM, μ7 = zp μ5 10 2 ((μ5 10 2) + (1 : Int32)) → (K μ7)))))))) ∧ (¬ (μ 10 1) < 0 → (((μ 10 1) < (2000 : Int32) → (vp_in (μ 10 1) 2000 ∧ ∀ μ10 : zM, μ10 = zp μ 11 (μ 10 1).toNatClampNeg (vp_nar .byte a1.toInt8.toInt32) → (∀ μ11 : zM, μ11 = zp μ10 10 1 ((μ10 10 1) + (1 : Int32)) → (((2000 : Int32) ≤ (μ11 10 2) → (K μ11)) ∧ (¬ (2000 : Int32) ≤ (μ11 10 2) → (∀ μ13 : zM, μ13 = zp μ11 10 2 ((μ11 10 2) + (1 : Int32)) → (K μ13))))))) ∧ (¬ (μ 10 1) < (2000 : Int32) → (∀ μ14 : zM, μ14 = zp μ 10 1 (0 : Int32) → (vp_in (μ14 10 1) 2000 ∧ ∀ μ16 : zM, μ16 = zp μ14 11 (μ14 10 1).toNatClampNeg (vp_nar .byte a1.toInt8.toInt32) → (∀ μ17 : zM, μ17 = zp μ16 10 1 ((μ16 10 1) + (1 : Int32)) → (((2000 : Int32) ≤ (μ17 10 2) → (K μ17)) ∧ (¬ (2000 : Int32) ≤ (μ17 10 2) → (∀ μ19 : zM, μ19 = zp μ17 10 2 ((μ17 10 2) + (1 : Int32)) → (K μ19))))))))))
set_option maxHeartbeats 4000000 in
set_option maxRecDepth 100000 in
theorem c_Ck_keep (l : Launch) (E : zE) (μ : zM) (a1 : Int32) (K : zM → Prop) (h : f_Ck_keep μ a1 K) : Met l y_Ck_keep (Cond.code y_Ck_keep prog_3_method_5_code 2 none :: zT) { frames := 0, cells := 0, slots := 0, locals := 0 } (va_Pc [.ref (E.2.1 10), .int a1] (zR zwC E μ)) (va_Qv K (zR zwC E) (zA E)) 0 0 (zA E) := by
  refine z_head (by decide) (Nat.le_of_ble_eq_true rfl) ?_
  intro p e s m below meth c X hr hlk w ls hl
  have X : zX E p s m _ c prog_3_method_5_code "BeatHeap$Clock" 2 := X
  have hx := X.1
  have hb := X.2.1
  have hl : lv_has ls 2 [(0, .ref (E.2.1 10)), (1, .int a1)] := hl
  unfold f_Ck_keep at h
  refine lv_aload_n hx hb d_Ck_keep_0 rfl (lv_at hl 0 rfl) ?_
  refine gt_10_1 X w w_fl_Ck_15 d_Ck_keep_1 ?_
  refine lv_if_lt (tgt := 17) hx hb d_Ck_keep_4 (by decide) (fun c1 => ?_) (fun c1 => ?_)
  · have h := h.1 c1
    refine lv_aload_n hx hb d_Ck_keep_17 rfl (lv_at hl 0 rfl) ?_
    refine lv_iconst (v := 0) hx hb d_Ck_keep_18 (by decide) ?_
    refine pt_10_1 X w w_fl_Ck_15 d_Ck_keep_19 (fun μ2 H locs eμ2 w => ?_)
    have h := h μ2 eμ2
    refine lv_aload_n hx hb d_Ck_keep_22 rfl (lv_at hl 0 rfl) ?_
    refine gt_10_0 X w w_fl_Ck_9 d_Ck_keep_23 ?_
    refine lv_aload_n hx hb d_Ck_keep_26 rfl (lv_at hl 0 rfl) ?_
    refine gt_10_1 X w w_fl_Ck_15 d_Ck_keep_27 ?_
    refine lv_iload_n hx hb d_Ck_keep_30 rfl (lv_at hl 1 rfl) ?_
    refine lv_i2b hx hb d_Ck_keep_31 rfl ?_
    obtain ⟨hi3, h⟩ := h
    refine as_11 X w hi3 d_Ck_keep_32 (fun μ4 H locs eμ4 w => ?_)
    have h := h μ4 eμ4
    refine lv_aload_n hx hb d_Ck_keep_33 rfl (lv_at hl 0 rfl) ?_
    refine lv_dup hx hb d_Ck_keep_34 rfl ?_
    refine gt_10_1 X w w_fl_Ck_15 d_Ck_keep_35 ?_
    refine lv_iconst (v := 1) hx hb d_Ck_keep_38 (by decide) ?_
    refine lv_iadd hx hb d_Ck_keep_39 ?_
    refine pt_10_1 X w w_fl_Ck_15 d_Ck_keep_40 (fun μ5 H locs eμ5 w => ?_)
    have h := h μ5 eμ5
    refine lv_aload_n hx hb d_Ck_keep_43 rfl (lv_at hl 0 rfl) ?_
    refine gt_10_2 X w w_fl_Ck_19 d_Ck_keep_44 ?_
    refine lv_sipush (v := 2000) hx hb d_Ck_keep_47 (by decide) ?_
    refine lv_icmp_ge (tgt := 63) hx hb d_Ck_keep_50 (by decide) (fun c6 => ?_) (fun c6 => ?_)
    · have h := h.1 c6
      exact z_vret X hr hlk w h d_Ck_keep_63
    · have h := h.2 c6
      refine lv_aload_n hx hb d_Ck_keep_53 rfl (lv_at hl 0 rfl) ?_
      refine lv_dup hx hb d_Ck_keep_54 rfl ?_
      refine gt_10_2 X w w_fl_Ck_19 d_Ck_keep_55 ?_
      refine lv_iconst (v := 1) hx hb d_Ck_keep_58 (by decide) ?_
      refine lv_iadd hx hb d_Ck_keep_59 ?_
      refine pt_10_2 X w w_fl_Ck_19 d_Ck_keep_60 (fun μ7 H locs eμ7 w => ?_)
      have h := h μ7 eμ7
      exact z_vret X hr hlk w h d_Ck_keep_63
  · have h := h.2 c1
    refine lv_aload_n hx hb d_Ck_keep_7 rfl (lv_at hl 0 rfl) ?_
    refine gt_10_1 X w w_fl_Ck_15 d_Ck_keep_8 ?_
    refine lv_sipush (v := 2000) hx hb d_Ck_keep_11 (by decide) ?_
    refine lv_icmp_lt (tgt := 22) hx hb d_Ck_keep_14 (by decide) (fun c8 => ?_) (fun c8 => ?_)
    · have h := h.1 c8
      refine lv_aload_n hx hb d_Ck_keep_22 rfl (lv_at hl 0 rfl) ?_
      refine gt_10_0 X w w_fl_Ck_9 d_Ck_keep_23 ?_
      refine lv_aload_n hx hb d_Ck_keep_26 rfl (lv_at hl 0 rfl) ?_
      refine gt_10_1 X w w_fl_Ck_15 d_Ck_keep_27 ?_
      refine lv_iload_n hx hb d_Ck_keep_30 rfl (lv_at hl 1 rfl) ?_
      refine lv_i2b hx hb d_Ck_keep_31 rfl ?_
      obtain ⟨hi9, h⟩ := h
      refine as_11 X w hi9 d_Ck_keep_32 (fun μ10 H locs eμ10 w => ?_)
      have h := h μ10 eμ10
      refine lv_aload_n hx hb d_Ck_keep_33 rfl (lv_at hl 0 rfl) ?_
      refine lv_dup hx hb d_Ck_keep_34 rfl ?_
      refine gt_10_1 X w w_fl_Ck_15 d_Ck_keep_35 ?_
      refine lv_iconst (v := 1) hx hb d_Ck_keep_38 (by decide) ?_
      refine lv_iadd hx hb d_Ck_keep_39 ?_
      refine pt_10_1 X w w_fl_Ck_15 d_Ck_keep_40 (fun μ11 H locs eμ11 w => ?_)
      have h := h μ11 eμ11
      refine lv_aload_n hx hb d_Ck_keep_43 rfl (lv_at hl 0 rfl) ?_
      refine gt_10_2 X w w_fl_Ck_19 d_Ck_keep_44 ?_
      refine lv_sipush (v := 2000) hx hb d_Ck_keep_47 (by decide) ?_
      refine lv_icmp_ge (tgt := 63) hx hb d_Ck_keep_50 (by decide) (fun c12 => ?_) (fun c12 => ?_)
      · have h := h.1 c12
        exact z_vret X hr hlk w h d_Ck_keep_63
      · have h := h.2 c12
        refine lv_aload_n hx hb d_Ck_keep_53 rfl (lv_at hl 0 rfl) ?_
        refine lv_dup hx hb d_Ck_keep_54 rfl ?_
        refine gt_10_2 X w w_fl_Ck_19 d_Ck_keep_55 ?_
        refine lv_iconst (v := 1) hx hb d_Ck_keep_58 (by decide) ?_
        refine lv_iadd hx hb d_Ck_keep_59 ?_
        refine pt_10_2 X w w_fl_Ck_19 d_Ck_keep_60 (fun μ13 H locs eμ13 w => ?_)
        have h := h μ13 eμ13
        exact z_vret X hr hlk w h d_Ck_keep_63
    · have h := h.2 c8
      refine lv_aload_n hx hb d_Ck_keep_17 rfl (lv_at hl 0 rfl) ?_
      refine lv_iconst (v := 0) hx hb d_Ck_keep_18 (by decide) ?_
      refine pt_10_1 X w w_fl_Ck_15 d_Ck_keep_19 (fun μ14 H locs eμ14 w => ?_)
      have h := h μ14 eμ14
      refine lv_aload_n hx hb d_Ck_keep_22 rfl (lv_at hl 0 rfl) ?_
      refine gt_10_0 X w w_fl_Ck_9 d_Ck_keep_23 ?_
      refine lv_aload_n hx hb d_Ck_keep_26 rfl (lv_at hl 0 rfl) ?_
      refine gt_10_1 X w w_fl_Ck_15 d_Ck_keep_27 ?_
      refine lv_iload_n hx hb d_Ck_keep_30 rfl (lv_at hl 1 rfl) ?_
      refine lv_i2b hx hb d_Ck_keep_31 rfl ?_
      obtain ⟨hi15, h⟩ := h
      refine as_11 X w hi15 d_Ck_keep_32 (fun μ16 H locs eμ16 w => ?_)
      have h := h μ16 eμ16
      refine lv_aload_n hx hb d_Ck_keep_33 rfl (lv_at hl 0 rfl) ?_
      refine lv_dup hx hb d_Ck_keep_34 rfl ?_
      refine gt_10_1 X w w_fl_Ck_15 d_Ck_keep_35 ?_
      refine lv_iconst (v := 1) hx hb d_Ck_keep_38 (by decide) ?_
      refine lv_iadd hx hb d_Ck_keep_39 ?_
      refine pt_10_1 X w w_fl_Ck_15 d_Ck_keep_40 (fun μ17 H locs eμ17 w => ?_)
      have h := h μ17 eμ17
      refine lv_aload_n hx hb d_Ck_keep_43 rfl (lv_at hl 0 rfl) ?_
      refine gt_10_2 X w w_fl_Ck_19 d_Ck_keep_44 ?_
      refine lv_sipush (v := 2000) hx hb d_Ck_keep_47 (by decide) ?_
      refine lv_icmp_ge (tgt := 63) hx hb d_Ck_keep_50 (by decide) (fun c18 => ?_) (fun c18 => ?_)
      · have h := h.1 c18
        exact z_vret X hr hlk w h d_Ck_keep_63
      · have h := h.2 c18
        refine lv_aload_n hx hb d_Ck_keep_53 rfl (lv_at hl 0 rfl) ?_
        refine lv_dup hx hb d_Ck_keep_54 rfl ?_
        refine gt_10_2 X w w_fl_Ck_19 d_Ck_keep_55 ?_
        refine lv_iconst (v := 1) hx hb d_Ck_keep_58 (by decide) ?_
        refine lv_iadd hx hb d_Ck_keep_59 ?_
        refine pt_10_2 X w w_fl_Ck_19 d_Ck_keep_60 (fun μ19 H locs eμ19 w => ?_)
        have h := h μ19 eμ19
        exact z_vret X hr hlk w h d_Ck_keep_63
theorem q_Ck_programTicks : (y_Ck_programTicks.cls ≠ "java/lang/invoke/MethodHandle" ∧ y_Ck_programTicks.cls ≠ "java/lang/invoke/VarHandle") ∧ (parseMethodDescriptor y_Ck_programTicks.desc).map (fun d => d.parameters.length) = some 1 := by decide +kernel
theorem d_Ck_programTicks_0 : decode prog_3_method_3_code 0 = .ok (.iconst 0, 1) := by decide +kernel
theorem d_Ck_programTicks_1 : decode prog_3_method_3_code 1 = .ok (.istore_n 2, 1) := by decide +kernel
theorem d_Ck_programTicks_2 : decode prog_3_method_3_code 2 = .ok (.iload_n 2, 1) := by decide +kernel
theorem d_Ck_programTicks_3 : decode prog_3_method_3_code 3 = .ok (.iload_n 1, 1) := by decide +kernel
theorem d_Ck_programTicks_4 : decode prog_3_method_3_code 4 = .ok (.if_icmp .ge 14, 3) := by decide +kernel
theorem d_Ck_programTicks_7 : decode prog_3_method_3_code 7 = .ok (.aload_n 0, 1) := by decide +kernel
theorem d_Ck_programTicks_8 : decode prog_3_method_3_code 8 = .ok (.iconst 1, 1) := by decide +kernel
theorem d_Ck_programTicks_9 : decode prog_3_method_3_code 9 = .ok (.invokevirtual 28, 3) := by decide +kernel
theorem d_Ck_programTicks_12 : decode prog_3_method_3_code 12 = .ok (.iinc 2 1, 3) := by decide +kernel
theorem d_Ck_programTicks_15 : decode prog_3_method_3_code 15 = .ok (.goto (-13), 3) := by decide +kernel
theorem d_Ck_programTicks_18 : decode prog_3_method_3_code 18 = .ok (.aload_n 0, 1) := by decide +kernel
theorem d_Ck_programTicks_19 : decode prog_3_method_3_code 19 = .ok (.dup, 1) := by decide +kernel
theorem d_Ck_programTicks_20 : decode prog_3_method_3_code 20 = .ok (.getfield 22, 3) := by decide +kernel
theorem d_Ck_programTicks_23 : decode prog_3_method_3_code 23 = .ok (.iload_n 1, 1) := by decide +kernel
theorem d_Ck_programTicks_24 : decode prog_3_method_3_code 24 = .ok (.iadd, 1) := by decide +kernel
theorem d_Ck_programTicks_25 : decode prog_3_method_3_code 25 = .ok (.putfield 22, 3) := by decide +kernel
theorem d_Ck_programTicks_28 : decode prog_3_method_3_code 28 = .ok (.return_, 1) := by decide +kernel
noncomputable def F_Ck_programTicks_2 (K : zM → Prop) (n : Nat) : Int32 → Int32 → zM → Prop := Nat.rec (motive := fun _ => Int32 → Int32 → zM → Prop) (fun _ _ _ => False) (fun _ ih x1 x2 μ => (x1 ≤ x2 → (∀ μ2 : zM, μ2 = zp μ 10 3 ((μ 10 3) + x1) → (K μ2))) ∧ (¬ x1 ≤ x2 → (f_Ck_keep μ (1 : Int32) (fun μ3 => (∀ x4 : Int32, x4 = x2 + 1 → (ih x1 x4 μ3)))))) n
def f_Ck_programTicks (μ : zM) (a1 : Int32) (K : zM → Prop) : Prop := ∃ n : Nat, F_Ck_programTicks_2 K n a1 (0 : Int32) μ
set_option maxHeartbeats 4000000 in
set_option maxRecDepth 100000 in
theorem L_Ck_programTicks_2 {p : Program} {l : Launch} {e : Env} {s : State} {m : MethodId} {args : Array Value} {below : List Frame} {meth : Method} {c : Code} {E : zE} (X : zX E p s m args c prog_3_method_3_code "BeatHeap$Clock" 3) (hr : meth.sig.returnType = none) (hlk : meth.locks = false) (K : zM → Prop) : ∀ (n : Nat) (x1 x2 : Int32) (μ : zM) (H : Heap) (locs : List Loc) (ls : Array Slot), F_Ck_programTicks_2 K n x1 x2 μ → zW zwC E s μ H locs → lv_has ls 3 [(0, .ref (E.2.1 10)), (1, .int x1), (2, .int x2)] → W p l e { frames := 1, cells := 0, slots := 0, locals := 21 } s m args below meth c H locs 0 0 (MQ below (va_Qv K (zR zwC E) (zA E)) args s 0 0 (zA E)) (F0 m 2 ls []) := by
  have hx := X.1
  have hb := X.2.1
  intro n
  induction n with
  | zero => intro x1 x2 μ H locs ls h; exact False.elim h
  | succ n ih =>
    intro x1 x2 μ H locs ls h w hl
    refine lv_iload_n hx hb d_Ck_programTicks_2 rfl (lv_at hl 2 rfl) ?_
    refine lv_iload_n hx hb d_Ck_programTicks_3 rfl (lv_at hl 1 rfl) ?_
    refine lv_icmp_ge (tgt := 18) hx hb d_Ck_programTicks_4 (by decide) (fun c1 => ?_) (fun c1 => ?_)
    · have h := h.1 c1
      refine lv_aload_n hx hb d_Ck_programTicks_18 rfl (lv_at hl 0 rfl) ?_
      refine lv_dup hx hb d_Ck_programTicks_19 rfl ?_
      refine gt_10_3 X w w_fl_Ck_22 d_Ck_programTicks_20 ?_
      refine lv_iload_n hx hb d_Ck_programTicks_23 rfl (lv_at hl 1 rfl) ?_
      refine lv_iadd hx hb d_Ck_programTicks_24 ?_
      refine pt_10_3 X w w_fl_Ck_22 d_Ck_programTicks_25 (fun μ2 H locs eμ2 w => ?_)
      have h := h μ2 eμ2
      exact z_vret X hr hlk w h d_Ck_programTicks_28
    · have h := h.2 c1
      refine lv_aload_n hx hb d_Ck_programTicks_7 rfl (lv_at hl 0 rfl) ?_
      refine lv_iconst (v := 1) hx hb d_Ck_programTicks_8 (by decide) ?_
      refine z_cVv (As := [.int (1 : Int32)]) (rest := []) (q0 := 10) (ci := 1) X w (c_Ck_keep l E μ (1 : Int32) _ h) rfl rfl rfl w_ml_Ck_28 ⟨w_im_Ck_keep, w_se_Ck_keep⟩ w_in_Ck w_co_Ck_keep q_Ck_keep.1 q_Ck_keep.2 rfl ⟨Nat.le_of_ble_eq_true rfl, Nat.le_of_ble_eq_true rfl⟩ ⟨Nat.zero_le _, Nat.zero_le _⟩ hl.1 rfl (Nat.le_of_ble_eq_true rfl) d_Ck_programTicks_9 (fun μ3 H locs h w => ?_)
      obtain ⟨x4, ex4⟩ : ∃ y : Int32, y = x2 + 1 := ⟨_, rfl⟩
      have h := h x4 ex4
      refine lv_iinc (v := x4) (lv' := [(2, .int x4), (0, .ref (E.2.1 10)), (1, .int x1)]) hx hb d_Ck_programTicks_12 hl (k := 2) rfl (by rw [ex4]; rfl) (by decide) rfl (fun ls hl => ?_)
      refine lv_goto (tgt := 2) hx hb d_Ck_programTicks_15 (by decide) ?_
      exact ih x1 x4 μ3 _ _ _ h w (lv_sub hl [1, 2, 0] rfl)

set_option maxHeartbeats 4000000 in
set_option maxRecDepth 100000 in
theorem c_Ck_programTicks (l : Launch) (E : zE) (μ : zM) (a1 : Int32) (K : zM → Prop) (h : f_Ck_programTicks μ a1 K) : Met l y_Ck_programTicks (Cond.code y_Ck_programTicks prog_3_method_3_code 3 none :: zT) { frames := 1, cells := 0, slots := 0, locals := 21 } (va_Pc [.ref (E.2.1 10), .int a1] (zR zwC E μ)) (va_Qv K (zR zwC E) (zA E)) 0 0 (zA E) := by
  refine z_head (by decide) (Nat.le_of_ble_eq_true rfl) ?_
  intro p e s m below meth c X hr hlk w ls hl
  have X : zX E p s m _ c prog_3_method_3_code "BeatHeap$Clock" 3 := X
  have hx := X.1
  have hb := X.2.1
  have hl : lv_has ls 3 [(0, .ref (E.2.1 10)), (1, .int a1)] := hl
  unfold f_Ck_programTicks at h
  refine lv_iconst (v := 0) hx hb d_Ck_programTicks_0 (by decide) ?_
  refine lv_istore_n (lv' := [(2, .int (0 : Int32)), (0, .ref (E.2.1 10)), (1, .int a1)]) hx hb d_Ck_programTicks_1 rfl hl (by decide) rfl (fun ls hl => ?_)
  obtain ⟨n, h⟩ := h
  exact L_Ck_programTicks_2 X hr hlk K n a1 (0 : Int32) μ _ _ _ h w (lv_sub hl [1, 2, 0] rfl)
theorem q_Ck_collectorTick : (y_Ck_collectorTick.cls ≠ "java/lang/invoke/MethodHandle" ∧ y_Ck_collectorTick.cls ≠ "java/lang/invoke/VarHandle") ∧ (parseMethodDescriptor y_Ck_collectorTick.desc).map (fun d => d.parameters.length) = some 0 := by decide +kernel
theorem d_Ck_collectorTick_0 : decode prog_3_method_4_code 0 = .ok (.aload_n 0, 1) := by decide +kernel
theorem d_Ck_collectorTick_1 : decode prog_3_method_4_code 1 = .ok (.iconst 0, 1) := by decide +kernel
theorem d_Ck_collectorTick_2 : decode prog_3_method_4_code 2 = .ok (.invokevirtual 28, 3) := by decide +kernel
theorem d_Ck_collectorTick_5 : decode prog_3_method_4_code 5 = .ok (.aload_n 0, 1) := by decide +kernel
theorem d_Ck_collectorTick_6 : decode prog_3_method_4_code 6 = .ok (.dup, 1) := by decide +kernel
theorem d_Ck_collectorTick_7 : decode prog_3_method_4_code 7 = .ok (.getfield 25, 3) := by decide +kernel
theorem d_Ck_collectorTick_10 : decode prog_3_method_4_code 10 = .ok (.iconst 1, 1) := by decide +kernel
theorem d_Ck_collectorTick_11 : decode prog_3_method_4_code 11 = .ok (.iadd, 1) := by decide +kernel
theorem d_Ck_collectorTick_12 : decode prog_3_method_4_code 12 = .ok (.putfield 25, 3) := by decide +kernel
theorem d_Ck_collectorTick_15 : decode prog_3_method_4_code 15 = .ok (.return_, 1) := by decide +kernel
def f_Ck_collectorTick (μ : zM) (K : zM → Prop) : Prop := f_Ck_keep μ (0 : Int32) (fun μ1 => (∀ μ2 : zM, μ2 = zp μ1 10 4 ((μ1 10 4) + (1 : Int32)) → (K μ2)))
set_option maxHeartbeats 4000000 in
set_option maxRecDepth 100000 in
theorem c_Ck_collectorTick (l : Launch) (E : zE) (μ : zM) (K : zM → Prop) (h : f_Ck_collectorTick μ K) : Met l y_Ck_collectorTick (Cond.code y_Ck_collectorTick prog_3_method_4_code 1 none :: zT) { frames := 1, cells := 0, slots := 0, locals := 21 } (va_Pc [.ref (E.2.1 10)] (zR zwC E μ)) (va_Qv K (zR zwC E) (zA E)) 0 0 (zA E) := by
  refine z_head (by decide) (Nat.le_of_ble_eq_true rfl) ?_
  intro p e s m below meth c X hr hlk w ls hl
  have X : zX E p s m _ c prog_3_method_4_code "BeatHeap$Clock" 1 := X
  have hx := X.1
  have hb := X.2.1
  have hl : lv_has ls 1 [(0, .ref (E.2.1 10))] := hl
  unfold f_Ck_collectorTick at h
  refine lv_aload_n hx hb d_Ck_collectorTick_0 rfl (lv_at hl 0 rfl) ?_
  refine lv_iconst (v := 0) hx hb d_Ck_collectorTick_1 (by decide) ?_
  refine z_cVv (As := [.int (0 : Int32)]) (rest := []) (q0 := 10) (ci := 1) X w (c_Ck_keep l E μ (0 : Int32) _ h) rfl rfl rfl w_ml_Ck_28 ⟨w_im_Ck_keep, w_se_Ck_keep⟩ w_in_Ck w_co_Ck_keep q_Ck_keep.1 q_Ck_keep.2 rfl ⟨Nat.le_of_ble_eq_true rfl, Nat.le_of_ble_eq_true rfl⟩ ⟨Nat.zero_le _, Nat.zero_le _⟩ hl.1 rfl (Nat.le_of_ble_eq_true rfl) d_Ck_collectorTick_2 (fun μ1 H locs h w => ?_)
  refine lv_aload_n hx hb d_Ck_collectorTick_5 rfl (lv_at hl 0 rfl) ?_
  refine lv_dup hx hb d_Ck_collectorTick_6 rfl ?_
  refine gt_10_4 X w w_fl_Ck_25 d_Ck_collectorTick_7 ?_
  refine lv_iconst (v := 1) hx hb d_Ck_collectorTick_10 (by decide) ?_
  refine lv_iadd hx hb d_Ck_collectorTick_11 ?_
  refine pt_10_4 X w w_fl_Ck_25 d_Ck_collectorTick_12 (fun μ2 H locs eμ2 w => ?_)
  have h := h μ2 eμ2
  exact z_vret X hr hlk w h d_Ck_collectorTick_15
theorem q_Co_rootsStep : (y_Co_rootsStep.cls ≠ "java/lang/invoke/MethodHandle" ∧ y_Co_rootsStep.cls ≠ "java/lang/invoke/VarHandle") ∧ (parseMethodDescriptor y_Co_rootsStep.desc).map (fun d => d.parameters.length) = some 0 := by decide +kernel
theorem d_Co_rootsStep_0 : decode prog_4_method_8_code 0 = .ok (.aload_n 0, 1) := by decide +kernel
theorem d_Co_rootsStep_1 : decode prog_4_method_8_code 1 = .ok (.getfield 61, 3) := by decide +kernel
theorem d_Co_rootsStep_4 : decode prog_4_method_8_code 4 = .ok (.ifCond .lt 35, 3) := by decide +kernel
theorem d_Co_rootsStep_7 : decode prog_4_method_8_code 7 = .ok (.aload_n 0, 1) := by decide +kernel
theorem d_Co_rootsStep_8 : decode prog_4_method_8_code 8 = .ok (.getfield 61, 3) := by decide +kernel
theorem d_Co_rootsStep_11 : decode prog_4_method_8_code 11 = .ok (.bipush 16, 2) := by decide +kernel
theorem d_Co_rootsStep_13 : decode prog_4_method_8_code 13 = .ok (.if_icmp .ge 26, 3) := by decide +kernel
theorem d_Co_rootsStep_16 : decode prog_4_method_8_code 16 = .ok (.aload_n 0, 1) := by decide +kernel
theorem d_Co_rootsStep_17 : decode prog_4_method_8_code 17 = .ok (.aload_n 0, 1) := by decide +kernel
theorem d_Co_rootsStep_18 : decode prog_4_method_8_code 18 = .ok (.getfield 32, 3) := by decide +kernel
theorem d_Co_rootsStep_21 : decode prog_4_method_8_code 21 = .ok (.aload_n 0, 1) := by decide +kernel
theorem d_Co_rootsStep_22 : decode prog_4_method_8_code 22 = .ok (.getfield 61, 3) := by decide +kernel
theorem d_Co_rootsStep_25 : decode prog_4_method_8_code 25 = .ok (.iaload, 1) := by decide +kernel
theorem d_Co_rootsStep_26 : decode prog_4_method_8_code 26 = .ok (.invokevirtual 106, 3) := by decide +kernel
theorem d_Co_rootsStep_29 : decode prog_4_method_8_code 29 = .ok (.aload_n 0, 1) := by decide +kernel
theorem d_Co_rootsStep_30 : decode prog_4_method_8_code 30 = .ok (.dup, 1) := by decide +kernel
theorem d_Co_rootsStep_31 : decode prog_4_method_8_code 31 = .ok (.getfield 61, 3) := by decide +kernel
theorem d_Co_rootsStep_34 : decode prog_4_method_8_code 34 = .ok (.iconst 1, 1) := by decide +kernel
theorem d_Co_rootsStep_35 : decode prog_4_method_8_code 35 = .ok (.iadd, 1) := by decide +kernel
theorem d_Co_rootsStep_36 : decode prog_4_method_8_code 36 = .ok (.putfield 61, 3) := by decide +kernel
theorem d_Co_rootsStep_39 : decode prog_4_method_8_code 39 = .ok (.aload_n 0, 1) := by decide +kernel
theorem d_Co_rootsStep_40 : decode prog_4_method_8_code 40 = .ok (.getfield 61, 3) := by decide +kernel
theorem d_Co_rootsStep_43 : decode prog_4_method_8_code 43 = .ok (.bipush 16, 2) := by decide +kernel
theorem d_Co_rootsStep_45 : decode prog_4_method_8_code 45 = .ok (.if_icmp .lt 8, 3) := by decide +kernel
theorem d_Co_rootsStep_48 : decode prog_4_method_8_code 48 = .ok (.aload_n 0, 1) := by decide +kernel
theorem d_Co_rootsStep_49 : decode prog_4_method_8_code 49 = .ok (.iconst 2, 1) := by decide +kernel
theorem d_Co_rootsStep_50 : decode prog_4_method_8_code 50 = .ok (.putfield 55, 3) := by decide +kernel
theorem d_Co_rootsStep_53 : decode prog_4_method_8_code 53 = .ok (.return_, 1) := by decide +kernel
def f_Co_rootsStep (μ : zM) (K : zM → Prop) : Prop := ((μ 1 9) < 0 → (((μ 1 9) < (16 : Int32) → (K μ)) ∧ (¬ (μ 1 9) < (16 : Int32) → (∀ μ3 : zM, μ3 = zp μ 1 7 (2 : Int32) → (K μ3))))) ∧ (¬ (μ 1 9) < 0 → (((16 : Int32) ≤ (μ 1 9) → (((μ 1 9) < (16 : Int32) → (K μ)) ∧ (¬ (μ 1 9) < (16 : Int32) → (∀ μ6 : zM, μ6 = zp μ 1 7 (2 : Int32) → (K μ6))))) ∧ (¬ (16 : Int32) ≤ (μ 1 9) → (vp_in (μ 1 9) 16 ∧ (f_Co_grey μ (μ 14 (μ 1 9).toNatClampNeg) (fun μ8 => (∀ μ9 : zM, μ9 = zp μ8 1 9 ((μ8 1 9) + (1 : Int32)) → (((μ9 1 9) < (16 : Int32) → (K μ9)) ∧ (¬ (μ9 1 9) < (16 : Int32) → (∀ μ11 : zM, μ11 = zp μ9 1 7 (2 : Int32) → (K μ11)))))))))))
set_option maxHeartbeats 4000000 in
set_option maxRecDepth 100000 in
theorem c_Co_rootsStep (l : Launch) (E : zE) (μ : zM) (K : zM → Prop) (h : f_Co_rootsStep μ K) : Met l y_Co_rootsStep (Cond.code y_Co_rootsStep prog_4_method_8_code 1 none :: zT) { frames := 3, cells := 0, slots := 0, locals := 64 } (va_Pc [.ref (E.2.1 1)] (zR zwC E μ)) (va_Qv K (zR zwC E) (zA E)) 0 0 (zA E) := by
  refine z_head (by decide) (Nat.le_of_ble_eq_true rfl) ?_
  intro p e s m below meth c X hr hlk w ls hl
  have X : zX E p s m _ c prog_4_method_8_code "BeatHeap$Collector" 1 := X
  have hx := X.1
  have hb := X.2.1
  have hl : lv_has ls 1 [(0, .ref (E.2.1 1))] := hl
  unfold f_Co_rootsStep at h
  refine lv_aload_n hx hb d_Co_rootsStep_0 rfl (lv_at hl 0 rfl) ?_
  refine gt_1_9 X w w_fl_Co_61 d_Co_rootsStep_1 ?_
  refine lv_if_lt (tgt := 39) hx hb d_Co_rootsStep_4 (by decide) (fun c1 => ?_) (fun c1 => ?_)
  · have h := h.1 c1
    refine lv_aload_n hx hb d_Co_rootsStep_39 rfl (lv_at hl 0 rfl) ?_
    refine gt_1_9 X w w_fl_Co_61 d_Co_rootsStep_40 ?_
    refine lv_bipush (v := 16) hx hb d_Co_rootsStep_43 (by decide) ?_
    refine lv_icmp_lt (tgt := 53) hx hb d_Co_rootsStep_45 (by decide) (fun c2 => ?_) (fun c2 => ?_)
    · have h := h.1 c2
      exact z_vret X hr hlk w h d_Co_rootsStep_53
    · have h := h.2 c2
      refine lv_aload_n hx hb d_Co_rootsStep_48 rfl (lv_at hl 0 rfl) ?_
      refine lv_iconst (v := 2) hx hb d_Co_rootsStep_49 (by decide) ?_
      refine pt_1_7 X w w_fl_Co_55 d_Co_rootsStep_50 (fun μ3 H locs eμ3 w => ?_)
      have h := h μ3 eμ3
      exact z_vret X hr hlk w h d_Co_rootsStep_53
  · have h := h.2 c1
    refine lv_aload_n hx hb d_Co_rootsStep_7 rfl (lv_at hl 0 rfl) ?_
    refine gt_1_9 X w w_fl_Co_61 d_Co_rootsStep_8 ?_
    refine lv_bipush (v := 16) hx hb d_Co_rootsStep_11 (by decide) ?_
    refine lv_icmp_ge (tgt := 39) hx hb d_Co_rootsStep_13 (by decide) (fun c4 => ?_) (fun c4 => ?_)
    · have h := h.1 c4
      refine lv_aload_n hx hb d_Co_rootsStep_39 rfl (lv_at hl 0 rfl) ?_
      refine gt_1_9 X w w_fl_Co_61 d_Co_rootsStep_40 ?_
      refine lv_bipush (v := 16) hx hb d_Co_rootsStep_43 (by decide) ?_
      refine lv_icmp_lt (tgt := 53) hx hb d_Co_rootsStep_45 (by decide) (fun c5 => ?_) (fun c5 => ?_)
      · have h := h.1 c5
        exact z_vret X hr hlk w h d_Co_rootsStep_53
      · have h := h.2 c5
        refine lv_aload_n hx hb d_Co_rootsStep_48 rfl (lv_at hl 0 rfl) ?_
        refine lv_iconst (v := 2) hx hb d_Co_rootsStep_49 (by decide) ?_
        refine pt_1_7 X w w_fl_Co_55 d_Co_rootsStep_50 (fun μ6 H locs eμ6 w => ?_)
        have h := h μ6 eμ6
        exact z_vret X hr hlk w h d_Co_rootsStep_53
    · have h := h.2 c4
      refine lv_aload_n hx hb d_Co_rootsStep_16 rfl (lv_at hl 0 rfl) ?_
      refine lv_aload_n hx hb d_Co_rootsStep_17 rfl (lv_at hl 0 rfl) ?_
      refine gt_1_3 X w w_fl_Co_32 d_Co_rootsStep_18 ?_
      refine lv_aload_n hx hb d_Co_rootsStep_21 rfl (lv_at hl 0 rfl) ?_
      refine gt_1_9 X w w_fl_Co_61 d_Co_rootsStep_22 ?_
      obtain ⟨hi7, h⟩ := h
      refine al_14 X w hi7 d_Co_rootsStep_25 ?_
      refine z_cVv (As := [.int (μ 14 (μ 1 9).toNatClampNeg)]) (rest := []) (q0 := 1) (ci := 2) X w (c_Co_grey l E μ (μ 14 (μ 1 9).toNatClampNeg) _ h) rfl rfl rfl w_ml_Co_106 ⟨w_im_Co_grey, w_se_Co_grey⟩ w_in_Co w_co_Co_grey q_Co_grey.1 q_Co_grey.2 rfl ⟨Nat.le_of_ble_eq_true rfl, Nat.le_of_ble_eq_true rfl⟩ ⟨Nat.zero_le _, Nat.zero_le _⟩ hl.1 rfl (Nat.le_of_ble_eq_true rfl) d_Co_rootsStep_26 (fun μ8 H locs h w => ?_)
      refine lv_aload_n hx hb d_Co_rootsStep_29 rfl (lv_at hl 0 rfl) ?_
      refine lv_dup hx hb d_Co_rootsStep_30 rfl ?_
      refine gt_1_9 X w w_fl_Co_61 d_Co_rootsStep_31 ?_
      refine lv_iconst (v := 1) hx hb d_Co_rootsStep_34 (by decide) ?_
      refine lv_iadd hx hb d_Co_rootsStep_35 ?_
      refine pt_1_9 X w w_fl_Co_61 d_Co_rootsStep_36 (fun μ9 H locs eμ9 w => ?_)
      have h := h μ9 eμ9
      refine lv_aload_n hx hb d_Co_rootsStep_39 rfl (lv_at hl 0 rfl) ?_
      refine gt_1_9 X w w_fl_Co_61 d_Co_rootsStep_40 ?_
      refine lv_bipush (v := 16) hx hb d_Co_rootsStep_43 (by decide) ?_
      refine lv_icmp_lt (tgt := 53) hx hb d_Co_rootsStep_45 (by decide) (fun c10 => ?_) (fun c10 => ?_)
      · have h := h.1 c10
        exact z_vret X hr hlk w h d_Co_rootsStep_53
      · have h := h.2 c10
        refine lv_aload_n hx hb d_Co_rootsStep_48 rfl (lv_at hl 0 rfl) ?_
        refine lv_iconst (v := 2) hx hb d_Co_rootsStep_49 (by decide) ?_
        refine pt_1_7 X w w_fl_Co_55 d_Co_rootsStep_50 (fun μ11 H locs eμ11 w => ?_)
        have h := h μ11 eμ11
        exact z_vret X hr hlk w h d_Co_rootsStep_53
theorem q_Pi_pop : (y_Pi_pop.cls ≠ "java/lang/invoke/MethodHandle" ∧ y_Pi_pop.cls ≠ "java/lang/invoke/VarHandle") ∧ (parseMethodDescriptor y_Pi_pop.desc).map (fun d => d.parameters.length) = some 0 := by decide +kernel
theorem d_Pi_pop_0 : decode prog_5_method_4_code 0 = .ok (.aload_n 0, 1) := by decide +kernel
theorem d_Pi_pop_1 : decode prog_5_method_4_code 1 = .ok (.getfield 15, 3) := by decide +kernel
theorem d_Pi_pop_4 : decode prog_5_method_4_code 4 = .ok (.ifCond .le 15, 3) := by decide +kernel
theorem d_Pi_pop_7 : decode prog_5_method_4_code 7 = .ok (.aload_n 0, 1) := by decide +kernel
theorem d_Pi_pop_8 : decode prog_5_method_4_code 8 = .ok (.getfield 15, 3) := by decide +kernel
theorem d_Pi_pop_11 : decode prog_5_method_4_code 11 = .ok (.aload_n 0, 1) := by decide +kernel
theorem d_Pi_pop_12 : decode prog_5_method_4_code 12 = .ok (.getfield 9, 3) := by decide +kernel
theorem d_Pi_pop_15 : decode prog_5_method_4_code 15 = .ok (.arraylength, 1) := by decide +kernel
theorem d_Pi_pop_16 : decode prog_5_method_4_code 16 = .ok (.if_icmp .le 5, 3) := by decide +kernel
theorem d_Pi_pop_19 : decode prog_5_method_4_code 19 = .ok (.iconst (-1), 1) := by decide +kernel
theorem d_Pi_pop_20 : decode prog_5_method_4_code 20 = .ok (.ireturn, 1) := by decide +kernel
theorem d_Pi_pop_21 : decode prog_5_method_4_code 21 = .ok (.aload_n 0, 1) := by decide +kernel
theorem d_Pi_pop_22 : decode prog_5_method_4_code 22 = .ok (.dup, 1) := by decide +kernel
theorem d_Pi_pop_23 : decode prog_5_method_4_code 23 = .ok (.getfield 15, 3) := by decide +kernel
theorem d_Pi_pop_26 : decode prog_5_method_4_code 26 = .ok (.iconst 1, 1) := by decide +kernel
theorem d_Pi_pop_27 : decode prog_5_method_4_code 27 = .ok (.isub, 1) := by decide +kernel
theorem d_Pi_pop_28 : decode prog_5_method_4_code 28 = .ok (.putfield 15, 3) := by decide +kernel
theorem d_Pi_pop_31 : decode prog_5_method_4_code 31 = .ok (.aload_n 0, 1) := by decide +kernel
theorem d_Pi_pop_32 : decode prog_5_method_4_code 32 = .ok (.getfield 9, 3) := by decide +kernel
theorem d_Pi_pop_35 : decode prog_5_method_4_code 35 = .ok (.aload_n 0, 1) := by decide +kernel
theorem d_Pi_pop_36 : decode prog_5_method_4_code 36 = .ok (.getfield 15, 3) := by decide +kernel
theorem d_Pi_pop_39 : decode prog_5_method_4_code 39 = .ok (.iaload, 1) := by decide +kernel
theorem d_Pi_pop_40 : decode prog_5_method_4_code 40 = .ok (.ireturn, 1) := by decide +kernel
def f_Pi_pop_12 (μ : zM) (K : Int32 → zM → Prop) : Prop := ((μ 12 1) ≤ 0 → (K (-1 : Int32) μ)) ∧ (¬ (μ 12 1) ≤ 0 → (((μ 12 1) ≤ (1024 : Int32) → (∀ μ3 : zM, μ3 = zp μ 12 1 ((μ 12 1) - (1 : Int32)) → (vp_in (μ3 12 1) 1024 ∧ (K (μ3 13 (μ3 12 1).toNatClampNeg) μ3)))) ∧ (¬ (μ 12 1) ≤ (1024 : Int32) → (K (-1 : Int32) μ))))
set_option maxHeartbeats 4000000 in
set_option maxRecDepth 100000 in
theorem c_Pi_pop_12 (l : Launch) (E : zE) (μ : zM) (K : Int32 → zM → Prop) (h : f_Pi_pop_12 μ K) : Met l y_Pi_pop (Cond.code y_Pi_pop prog_5_method_4_code 1 (some .int) :: zT) { frames := 0, cells := 0, slots := 0, locals := 0 } (va_Pc [.ref (E.2.1 12)] (zR zwC E μ)) (va_Qi K (zR zwC E) (zA E)) 0 0 (zA E) := by
  refine z_head (by decide) (Nat.le_of_ble_eq_true rfl) ?_
  intro p e s m below meth c X hr hlk w ls hl
  have X : zX E p s m _ c prog_5_method_4_code "BeatHeap$Pile" 1 := X
  have hx := X.1
  have hb := X.2.1
  have hl : lv_has ls 1 [(0, .ref (E.2.1 12))] := hl
  unfold f_Pi_pop_12 at h
  refine lv_aload_n hx hb d_Pi_pop_0 rfl (lv_at hl 0 rfl) ?_
  refine gt_12_1 X w w_fl_Pi_15 d_Pi_pop_1 ?_
  refine lv_if_le (tgt := 19) hx hb d_Pi_pop_4 (by decide) (fun c1 => ?_) (fun c1 => ?_)
  · have h := h.1 c1
    refine lv_iconst (v := (-1)) hx hb d_Pi_pop_19 (by decide) ?_
    exact z_iret X hr hlk w h d_Pi_pop_20
  · have h := h.2 c1
    refine lv_aload_n hx hb d_Pi_pop_7 rfl (lv_at hl 0 rfl) ?_
    refine gt_12_1 X w w_fl_Pi_15 d_Pi_pop_8 ?_
    refine lv_aload_n hx hb d_Pi_pop_11 rfl (lv_at hl 0 rfl) ?_
    refine gt_12_0 X w w_fl_Pi_9 d_Pi_pop_12 ?_
    refine an_13 (v := 1024) X w (by decide) d_Pi_pop_15 ?_
    refine lv_icmp_le (tgt := 21) hx hb d_Pi_pop_16 (by decide) (fun c2 => ?_) (fun c2 => ?_)
    · have h := h.1 c2
      refine lv_aload_n hx hb d_Pi_pop_21 rfl (lv_at hl 0 rfl) ?_
      refine lv_dup hx hb d_Pi_pop_22 rfl ?_
      refine gt_12_1 X w w_fl_Pi_15 d_Pi_pop_23 ?_
      refine lv_iconst (v := 1) hx hb d_Pi_pop_26 (by decide) ?_
      refine lv_isub hx hb d_Pi_pop_27 ?_
      refine pt_12_1 X w w_fl_Pi_15 d_Pi_pop_28 (fun μ3 H locs eμ3 w => ?_)
      have h := h μ3 eμ3
      refine lv_aload_n hx hb d_Pi_pop_31 rfl (lv_at hl 0 rfl) ?_
      refine gt_12_0 X w w_fl_Pi_9 d_Pi_pop_32 ?_
      refine lv_aload_n hx hb d_Pi_pop_35 rfl (lv_at hl 0 rfl) ?_
      refine gt_12_1 X w w_fl_Pi_15 d_Pi_pop_36 ?_
      obtain ⟨hi4, h⟩ := h
      refine al_13 X w hi4 d_Pi_pop_39 ?_
      exact z_iret X hr hlk w h d_Pi_pop_40
    · have h := h.2 c2
      refine lv_iconst (v := (-1)) hx hb d_Pi_pop_19 (by decide) ?_
      exact z_iret X hr hlk w h d_Pi_pop_20
theorem q_Ma_max : (y_Ma_max.cls ≠ "java/lang/invoke/MethodHandle" ∧ y_Ma_max.cls ≠ "java/lang/invoke/VarHandle") ∧ (parseMethodDescriptor y_Ma_max.desc).map (fun d => d.parameters.length) = some 2 := by decide +kernel
theorem d_Ma_max_0 : decode prog_9_method_65_code 0 = .ok (.iload_n 0, 1) := by decide +kernel
theorem d_Ma_max_1 : decode prog_9_method_65_code 1 = .ok (.iload_n 1, 1) := by decide +kernel
theorem d_Ma_max_2 : decode prog_9_method_65_code 2 = .ok (.if_icmp .lt 7, 3) := by decide +kernel
theorem d_Ma_max_5 : decode prog_9_method_65_code 5 = .ok (.iload_n 0, 1) := by decide +kernel
theorem d_Ma_max_6 : decode prog_9_method_65_code 6 = .ok (.goto 4, 3) := by decide +kernel
theorem d_Ma_max_9 : decode prog_9_method_65_code 9 = .ok (.iload_n 1, 1) := by decide +kernel
theorem d_Ma_max_10 : decode prog_9_method_65_code 10 = .ok (.ireturn, 1) := by decide +kernel
def f_Ma_max (μ : zM) (a0 a1 : Int32) (K : Int32 → zM → Prop) : Prop := (a0 < a1 → (K a1 μ)) ∧ (¬ a0 < a1 → (K a0 μ))
set_option maxHeartbeats 4000000 in
set_option maxRecDepth 100000 in
theorem c_Ma_max (l : Launch) (E : zE) (μ : zM) (a0 a1 : Int32) (K : Int32 → zM → Prop) (h : f_Ma_max μ a0 a1 K) : Met l y_Ma_max (Cond.code y_Ma_max prog_9_method_65_code 2 (some .int) :: zT) { frames := 0, cells := 0, slots := 0, locals := 0 } (va_Pc [.int a0, .int a1] (zR zwC E μ)) (va_Qi K (zR zwC E) (zA E)) 0 0 (zA E) := by
  refine z_headF (by decide +kernel) (Nat.le_of_ble_eq_true rfl) ?_
  intro p e s m below meth c X hr hlk w ls hl
  have X : zX E p s m _ c prog_9_method_65_code "java/lang/Math" 2 := X
  have hx := X.1
  have hb := X.2.1
  have hl : lv_has ls 2 [(0, .int a0), (1, .int a1)] := hl
  unfold f_Ma_max at h
  refine lv_iload_n hx hb d_Ma_max_0 rfl (lv_at hl 0 rfl) ?_
  refine lv_iload_n hx hb d_Ma_max_1 rfl (lv_at hl 1 rfl) ?_
  refine lv_icmp_lt (tgt := 9) hx hb d_Ma_max_2 (by decide) (fun c1 => ?_) (fun c1 => ?_)
  · have h := h.1 c1
    refine lv_iload_n hx hb d_Ma_max_9 rfl (lv_at hl 1 rfl) ?_
    exact z_iret X hr hlk w h d_Ma_max_10
  · have h := h.2 c1
    refine lv_iload_n hx hb d_Ma_max_5 rfl (lv_at hl 0 rfl) ?_
    refine lv_goto (tgt := 10) hx hb d_Ma_max_6 (by decide) ?_
    exact z_iret X hr hlk w h d_Ma_max_10
theorem q_Bk_blockFrom : (y_Bk_blockFrom.cls ≠ "java/lang/invoke/MethodHandle" ∧ y_Bk_blockFrom.cls ≠ "java/lang/invoke/VarHandle") ∧ (parseMethodDescriptor y_Bk_blockFrom.desc).map (fun d => d.parameters.length) = some 1 := by decide +kernel
theorem d_Bk_blockFrom_0 : decode prog_2_method_21_code 0 = .ok (.iload_n 1, 1) := by decide +kernel
theorem d_Bk_blockFrom_1 : decode prog_2_method_21_code 1 = .ok (.ifCond .ge 5, 3) := by decide +kernel
theorem d_Bk_blockFrom_4 : decode prog_2_method_21_code 4 = .ok (.iconst (-1), 1) := by decide +kernel
theorem d_Bk_blockFrom_5 : decode prog_2_method_21_code 5 = .ok (.ireturn, 1) := by decide +kernel
theorem d_Bk_blockFrom_6 : decode prog_2_method_21_code 6 = .ok (.iload_n 1, 1) := by decide +kernel
theorem d_Bk_blockFrom_7 : decode prog_2_method_21_code 7 = .ok (.bipush 64, 2) := by decide +kernel
theorem d_Bk_blockFrom_9 : decode prog_2_method_21_code 9 = .ok (.idiv, 1) := by decide +kernel
theorem d_Bk_blockFrom_10 : decode prog_2_method_21_code 10 = .ok (.istore_n 2, 1) := by decide +kernel
theorem d_Bk_blockFrom_11 : decode prog_2_method_21_code 11 = .ok (.iload_n 2, 1) := by decide +kernel
theorem d_Bk_blockFrom_12 : decode prog_2_method_21_code 12 = .ok (.aload_n 0, 1) := by decide +kernel
theorem d_Bk_blockFrom_13 : decode prog_2_method_21_code 13 = .ok (.getfield 49, 3) := by decide +kernel
theorem d_Bk_blockFrom_16 : decode prog_2_method_21_code 16 = .ok (.if_icmp .ge 28, 3) := by decide +kernel
theorem d_Bk_blockFrom_19 : decode prog_2_method_21_code 19 = .ok (.aload_n 0, 1) := by decide +kernel
theorem d_Bk_blockFrom_20 : decode prog_2_method_21_code 20 = .ok (.getfield 28, 3) := by decide +kernel
theorem d_Bk_blockFrom_23 : decode prog_2_method_21_code 23 = .ok (.iload_n 2, 1) := by decide +kernel
theorem d_Bk_blockFrom_24 : decode prog_2_method_21_code 24 = .ok (.iaload, 1) := by decide +kernel
theorem d_Bk_blockFrom_25 : decode prog_2_method_21_code 25 = .ok (.iconst (-1), 1) := by decide +kernel
theorem d_Bk_blockFrom_26 : decode prog_2_method_21_code 26 = .ok (.if_icmp .eq 12, 3) := by decide +kernel
theorem d_Bk_blockFrom_29 : decode prog_2_method_21_code 29 = .ok (.iload_n 1, 1) := by decide +kernel
theorem d_Bk_blockFrom_30 : decode prog_2_method_21_code 30 = .ok (.iload_n 2, 1) := by decide +kernel
theorem d_Bk_blockFrom_31 : decode prog_2_method_21_code 31 = .ok (.bipush 64, 2) := by decide +kernel
theorem d_Bk_blockFrom_33 : decode prog_2_method_21_code 33 = .ok (.imul, 1) := by decide +kernel
theorem d_Bk_blockFrom_34 : decode prog_2_method_21_code 34 = .ok (.invokestatic 95, 3) := by decide +kernel
theorem d_Bk_blockFrom_37 : decode prog_2_method_21_code 37 = .ok (.ireturn, 1) := by decide +kernel
theorem d_Bk_blockFrom_38 : decode prog_2_method_21_code 38 = .ok (.iinc 2 1, 3) := by decide +kernel
theorem d_Bk_blockFrom_41 : decode prog_2_method_21_code 41 = .ok (.goto (-30), 3) := by decide +kernel
theorem d_Bk_blockFrom_44 : decode prog_2_method_21_code 44 = .ok (.iconst (-1), 1) := by decide +kernel
theorem d_Bk_blockFrom_45 : decode prog_2_method_21_code 45 = .ok (.ireturn, 1) := by decide +kernel
noncomputable def F_Bk_blockFrom_11 (K : Int32 → zM → Prop) (n : Nat) : Int32 → Int32 → zM → Prop := Nat.rec (motive := fun _ => Int32 → Int32 → zM → Prop) (fun _ _ _ => False) (fun _ ih x1 x2 μ => ((μ 2 7) ≤ x2 → (K (-1 : Int32) μ)) ∧ (¬ (μ 2 7) ≤ x2 → (vp_in x2 64 ∧ (((μ 8 x2.toNatClampNeg) = (-1 : Int32) → (∀ x6 : Int32, x6 = x2 + 1 → (ih x1 x6 μ))) ∧ (¬ (μ 8 x2.toNatClampNeg) = (-1 : Int32) → (f_Ma_max μ x1 (x2 * (64 : Int32)) (fun r8 μ7 => (K r8 μ7)))))))) n
def f_Bk_blockFrom (μ : zM) (a1 : Int32) (K : Int32 → zM → Prop) : Prop := (0 ≤ a1 → (∀ x2 : Int32, x2 = (a1 / (64 : Int32)) → (∃ n : Nat, F_Bk_blockFrom_11 K n a1 x2 μ))) ∧ (¬ 0 ≤ a1 → (K (-1 : Int32) μ))
set_option maxHeartbeats 4000000 in
set_option maxRecDepth 100000 in
theorem L_Bk_blockFrom_11 {p : Program} {l : Launch} {e : Env} {s : State} {m : MethodId} {args : Array Value} {below : List Frame} {meth : Method} {c : Code} {E : zE} (X : zX E p s m args c prog_2_method_21_code "BeatHeap$Blocks" 3) (hr : meth.sig.returnType = (some .int)) (hlk : meth.locks = false) (K : Int32 → zM → Prop) : ∀ (n : Nat) (x1 x2 : Int32) (μ : zM) (H : Heap) (locs : List Loc) (ls : Array Slot), F_Bk_blockFrom_11 K n x1 x2 μ → zW zwC E s μ H locs → lv_has ls 3 [(0, .ref (E.2.1 2)), (1, .int x1), (2, .int x2)] → W p l e { frames := 1, cells := 0, slots := 0, locals := 21 } s m args below meth c H locs 0 0 (MQ below (va_Qi K (zR zwC E) (zA E)) args s 0 0 (zA E)) (F0 m 11 ls []) := by
  have hx := X.1
  have hb := X.2.1
  intro n
  induction n with
  | zero => intro x1 x2 μ H locs ls h; exact False.elim h
  | succ n ih =>
    intro x1 x2 μ H locs ls h w hl
    refine lv_iload_n hx hb d_Bk_blockFrom_11 rfl (lv_at hl 2 rfl) ?_
    refine lv_aload_n hx hb d_Bk_blockFrom_12 rfl (lv_at hl 0 rfl) ?_
    refine gt_2_7 X w w_fl_Bk_49 d_Bk_blockFrom_13 ?_
    refine lv_icmp_ge (tgt := 44) hx hb d_Bk_blockFrom_16 (by decide) (fun c3 => ?_) (fun c3 => ?_)
    · have h := h.1 c3
      refine lv_iconst (v := (-1)) hx hb d_Bk_blockFrom_44 (by decide) ?_
      exact z_iret X hr hlk w h d_Bk_blockFrom_45
    · have h := h.2 c3
      refine lv_aload_n hx hb d_Bk_blockFrom_19 rfl (lv_at hl 0 rfl) ?_
      refine gt_2_5 X w w_fl_Bk_28 d_Bk_blockFrom_20 ?_
      refine lv_iload_n hx hb d_Bk_blockFrom_23 rfl (lv_at hl 2 rfl) ?_
      obtain ⟨hi4, h⟩ := h
      refine al_8 X w hi4 d_Bk_blockFrom_24 ?_
      refine lv_iconst (v := (-1)) hx hb d_Bk_blockFrom_25 (by decide) ?_
      refine lv_icmp_eq (tgt := 38) hx hb d_Bk_blockFrom_26 (by decide) (fun c5 => ?_) (fun c5 => ?_)
      · have h := h.1 c5
        obtain ⟨x6, ex6⟩ : ∃ y : Int32, y = x2 + 1 := ⟨_, rfl⟩
        have h := h x6 ex6
        refine lv_iinc (v := x6) (lv' := [(2, .int x6), (0, .ref (E.2.1 2)), (1, .int x1)]) hx hb d_Bk_blockFrom_38 hl (k := 2) rfl (by rw [ex6]; rfl) (by decide) rfl (fun ls hl => ?_)
        refine lv_goto (tgt := 11) hx hb d_Bk_blockFrom_41 (by decide) ?_
        exact ih x1 x6 μ _ _ _ h w (lv_sub hl [1, 2, 0] rfl)
      · have h := h.2 c5
        refine lv_iload_n hx hb d_Bk_blockFrom_29 rfl (lv_at hl 1 rfl) ?_
        refine lv_iload_n hx hb d_Bk_blockFrom_30 rfl (lv_at hl 2 rfl) ?_
        refine lv_bipush (v := 64) hx hb d_Bk_blockFrom_31 (by decide) ?_
        refine lv_imul hx hb d_Bk_blockFrom_33 ?_
        refine z_cSi (As := [.int x1, .int (x2 * (64 : Int32))]) (rest := []) X w (c_Ma_max l E μ x1 (x2 * (64 : Int32)) _ h) w_ml_Bk_95 w_st_Ma_max w_in_Ma w_co_Ma_max q_Ma_max.1 q_Ma_max.2 rfl ⟨Nat.le_of_ble_eq_true rfl, Nat.le_of_ble_eq_true rfl⟩ ⟨Nat.zero_le _, Nat.zero_le _⟩ hl.1 rfl (Nat.le_of_ble_eq_true rfl) d_Bk_blockFrom_34 (fun r8 μ7 H locs h w => ?_)
        exact z_iret X hr hlk w h d_Bk_blockFrom_37

set_option maxHeartbeats 4000000 in
set_option maxRecDepth 100000 in
theorem c_Bk_blockFrom (l : Launch) (E : zE) (μ : zM) (a1 : Int32) (K : Int32 → zM → Prop) (h : f_Bk_blockFrom μ a1 K) : Met l y_Bk_blockFrom (Cond.code y_Bk_blockFrom prog_2_method_21_code 3 (some .int) :: zT) { frames := 1, cells := 0, slots := 0, locals := 21 } (va_Pc [.ref (E.2.1 2), .int a1] (zR zwC E μ)) (va_Qi K (zR zwC E) (zA E)) 0 0 (zA E) := by
  refine z_head (by decide) (Nat.le_of_ble_eq_true rfl) ?_
  intro p e s m below meth c X hr hlk w ls hl
  have X : zX E p s m _ c prog_2_method_21_code "BeatHeap$Blocks" 3 := X
  have hx := X.1
  have hb := X.2.1
  have hl : lv_has ls 3 [(0, .ref (E.2.1 2)), (1, .int a1)] := hl
  unfold f_Bk_blockFrom at h
  refine lv_iload_n hx hb d_Bk_blockFrom_0 rfl (lv_at hl 1 rfl) ?_
  refine lv_if_ge (tgt := 6) hx hb d_Bk_blockFrom_1 (by decide) (fun c1 => ?_) (fun c1 => ?_)
  · have h := h.1 c1
    refine lv_iload_n hx hb d_Bk_blockFrom_6 rfl (lv_at hl 1 rfl) ?_
    refine lv_bipush (v := 64) hx hb d_Bk_blockFrom_7 (by decide) ?_
    refine lv_idiv hx hb d_Bk_blockFrom_9 (by decide) ?_
    refine lv_topi (fun x2 ex2 => ?_)
    have h := h x2 ex2
    refine lv_istore_n (lv' := [(2, .int x2), (0, .ref (E.2.1 2)), (1, .int a1)]) hx hb d_Bk_blockFrom_10 rfl hl (by decide) rfl (fun ls hl => ?_)
    obtain ⟨n, h⟩ := h
    exact L_Bk_blockFrom_11 X hr hlk K n a1 x2 μ _ _ _ h w (lv_sub hl [1, 2, 0] rfl)
  · have h := h.2 c1
    refine lv_iconst (v := (-1)) hx hb d_Bk_blockFrom_4 (by decide) ?_
    exact z_iret X hr hlk w h d_Bk_blockFrom_5
theorem q_Co_endIfSwept : (y_Co_endIfSwept.cls ≠ "java/lang/invoke/MethodHandle" ∧ y_Co_endIfSwept.cls ≠ "java/lang/invoke/VarHandle") ∧ (parseMethodDescriptor y_Co_endIfSwept.desc).map (fun d => d.parameters.length) = some 0 := by decide +kernel
theorem d_Co_endIfSwept_0 : decode prog_4_method_12_code 0 = .ok (.aload_n 0, 1) := by decide +kernel
theorem d_Co_endIfSwept_1 : decode prog_4_method_12_code 1 = .ok (.getfield 12, 3) := by decide +kernel
theorem d_Co_endIfSwept_4 : decode prog_4_method_12_code 4 = .ok (.aload_n 0, 1) := by decide +kernel
theorem d_Co_endIfSwept_5 : decode prog_4_method_12_code 5 = .ok (.getfield 70, 3) := by decide +kernel
theorem d_Co_endIfSwept_8 : decode prog_4_method_12_code 8 = .ok (.invokevirtual 76, 3) := by decide +kernel
theorem d_Co_endIfSwept_11 : decode prog_4_method_12_code 11 = .ok (.iconst (-1), 1) := by decide +kernel
theorem d_Co_endIfSwept_12 : decode prog_4_method_12_code 12 = .ok (.if_icmp .ne 17, 3) := by decide +kernel
theorem d_Co_endIfSwept_15 : decode prog_4_method_12_code 15 = .ok (.aload_n 0, 1) := by decide +kernel
theorem d_Co_endIfSwept_16 : decode prog_4_method_12_code 16 = .ok (.dup, 1) := by decide +kernel
theorem d_Co_endIfSwept_17 : decode prog_4_method_12_code 17 = .ok (.getfield 46, 3) := by decide +kernel
theorem d_Co_endIfSwept_20 : decode prog_4_method_12_code 20 = .ok (.iconst 1, 1) := by decide +kernel
theorem d_Co_endIfSwept_21 : decode prog_4_method_12_code 21 = .ok (.iadd, 1) := by decide +kernel
theorem d_Co_endIfSwept_22 : decode prog_4_method_12_code 22 = .ok (.putfield 46, 3) := by decide +kernel
theorem d_Co_endIfSwept_25 : decode prog_4_method_12_code 25 = .ok (.aload_n 0, 1) := by decide +kernel
theorem d_Co_endIfSwept_26 : decode prog_4_method_12_code 26 = .ok (.invokevirtual 52, 3) := by decide +kernel
theorem d_Co_endIfSwept_29 : decode prog_4_method_12_code 29 = .ok (.return_, 1) := by decide +kernel
def f_Co_endIfSwept (μ : zM) (K : zM → Prop) : Prop := f_Bk_blockFrom μ (μ 1 12) (fun r2 μ1 => ((¬ r2 = (-1 : Int32) → (K μ1)) ∧ (r2 = (-1 : Int32) → (∀ μ4 : zM, μ4 = zp μ1 1 13 ((μ1 1 13) + (1 : Int32)) → (f_Co_rest μ4 (fun μ5 => (K μ5)))))))
set_option maxHeartbeats 4000000 in
set_option maxRecDepth 100000 in
theorem c_Co_endIfSwept (l : Launch) (E : zE) (μ : zM) (K : zM → Prop) (h : f_Co_endIfSwept μ K) : Met l y_Co_endIfSwept (Cond.code y_Co_endIfSwept prog_4_method_12_code 1 none :: zT) { frames := 2, cells := 0, slots := 0, locals := 43 } (va_Pc [.ref (E.2.1 1)] (zR zwC E μ)) (va_Qv K (zR zwC E) (zA E)) 0 0 (zA E) := by
  refine z_head (by decide) (Nat.le_of_ble_eq_true rfl) ?_
  intro p e s m below meth c X hr hlk w ls hl
  have X : zX E p s m _ c prog_4_method_12_code "BeatHeap$Collector" 1 := X
  have hx := X.1
  have hb := X.2.1
  have hl : lv_has ls 1 [(0, .ref (E.2.1 1))] := hl
  unfold f_Co_endIfSwept at h
  refine lv_aload_n hx hb d_Co_endIfSwept_0 rfl (lv_at hl 0 rfl) ?_
  refine gt_1_0 X w w_fl_Co_12 d_Co_endIfSwept_1 ?_
  refine lv_aload_n hx hb d_Co_endIfSwept_4 rfl (lv_at hl 0 rfl) ?_
  refine gt_1_12 X w w_fl_Co_70 d_Co_endIfSwept_5 ?_
  refine z_cVi (As := [.int (μ 1 12)]) (rest := []) (q0 := 2) (ci := 0) X w (c_Bk_blockFrom l E μ (μ 1 12) _ h) rfl rfl rfl w_ml_Co_76 ⟨w_im_Bk_blockFrom, w_se_Bk_blockFrom⟩ w_in_Bk w_co_Bk_blockFrom q_Bk_blockFrom.1 q_Bk_blockFrom.2 rfl ⟨Nat.le_of_ble_eq_true rfl, Nat.le_of_ble_eq_true rfl⟩ ⟨Nat.zero_le _, Nat.zero_le _⟩ hl.1 rfl (Nat.le_of_ble_eq_true rfl) d_Co_endIfSwept_8 (fun r2 μ1 H locs h w => ?_)
  refine lv_iconst (v := (-1)) hx hb d_Co_endIfSwept_11 (by decide) ?_
  refine lv_icmp_ne (tgt := 29) hx hb d_Co_endIfSwept_12 (by decide) (fun c3 => ?_) (fun c3 => ?_)
  · have h := h.1 c3
    exact z_vret X hr hlk w h d_Co_endIfSwept_29
  · have h := h.2 c3
    refine lv_aload_n hx hb d_Co_endIfSwept_15 rfl (lv_at hl 0 rfl) ?_
    refine lv_dup hx hb d_Co_endIfSwept_16 rfl ?_
    refine gt_1_13 X w w_fl_Co_46 d_Co_endIfSwept_17 ?_
    refine lv_iconst (v := 1) hx hb d_Co_endIfSwept_20 (by decide) ?_
    refine lv_iadd hx hb d_Co_endIfSwept_21 ?_
    refine pt_1_13 X w w_fl_Co_46 d_Co_endIfSwept_22 (fun μ4 H locs eμ4 w => ?_)
    have h := h μ4 eμ4
    refine lv_aload_n hx hb d_Co_endIfSwept_25 rfl (lv_at hl 0 rfl) ?_
    refine z_cVv (As := []) (rest := []) (q0 := 1) (ci := 2) X w (c_Co_rest l E μ4 _ h) rfl rfl rfl w_ml_Co_52 ⟨w_im_Co_rest, w_se_Co_rest⟩ w_in_Co w_co_Co_rest q_Co_rest.1 q_Co_rest.2 rfl ⟨Nat.le_of_ble_eq_true rfl, Nat.le_of_ble_eq_true rfl⟩ ⟨Nat.zero_le _, Nat.zero_le _⟩ hl.1 rfl (Nat.le_of_ble_eq_true rfl) d_Co_endIfSwept_26 (fun μ5 H locs h w => ?_)
    exact z_vret X hr hlk w h d_Co_endIfSwept_29
theorem q_Bk_pointersOf : (y_Bk_pointersOf.cls ≠ "java/lang/invoke/MethodHandle" ∧ y_Bk_pointersOf.cls ≠ "java/lang/invoke/VarHandle") ∧ (parseMethodDescriptor y_Bk_pointersOf.desc).map (fun d => d.parameters.length) = some 1 := by decide +kernel
theorem d_Bk_pointersOf_0 : decode prog_2_method_10_code 0 = .ok (.aload_n 0, 1) := by decide +kernel
theorem d_Bk_pointersOf_1 : decode prog_2_method_10_code 1 = .ok (.iload_n 1, 1) := by decide +kernel
theorem d_Bk_pointersOf_2 : decode prog_2_method_10_code 2 = .ok (.invokevirtual 62, 3) := by decide +kernel
theorem d_Bk_pointersOf_5 : decode prog_2_method_10_code 5 = .ok (.ifCond .eq 14, 3) := by decide +kernel
theorem d_Bk_pointersOf_8 : decode prog_2_method_10_code 8 = .ok (.aload_n 0, 1) := by decide +kernel
theorem d_Bk_pointersOf_9 : decode prog_2_method_10_code 9 = .ok (.getfield 22, 3) := by decide +kernel
theorem d_Bk_pointersOf_12 : decode prog_2_method_10_code 12 = .ok (.iload_n 1, 1) := by decide +kernel
theorem d_Bk_pointersOf_13 : decode prog_2_method_10_code 13 = .ok (.iconst 4, 1) := by decide +kernel
theorem d_Bk_pointersOf_14 : decode prog_2_method_10_code 14 = .ok (.idiv, 1) := by decide +kernel
theorem d_Bk_pointersOf_15 : decode prog_2_method_10_code 15 = .ok (.iaload, 1) := by decide +kernel
theorem d_Bk_pointersOf_16 : decode prog_2_method_10_code 16 = .ok (.goto 4, 3) := by decide +kernel
theorem d_Bk_pointersOf_19 : decode prog_2_method_10_code 19 = .ok (.iconst 0, 1) := by decide +kernel
theorem d_Bk_pointersOf_20 : decode prog_2_method_10_code 20 = .ok (.ireturn, 1) := by decide +kernel
def f_Bk_pointersOf (μ : zM) (a1 : Int32) (K : Int32 → zM → Prop) : Prop := f_Bk_isInside μ a1 (fun r2 μ1 => ((r2 = 0 → (K (0 : Int32) μ1)) ∧ (¬ r2 = 0 → (vp_in (a1 / (4 : Int32)) 1024 ∧ (K (μ1 6 (a1 / (4 : Int32)).toNatClampNeg) μ1)))))
set_option maxHeartbeats 4000000 in
set_option maxRecDepth 100000 in
theorem c_Bk_pointersOf (l : Launch) (E : zE) (μ : zM) (a1 : Int32) (K : Int32 → zM → Prop) (h : f_Bk_pointersOf μ a1 K) : Met l y_Bk_pointersOf (Cond.code y_Bk_pointersOf prog_2_method_10_code 2 (some .int) :: zT) { frames := 1, cells := 0, slots := 0, locals := 21 } (va_Pc [.ref (E.2.1 2), .int a1] (zR zwC E μ)) (va_Qi K (zR zwC E) (zA E)) 0 0 (zA E) := by
  refine z_head (by decide) (Nat.le_of_ble_eq_true rfl) ?_
  intro p e s m below meth c X hr hlk w ls hl
  have X : zX E p s m _ c prog_2_method_10_code "BeatHeap$Blocks" 2 := X
  have hx := X.1
  have hb := X.2.1
  have hl : lv_has ls 2 [(0, .ref (E.2.1 2)), (1, .int a1)] := hl
  unfold f_Bk_pointersOf at h
  refine lv_aload_n hx hb d_Bk_pointersOf_0 rfl (lv_at hl 0 rfl) ?_
  refine lv_iload_n hx hb d_Bk_pointersOf_1 rfl (lv_at hl 1 rfl) ?_
  refine z_cVi (As := [.int a1]) (rest := []) (q0 := 2) (ci := 0) X w (c_Bk_isInside l E μ a1 _ h) rfl rfl rfl w_ml_Bk_62 ⟨w_im_Bk_isInside, w_se_Bk_isInside⟩ w_in_Bk w_co_Bk_isInside q_Bk_isInside.1 q_Bk_isInside.2 rfl ⟨Nat.le_of_ble_eq_true rfl, Nat.le_of_ble_eq_true rfl⟩ ⟨Nat.zero_le _, Nat.zero_le _⟩ hl.1 rfl (Nat.le_of_ble_eq_true rfl) d_Bk_pointersOf_2 (fun r2 μ1 H locs h w => ?_)
  refine lv_if_eq (tgt := 19) hx hb d_Bk_pointersOf_5 (by decide) (fun c3 => ?_) (fun c3 => ?_)
  · have h := h.1 c3
    refine lv_iconst (v := 0) hx hb d_Bk_pointersOf_19 (by decide) ?_
    exact z_iret X hr hlk w h d_Bk_pointersOf_20
  · have h := h.2 c3
    refine lv_aload_n hx hb d_Bk_pointersOf_8 rfl (lv_at hl 0 rfl) ?_
    refine gt_2_3 X w w_fl_Bk_22 d_Bk_pointersOf_9 ?_
    refine lv_iload_n hx hb d_Bk_pointersOf_12 rfl (lv_at hl 1 rfl) ?_
    refine lv_iconst (v := 4) hx hb d_Bk_pointersOf_13 (by decide) ?_
    refine lv_idiv hx hb d_Bk_pointersOf_14 (by decide) ?_
    obtain ⟨hi4, h⟩ := h
    refine al_6 X w hi4 d_Bk_pointersOf_15 ?_
    refine lv_goto (tgt := 20) hx hb d_Bk_pointersOf_16 (by decide) ?_
    exact z_iret X hr hlk w h d_Bk_pointersOf_20
theorem q_Bk_wordAt : (y_Bk_wordAt.cls ≠ "java/lang/invoke/MethodHandle" ∧ y_Bk_wordAt.cls ≠ "java/lang/invoke/VarHandle") ∧ (parseMethodDescriptor y_Bk_wordAt.desc).map (fun d => d.parameters.length) = some 1 := by decide +kernel
theorem d_Bk_wordAt_0 : decode prog_2_method_5_code 0 = .ok (.aload_n 0, 1) := by decide +kernel
theorem d_Bk_wordAt_1 : decode prog_2_method_5_code 1 = .ok (.iload_n 1, 1) := by decide +kernel
theorem d_Bk_wordAt_2 : decode prog_2_method_5_code 2 = .ok (.invokevirtual 62, 3) := by decide +kernel
theorem d_Bk_wordAt_5 : decode prog_2_method_5_code 5 = .ok (.ifCond .eq 12, 3) := by decide +kernel
theorem d_Bk_wordAt_8 : decode prog_2_method_5_code 8 = .ok (.aload_n 0, 1) := by decide +kernel
theorem d_Bk_wordAt_9 : decode prog_2_method_5_code 9 = .ok (.getfield 9, 3) := by decide +kernel
theorem d_Bk_wordAt_12 : decode prog_2_method_5_code 12 = .ok (.iload_n 1, 1) := by decide +kernel
theorem d_Bk_wordAt_13 : decode prog_2_method_5_code 13 = .ok (.iaload, 1) := by decide +kernel
theorem d_Bk_wordAt_14 : decode prog_2_method_5_code 14 = .ok (.goto 4, 3) := by decide +kernel
theorem d_Bk_wordAt_17 : decode prog_2_method_5_code 17 = .ok (.iconst 0, 1) := by decide +kernel
theorem d_Bk_wordAt_18 : decode prog_2_method_5_code 18 = .ok (.ireturn, 1) := by decide +kernel
def f_Bk_wordAt (μ : zM) (a1 : Int32) (K : Int32 → zM → Prop) : Prop := f_Bk_isInside μ a1 (fun r2 μ1 => ((r2 = 0 → (K (0 : Int32) μ1)) ∧ (¬ r2 = 0 → (vp_in a1 4096 ∧ (K (μ1 3 a1.toNatClampNeg) μ1)))))
set_option maxHeartbeats 4000000 in
set_option maxRecDepth 100000 in
theorem c_Bk_wordAt (l : Launch) (E : zE) (μ : zM) (a1 : Int32) (K : Int32 → zM → Prop) (h : f_Bk_wordAt μ a1 K) : Met l y_Bk_wordAt (Cond.code y_Bk_wordAt prog_2_method_5_code 2 (some .int) :: zT) { frames := 1, cells := 0, slots := 0, locals := 21 } (va_Pc [.ref (E.2.1 2), .int a1] (zR zwC E μ)) (va_Qi K (zR zwC E) (zA E)) 0 0 (zA E) := by
  refine z_head (by decide) (Nat.le_of_ble_eq_true rfl) ?_
  intro p e s m below meth c X hr hlk w ls hl
  have X : zX E p s m _ c prog_2_method_5_code "BeatHeap$Blocks" 2 := X
  have hx := X.1
  have hb := X.2.1
  have hl : lv_has ls 2 [(0, .ref (E.2.1 2)), (1, .int a1)] := hl
  unfold f_Bk_wordAt at h
  refine lv_aload_n hx hb d_Bk_wordAt_0 rfl (lv_at hl 0 rfl) ?_
  refine lv_iload_n hx hb d_Bk_wordAt_1 rfl (lv_at hl 1 rfl) ?_
  refine z_cVi (As := [.int a1]) (rest := []) (q0 := 2) (ci := 0) X w (c_Bk_isInside l E μ a1 _ h) rfl rfl rfl w_ml_Bk_62 ⟨w_im_Bk_isInside, w_se_Bk_isInside⟩ w_in_Bk w_co_Bk_isInside q_Bk_isInside.1 q_Bk_isInside.2 rfl ⟨Nat.le_of_ble_eq_true rfl, Nat.le_of_ble_eq_true rfl⟩ ⟨Nat.zero_le _, Nat.zero_le _⟩ hl.1 rfl (Nat.le_of_ble_eq_true rfl) d_Bk_wordAt_2 (fun r2 μ1 H locs h w => ?_)
  refine lv_if_eq (tgt := 17) hx hb d_Bk_wordAt_5 (by decide) (fun c3 => ?_) (fun c3 => ?_)
  · have h := h.1 c3
    refine lv_iconst (v := 0) hx hb d_Bk_wordAt_17 (by decide) ?_
    exact z_iret X hr hlk w h d_Bk_wordAt_18
  · have h := h.2 c3
    refine lv_aload_n hx hb d_Bk_wordAt_8 rfl (lv_at hl 0 rfl) ?_
    refine gt_2_0 X w w_fl_Bk_9 d_Bk_wordAt_9 ?_
    refine lv_iload_n hx hb d_Bk_wordAt_12 rfl (lv_at hl 1 rfl) ?_
    obtain ⟨hi4, h⟩ := h
    refine al_3 X w hi4 d_Bk_wordAt_13 ?_
    refine lv_goto (tgt := 18) hx hb d_Bk_wordAt_14 (by decide) ?_
    exact z_iret X hr hlk w h d_Bk_wordAt_18
theorem q_Bk_pointerAt : (y_Bk_pointerAt.cls ≠ "java/lang/invoke/MethodHandle" ∧ y_Bk_pointerAt.cls ≠ "java/lang/invoke/VarHandle") ∧ (parseMethodDescriptor y_Bk_pointerAt.desc).map (fun d => d.parameters.length) = some 1 := by decide +kernel
theorem d_Bk_pointerAt_0 : decode prog_2_method_7_code 0 = .ok (.aload_n 0, 1) := by decide +kernel
theorem d_Bk_pointerAt_1 : decode prog_2_method_7_code 1 = .ok (.iload_n 1, 1) := by decide +kernel
theorem d_Bk_pointerAt_2 : decode prog_2_method_7_code 2 = .ok (.invokevirtual 66, 3) := by decide +kernel
theorem d_Bk_pointerAt_5 : decode prog_2_method_7_code 5 = .ok (.iconst 1, 1) := by decide +kernel
theorem d_Bk_pointerAt_6 : decode prog_2_method_7_code 6 = .ok (.isub, 1) := by decide +kernel
theorem d_Bk_pointerAt_7 : decode prog_2_method_7_code 7 = .ok (.ireturn, 1) := by decide +kernel
def f_Bk_pointerAt (μ : zM) (a1 : Int32) (K : Int32 → zM → Prop) : Prop := f_Bk_wordAt μ a1 (fun r2 μ1 => (K (r2 - (1 : Int32)) μ1))
set_option maxHeartbeats 4000000 in
set_option maxRecDepth 100000 in
theorem c_Bk_pointerAt (l : Launch) (E : zE) (μ : zM) (a1 : Int32) (K : Int32 → zM → Prop) (h : f_Bk_pointerAt μ a1 K) : Met l y_Bk_pointerAt (Cond.code y_Bk_pointerAt prog_2_method_7_code 2 (some .int) :: zT) { frames := 2, cells := 0, slots := 0, locals := 42 } (va_Pc [.ref (E.2.1 2), .int a1] (zR zwC E μ)) (va_Qi K (zR zwC E) (zA E)) 0 0 (zA E) := by
  refine z_head (by decide) (Nat.le_of_ble_eq_true rfl) ?_
  intro p e s m below meth c X hr hlk w ls hl
  have X : zX E p s m _ c prog_2_method_7_code "BeatHeap$Blocks" 2 := X
  have hx := X.1
  have hb := X.2.1
  have hl : lv_has ls 2 [(0, .ref (E.2.1 2)), (1, .int a1)] := hl
  unfold f_Bk_pointerAt at h
  refine lv_aload_n hx hb d_Bk_pointerAt_0 rfl (lv_at hl 0 rfl) ?_
  refine lv_iload_n hx hb d_Bk_pointerAt_1 rfl (lv_at hl 1 rfl) ?_
  refine z_cVi (As := [.int a1]) (rest := []) (q0 := 2) (ci := 0) X w (c_Bk_wordAt l E μ a1 _ h) rfl rfl rfl w_ml_Bk_66 ⟨w_im_Bk_wordAt, w_se_Bk_wordAt⟩ w_in_Bk w_co_Bk_wordAt q_Bk_wordAt.1 q_Bk_wordAt.2 rfl ⟨Nat.le_of_ble_eq_true rfl, Nat.le_of_ble_eq_true rfl⟩ ⟨Nat.zero_le _, Nat.zero_le _⟩ hl.1 rfl (Nat.le_of_ble_eq_true rfl) d_Bk_pointerAt_2 (fun r2 μ1 H locs h w => ?_)
  refine lv_iconst (v := 1) hx hb d_Bk_pointerAt_5 (by decide) ?_
  refine lv_isub hx hb d_Bk_pointerAt_6 ?_
  exact z_iret X hr hlk w h d_Bk_pointerAt_7
