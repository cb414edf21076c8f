theorem q_Bk_hold : (y_Bk_hold.cls ≠ "java/lang/invoke/MethodHandle" ∧ y_Bk_hold.cls ≠ "java/lang/invoke/VarHandle") ∧ (parseMethodDescriptor y_Bk_hold.desc).map (fun d => d.parameters.length) = some 4 := by decide +kernel
theorem d_Bk_hold_0 : decode prog_2_method_17_code 0 = .ok (.aload_n 0, 1) := by decide +kernel
theorem d_Bk_hold_1 : decode prog_2_method_17_code 1 = .ok (.aload_n 0, 1) := by decide +kernel
theorem d_Bk_hold_2 : decode prog_2_method_17_code 2 = .ok (.iload_n 1, 1) := by decide +kernel
theorem d_Bk_hold_3 : decode prog_2_method_17_code 3 = .ok (.invokevirtual 77, 3) := by decide +kernel
theorem d_Bk_hold_6 : decode prog_2_method_17_code 6 = .ok (.invokevirtual 80, 3) := by decide +kernel
theorem d_Bk_hold_9 : decode prog_2_method_17_code 9 = .ok (.istore 5, 2) := by decide +kernel
theorem d_Bk_hold_11 : decode prog_2_method_17_code 11 = .ok (.aload_n 0, 1) := by decide +kernel
theorem d_Bk_hold_12 : decode prog_2_method_17_code 12 = .ok (.iload 5, 2) := by decide +kernel
theorem d_Bk_hold_14 : decode prog_2_method_17_code 14 = .ok (.invokevirtual 62, 3) := by decide +kernel
theorem d_Bk_hold_17 : decode prog_2_method_17_code 17 = .ok (.ifCond .ne 5, 3) := by decide +kernel
theorem d_Bk_hold_20 : decode prog_2_method_17_code 20 = .ok (.iconst (-1), 1) := by decide +kernel
theorem d_Bk_hold_21 : decode prog_2_method_17_code 21 = .ok (.ireturn, 1) := by decide +kernel
theorem d_Bk_hold_22 : decode prog_2_method_17_code 22 = .ok (.iload 5, 2) := by decide +kernel
theorem d_Bk_hold_24 : decode prog_2_method_17_code 24 = .ok (.iconst 4, 1) := by decide +kernel
theorem d_Bk_hold_25 : decode prog_2_method_17_code 25 = .ok (.idiv, 1) := by decide +kernel
theorem d_Bk_hold_26 : decode prog_2_method_17_code 26 = .ok (.istore 6, 2) := by decide +kernel
theorem d_Bk_hold_28 : decode prog_2_method_17_code 28 = .ok (.aload_n 0, 1) := by decide +kernel
theorem d_Bk_hold_29 : decode prog_2_method_17_code 29 = .ok (.getfield 15, 3) := by decide +kernel
theorem d_Bk_hold_32 : decode prog_2_method_17_code 32 = .ok (.iload 6, 2) := by decide +kernel
theorem d_Bk_hold_34 : decode prog_2_method_17_code 34 = .ok (.iload_n 2, 1) := by decide +kernel
theorem d_Bk_hold_35 : decode prog_2_method_17_code 35 = .ok (.i2b, 1) := by decide +kernel
theorem d_Bk_hold_36 : decode prog_2_method_17_code 36 = .ok (.bastore, 1) := by decide +kernel
theorem d_Bk_hold_37 : decode prog_2_method_17_code 37 = .ok (.aload_n 0, 1) := by decide +kernel
theorem d_Bk_hold_38 : decode prog_2_method_17_code 38 = .ok (.getfield 22, 3) := by decide +kernel
theorem d_Bk_hold_41 : decode prog_2_method_17_code 41 = .ok (.iload 6, 2) := by decide +kernel
theorem d_Bk_hold_43 : decode prog_2_method_17_code 43 = .ok (.iload_n 3, 1) := by decide +kernel
theorem d_Bk_hold_44 : decode prog_2_method_17_code 44 = .ok (.iastore, 1) := by decide +kernel
theorem d_Bk_hold_45 : decode prog_2_method_17_code 45 = .ok (.aload_n 0, 1) := by decide +kernel
theorem d_Bk_hold_46 : decode prog_2_method_17_code 46 = .ok (.getfield 25, 3) := by decide +kernel
theorem d_Bk_hold_49 : decode prog_2_method_17_code 49 = .ok (.iload 6, 2) := by decide +kernel
theorem d_Bk_hold_51 : decode prog_2_method_17_code 51 = .ok (.iload 4, 2) := by decide +kernel
theorem d_Bk_hold_53 : decode prog_2_method_17_code 53 = .ok (.iastore, 1) := by decide +kernel
theorem d_Bk_hold_54 : decode prog_2_method_17_code 54 = .ok (.aload_n 0, 1) := by decide +kernel
theorem d_Bk_hold_55 : decode prog_2_method_17_code 55 = .ok (.getfield 31, 3) := by decide +kernel
theorem d_Bk_hold_58 : decode prog_2_method_17_code 58 = .ok (.iload 5, 2) := by decide +kernel
theorem d_Bk_hold_60 : decode prog_2_method_17_code 60 = .ok (.bipush 64, 2) := by decide +kernel
theorem d_Bk_hold_62 : decode prog_2_method_17_code 62 = .ok (.idiv, 1) := by decide +kernel
theorem d_Bk_hold_63 : decode prog_2_method_17_code 63 = .ok (.dup2, 1) := by decide +kernel
theorem d_Bk_hold_64 : decode prog_2_method_17_code 64 = .ok (.iaload, 1) := by decide +kernel
theorem d_Bk_hold_65 : decode prog_2_method_17_code 65 = .ok (.iconst 1, 1) := by decide +kernel
theorem d_Bk_hold_66 : decode prog_2_method_17_code 66 = .ok (.iadd, 1) := by decide +kernel
theorem d_Bk_hold_67 : decode prog_2_method_17_code 67 = .ok (.iastore, 1) := by decide +kernel
theorem d_Bk_hold_68 : decode prog_2_method_17_code 68 = .ok (.aload_n 0, 1) := by decide +kernel
theorem d_Bk_hold_69 : decode prog_2_method_17_code 69 = .ok (.dup, 1) := by decide +kernel
theorem d_Bk_hold_70 : decode prog_2_method_17_code 70 = .ok (.getfield 56, 3) := by decide +kernel
theorem d_Bk_hold_73 : decode prog_2_method_17_code 73 = .ok (.iconst 1, 1) := by decide +kernel
theorem d_Bk_hold_74 : decode prog_2_method_17_code 74 = .ok (.iadd, 1) := by decide +kernel
theorem d_Bk_hold_75 : decode prog_2_method_17_code 75 = .ok (.putfield 56, 3) := by decide +kernel
theorem d_Bk_hold_78 : decode prog_2_method_17_code 78 = .ok (.iload 5, 2) := by decide +kernel
theorem d_Bk_hold_80 : decode prog_2_method_17_code 80 = .ok (.ireturn, 1) := by decide +kernel
def f_Bk_hold (μ : zM) (a1 a2 a3 a4 : Int32) (K : Int32 → zM → Prop) : Prop := f_Bk_pageWithRoom μ a1 (fun r2 μ1 => (f_Bk_firstVacant μ1 r2 (fun r4 μ3 => (f_Bk_isInside μ3 r4 (fun r6 μ5 => ((¬ r6 = 0 → (∀ x8 : Int32, x8 = (r4 / (4 : Int32)) → (vp_in x8 1024 ∧ ∀ μ10 : zM, μ10 = zp μ5 4 x8.toNatClampNeg (vp_nar .byte a2.toInt8.toInt32) → (vp_in x8 1024 ∧ ∀ μ12 : zM, μ12 = zp μ10 6 x8.toNatClampNeg a3 → (vp_in x8 1024 ∧ ∀ μ14 : zM, μ14 = zp μ12 7 x8.toNatClampNeg a4 → (vp_in (r4 / (64 : Int32)) 64 ∧ (vp_in (r4 / (64 : Int32)) 64 ∧ ∀ μ17 : zM, μ17 = zp μ14 9 (r4 / (64 : Int32)).toNatClampNeg ((μ14 9 (r4 / (64 : Int32)).toNatClampNeg) + (1 : Int32)) → (∀ μ18 : zM, μ18 = zp μ17 2 9 ((μ17 2 9) + (1 : Int32)) → (K r4 μ18))))))))) ∧ (r6 = 0 → (K (-1 : Int32) μ5))))))))
set_option maxHeartbeats 4000000 in
set_option maxRecDepth 100000 in
theorem c_Bk_hold (l : Launch) (E : zE) (μ : zM) (a1 a2 a3 a4 : Int32) (K : Int32 → zM → Prop) (h : f_Bk_hold μ a1 a2 a3 a4 K) : Met l y_Bk_hold (Cond.code y_Bk_hold prog_2_method_17_code 7 (some .int) :: zT) { frames := 3, cells := 0, slots := 0, locals := 65 } (va_Pc [.ref (E.2.1 2), .int a1, .int a2, .int a3, .int a4] (zR zwC E μ)) (va_Qi K (zR zwC E) (zA E)) 0 0 (zA E) := by
  refine z_head (by decide) (Nat.le_of_ble_eq_true rfl) ?_
  intro p e s m below meth c X hr hlk w ls hl
  have X : zX E p s m _ c prog_2_method_17_code "BeatHeap$Blocks" 7 := X
  have hx := X.1
  have hb := X.2.1
  have hl : lv_has ls 7 [(0, .ref (E.2.1 2)), (1, .int a1), (2, .int a2), (3, .int a3), (4, .int a4)] := hl
  unfold f_Bk_hold at h
  refine lv_aload_n hx hb d_Bk_hold_0 rfl (lv_at hl 0 rfl) ?_
  refine lv_aload_n hx hb d_Bk_hold_1 rfl (lv_at hl 0 rfl) ?_
  refine lv_iload_n hx hb d_Bk_hold_2 rfl (lv_at hl 1 rfl) ?_
  refine z_cVi (As := [.int a1]) (rest := [.ref (E.2.1 2)]) (q0 := 2) (ci := 0) X w (c_Bk_pageWithRoom l E μ a1 _ h) rfl rfl rfl w_ml_Bk_77 ⟨w_im_Bk_pageWithRoom, w_se_Bk_pageWithRoom⟩ w_in_Bk w_co_Bk_pageWithRoom q_Bk_pageWithRoom.1 q_Bk_pageWithRoom.2 rfl ⟨Nat.le_of_ble_eq_true rfl, Nat.le_of_ble_eq_true rfl⟩ ⟨Nat.zero_le _, Nat.zero_le _⟩ hl.1 rfl (Nat.le_of_ble_eq_true rfl) d_Bk_hold_3 (fun r2 μ1 H locs h w => ?_)
  refine z_cVi (As := [.int r2]) (rest := []) (q0 := 2) (ci := 0) X w (c_Bk_firstVacant l E μ1 r2 _ h) rfl rfl rfl w_ml_Bk_80 ⟨w_im_Bk_firstVacant, w_se_Bk_firstVacant⟩ w_in_Bk w_co_Bk_firstVacant q_Bk_firstVacant.1 q_Bk_firstVacant.2 rfl ⟨Nat.le_of_ble_eq_true rfl, Nat.le_of_ble_eq_true rfl⟩ ⟨Nat.zero_le _, Nat.zero_le _⟩ hl.1 rfl (Nat.le_of_ble_eq_true rfl) d_Bk_hold_6 (fun r4 μ3 H locs h w => ?_)
  refine lv_istore (lv' := [(5, .int r4), (0, .ref (E.2.1 2)), (1, .int a1), (2, .int a2), (3, .int a3), (4, .int a4)]) hx hb d_Bk_hold_9 hl (by decide) rfl (fun ls hl => ?_)
  refine lv_aload_n hx hb d_Bk_hold_11 rfl (lv_at hl 1 rfl) ?_
  refine lv_iload hx hb d_Bk_hold_12 (lv_at hl 0 rfl) ?_
  refine z_cVi (As := [.int r4]) (rest := []) (q0 := 2) (ci := 0) X w (c_Bk_isInside l E μ3 r4 _ h) rfl rfl rfl w_ml_Bk_62 ⟨w_im_Bk_isInside, w_se_Bk_isInside⟩ w_in_Bk w_co_Bk_isInside q_Bk_isInside.1 q_Bk_isInside.2 rfl ⟨Nat.le_of_ble_eq_true rfl, Nat.le_of_ble_eq_true rfl⟩ ⟨Nat.zero_le _, Nat.zero_le _⟩ hl.1 rfl (Nat.le_of_ble_eq_true rfl) d_Bk_hold_14 (fun r6 μ5 H locs h w => ?_)
  refine lv_if_ne (tgt := 22) hx hb d_Bk_hold_17 (by decide) (fun c7 => ?_) (fun c7 => ?_)
  · have h := h.1 c7
    refine lv_iload hx hb d_Bk_hold_22 (lv_at hl 0 rfl) ?_
    refine lv_iconst (v := 4) hx hb d_Bk_hold_24 (by decide) ?_
    refine lv_idiv hx hb d_Bk_hold_25 (by decide) ?_
    refine lv_topi (fun x8 ex8 => ?_)
    have h := h x8 ex8
    refine lv_istore (lv' := [(6, .int x8), (5, .int r4), (0, .ref (E.2.1 2)), (1, .int a1), (2, .int a2), (3, .int a3), (4, .int a4)]) hx hb d_Bk_hold_26 hl (by decide) rfl (fun ls hl => ?_)
    refine lv_aload_n hx hb d_Bk_hold_28 rfl (lv_at hl 2 rfl) ?_
    refine gt_2_1 X w w_fl_Bk_15 d_Bk_hold_29 ?_
    refine lv_iload hx hb d_Bk_hold_32 (lv_at hl 0 rfl) ?_
    refine lv_iload_n hx hb d_Bk_hold_34 rfl (lv_at hl 4 rfl) ?_
    refine lv_i2b hx hb d_Bk_hold_35 rfl ?_
    obtain ⟨hi9, h⟩ := h
    refine as_4 X w hi9 d_Bk_hold_36 (fun μ10 H locs eμ10 w => ?_)
    have h := h μ10 eμ10
    refine lv_aload_n hx hb d_Bk_hold_37 rfl (lv_at hl 2 rfl) ?_
    refine gt_2_3 X w w_fl_Bk_22 d_Bk_hold_38 ?_
    refine lv_iload hx hb d_Bk_hold_41 (lv_at hl 0 rfl) ?_
    refine lv_iload_n hx hb d_Bk_hold_43 rfl (lv_at hl 5 rfl) ?_
    obtain ⟨hi11, h⟩ := h
    refine as_6 X w hi11 d_Bk_hold_44 (fun μ12 H locs eμ12 w => ?_)
    have h := h μ12 eμ12
    refine lv_aload_n hx hb d_Bk_hold_45 rfl (lv_at hl 2 rfl) ?_
    refine gt_2_4 X w w_fl_Bk_25 d_Bk_hold_46 ?_
    refine lv_iload hx hb d_Bk_hold_49 (lv_at hl 0 rfl) ?_
    refine lv_iload hx hb d_Bk_hold_51 (lv_at hl 6 rfl) ?_
    obtain ⟨hi13, h⟩ := h
    refine as_7 X w hi13 d_Bk_hold_53 (fun μ14 H locs eμ14 w => ?_)
    have h := h μ14 eμ14
    refine lv_aload_n hx hb d_Bk_hold_54 rfl (lv_at hl 2 rfl) ?_
    refine gt_2_6 X w w_fl_Bk_31 d_Bk_hold_55 ?_
    refine lv_iload hx hb d_Bk_hold_58 (lv_at hl 1 rfl) ?_
    refine lv_bipush (v := 64) hx hb d_Bk_hold_60 (by decide) ?_
    refine lv_idiv hx hb d_Bk_hold_62 (by decide) ?_
    refine lv_dup2_11 hx hb d_Bk_hold_63 rfl rfl ?_
    obtain ⟨hi15, h⟩ := h
    refine al_9 X w hi15 d_Bk_hold_64 ?_
    refine lv_iconst (v := 1) hx hb d_Bk_hold_65 (by decide) ?_
    refine lv_iadd hx hb d_Bk_hold_66 ?_
    obtain ⟨hi16, h⟩ := h
    refine as_9 X w hi16 d_Bk_hold_67 (fun μ17 H locs eμ17 w => ?_)
    have h := h μ17 eμ17
    refine lv_aload_n hx hb d_Bk_hold_68 rfl (lv_at hl 2 rfl) ?_
    refine lv_dup hx hb d_Bk_hold_69 rfl ?_
    refine gt_2_9 X w w_fl_Bk_56 d_Bk_hold_70 ?_
    refine lv_iconst (v := 1) hx hb d_Bk_hold_73 (by decide) ?_
    refine lv_iadd hx hb d_Bk_hold_74 ?_
    refine pt_2_9 X w w_fl_Bk_56 d_Bk_hold_75 (fun μ18 H locs eμ18 w => ?_)
    have h := h μ18 eμ18
    refine lv_iload hx hb d_Bk_hold_78 (lv_at hl 1 rfl) ?_
    exact z_iret X hr hlk w h d_Bk_hold_80
  · have h := h.2 c7
    refine lv_iconst (v := (-1)) hx hb d_Bk_hold_20 (by decide) ?_
    exact z_iret X hr hlk w h d_Bk_hold_21
theorem q_Bk_setMark : (y_Bk_setMark.cls ≠ "java/lang/invoke/MethodHandle" ∧ y_Bk_setMark.cls ≠ "java/lang/invoke/VarHandle") ∧ (parseMethodDescriptor y_Bk_setMark.desc).map (fun d => d.parameters.length) = some 2 := by decide +kernel
theorem d_Bk_setMark_0 : decode prog_2_method_13_code 0 = .ok (.aload_n 0, 1) := by decide +kernel
theorem d_Bk_setMark_1 : decode prog_2_method_13_code 1 = .ok (.iload_n 1, 1) := by decide +kernel
theorem d_Bk_setMark_2 : decode prog_2_method_13_code 2 = .ok (.invokevirtual 62, 3) := by decide +kernel
theorem d_Bk_setMark_5 : decode prog_2_method_13_code 5 = .ok (.ifCond .eq 21, 3) := by decide +kernel
theorem d_Bk_setMark_8 : decode prog_2_method_13_code 8 = .ok (.aload_n 0, 1) := by decide +kernel
theorem d_Bk_setMark_9 : decode prog_2_method_13_code 9 = .ok (.getfield 19, 3) := by decide +kernel
theorem d_Bk_setMark_12 : decode prog_2_method_13_code 12 = .ok (.iload_n 1, 1) := by decide +kernel
theorem d_Bk_setMark_13 : decode prog_2_method_13_code 13 = .ok (.iconst 4, 1) := by decide +kernel
theorem d_Bk_setMark_14 : decode prog_2_method_13_code 14 = .ok (.idiv, 1) := by decide +kernel
theorem d_Bk_setMark_15 : decode prog_2_method_13_code 15 = .ok (.iload_n 2, 1) := by decide +kernel
theorem d_Bk_setMark_16 : decode prog_2_method_13_code 16 = .ok (.ifCond .eq 7, 3) := by decide +kernel
theorem d_Bk_setMark_19 : decode prog_2_method_13_code 19 = .ok (.iconst 1, 1) := by decide +kernel
theorem d_Bk_setMark_20 : decode prog_2_method_13_code 20 = .ok (.goto 4, 3) := by decide +kernel
theorem d_Bk_setMark_23 : decode prog_2_method_13_code 23 = .ok (.iconst 0, 1) := by decide +kernel
theorem d_Bk_setMark_24 : decode prog_2_method_13_code 24 = .ok (.i2b, 1) := by decide +kernel
theorem d_Bk_setMark_25 : decode prog_2_method_13_code 25 = .ok (.bastore, 1) := by decide +kernel
theorem d_Bk_setMark_26 : decode prog_2_method_13_code 26 = .ok (.return_, 1) := by decide +kernel
def f_Bk_setMark (μ : zM) (a1 a2 : Int32) (K : zM → Prop) : Prop := f_Bk_isInside μ a1 (fun r2 μ1 => ((r2 = 0 → (K μ1)) ∧ (¬ r2 = 0 → ((a2 = 0 → (vp_in (a1 / (4 : Int32)) 1024 ∧ ∀ μ6 : zM, μ6 = zp μ1 5 (a1 / (4 : Int32)).toNatClampNeg (vp_nar .byte (0 : Int32)) → (K μ6))) ∧ (¬ a2 = 0 → (vp_in (a1 / (4 : Int32)) 1024 ∧ ∀ μ8 : zM, μ8 = zp μ1 5 (a1 / (4 : Int32)).toNatClampNeg (vp_nar .byte (1 : Int32)) → (K μ8)))))))
set_option maxHeartbeats 4000000 in
set_option maxRecDepth 100000 in
theorem c_Bk_setMark (l : Launch) (E : zE) (μ : zM) (a1 a2 : Int32) (K : zM → Prop) (h : f_Bk_setMark μ a1 a2 K) : Met l y_Bk_setMark (Cond.code y_Bk_setMark prog_2_method_13_code 3 none :: zT) { frames := 1, cells := 0, slots := 0, locals := 21 } (va_Pc [.ref (E.2.1 2), .int a1, .int a2] (zR zwC E μ)) (va_Qv K (zR zwC E) (zA E)) 0 0 (zA E) := by
  refine z_head (by decide) (Nat.le_of_ble_eq_true rfl) ?_
  intro p e s m below meth c X hr hlk w ls hl
  have X : zX E p s m _ c prog_2_method_13_code "BeatHeap$Blocks" 3 := X
  have hx := X.1
  have hb := X.2.1
  have hl : lv_has ls 3 [(0, .ref (E.2.1 2)), (1, .int a1), (2, .int a2)] := hl
  unfold f_Bk_setMark at h
  refine lv_aload_n hx hb d_Bk_setMark_0 rfl (lv_at hl 0 rfl) ?_
  refine lv_iload_n hx hb d_Bk_setMark_1 rfl (lv_at hl 1 rfl) ?_
  refine z_cVi (As := [.int a1]) (rest := []) (q0 := 2) (ci := 0) X w (c_Bk_isInside l E μ a1 _ h) rfl rfl rfl w_ml_Bk_62 ⟨w_im_Bk_isInside, w_se_Bk_isInside⟩ w_in_Bk w_co_Bk_isInside q_Bk_isInside.1 q_Bk_isInside.2 rfl ⟨Nat.le_of_ble_eq_true rfl, Nat.le_of_ble_eq_true rfl⟩ ⟨Nat.zero_le _, Nat.zero_le _⟩ hl.1 rfl (Nat.le_of_ble_eq_true rfl) d_Bk_setMark_2 (fun r2 μ1 H locs h w => ?_)
  refine lv_if_eq (tgt := 26) hx hb d_Bk_setMark_5 (by decide) (fun c3 => ?_) (fun c3 => ?_)
  · have h := h.1 c3
    exact z_vret X hr hlk w h d_Bk_setMark_26
  · have h := h.2 c3
    refine lv_aload_n hx hb d_Bk_setMark_8 rfl (lv_at hl 0 rfl) ?_
    refine gt_2_2 X w w_fl_Bk_19 d_Bk_setMark_9 ?_
    refine lv_iload_n hx hb d_Bk_setMark_12 rfl (lv_at hl 1 rfl) ?_
    refine lv_iconst (v := 4) hx hb d_Bk_setMark_13 (by decide) ?_
    refine lv_idiv hx hb d_Bk_setMark_14 (by decide) ?_
    refine lv_iload_n hx hb d_Bk_setMark_15 rfl (lv_at hl 2 rfl) ?_
    refine lv_if_eq (tgt := 23) hx hb d_Bk_setMark_16 (by decide) (fun c4 => ?_) (fun c4 => ?_)
    · have h := h.1 c4
      refine lv_iconst (v := 0) hx hb d_Bk_setMark_23 (by decide) ?_
      refine lv_i2b (v := (0 : Int32)) hx hb d_Bk_setMark_24 (by decide) ?_
      obtain ⟨hi5, h⟩ := h
      refine as_5 X w hi5 d_Bk_setMark_25 (fun μ6 H locs eμ6 w => ?_)
      have h := h μ6 eμ6
      exact z_vret X hr hlk w h d_Bk_setMark_26
    · have h := h.2 c4
      refine lv_iconst (v := 1) hx hb d_Bk_setMark_19 (by decide) ?_
      refine lv_goto (tgt := 24) hx hb d_Bk_setMark_20 (by decide) ?_
      refine lv_i2b (v := (1 : Int32)) hx hb d_Bk_setMark_24 (by decide) ?_
      obtain ⟨hi7, h⟩ := h
      refine as_5 X w hi7 d_Bk_setMark_25 (fun μ8 H locs eμ8 w => ?_)
      have h := h μ8 eμ8
      exact z_vret X hr hlk w h d_Bk_setMark_26
theorem q_Co_markTaken : (y_Co_markTaken.cls ≠ "java/lang/invoke/MethodHandle" ∧ y_Co_markTaken.cls ≠ "java/lang/invoke/VarHandle") ∧ (parseMethodDescriptor y_Co_markTaken.desc).map (fun d => d.parameters.length) = some 1 := by decide +kernel
theorem d_Co_markTaken_0 : decode prog_4_method_14_code 0 = .ok (.aload_n 0, 1) := by decide +kernel
theorem d_Co_markTaken_1 : decode prog_4_method_14_code 1 = .ok (.getfield 55, 3) := by decide +kernel
theorem d_Co_markTaken_4 : decode prog_4_method_14_code 4 = .ok (.iconst 3, 1) := by decide +kernel
theorem d_Co_markTaken_5 : decode prog_4_method_14_code 5 = .ok (.if_icmp .ne 15, 3) := by decide +kernel
theorem d_Co_markTaken_8 : decode prog_4_method_14_code 8 = .ok (.iload_n 1, 1) := by decide +kernel
theorem d_Co_markTaken_9 : decode prog_4_method_14_code 9 = .ok (.aload_n 0, 1) := by decide +kernel
theorem d_Co_markTaken_10 : decode prog_4_method_14_code 10 = .ok (.getfield 70, 3) := by decide +kernel
theorem d_Co_markTaken_13 : decode prog_4_method_14_code 13 = .ok (.if_icmp .lt 7, 3) := by decide +kernel
theorem d_Co_markTaken_16 : decode prog_4_method_14_code 16 = .ok (.iconst 1, 1) := by decide +kernel
theorem d_Co_markTaken_17 : decode prog_4_method_14_code 17 = .ok (.goto 4, 3) := by decide +kernel
theorem d_Co_markTaken_20 : decode prog_4_method_14_code 20 = .ok (.iconst 0, 1) := by decide +kernel
theorem d_Co_markTaken_21 : decode prog_4_method_14_code 21 = .ok (.istore_n 2, 1) := by decide +kernel
theorem d_Co_markTaken_22 : decode prog_4_method_14_code 22 = .ok (.aload_n 0, 1) := by decide +kernel
theorem d_Co_markTaken_23 : decode prog_4_method_14_code 23 = .ok (.getfield 55, 3) := by decide +kernel
theorem d_Co_markTaken_26 : decode prog_4_method_14_code 26 = .ok (.iconst 1, 1) := by decide +kernel
theorem d_Co_markTaken_27 : decode prog_4_method_14_code 27 = .ok (.if_icmp .eq 15, 3) := by decide +kernel
theorem d_Co_markTaken_30 : decode prog_4_method_14_code 30 = .ok (.aload_n 0, 1) := by decide +kernel
theorem d_Co_markTaken_31 : decode prog_4_method_14_code 31 = .ok (.getfield 55, 3) := by decide +kernel
theorem d_Co_markTaken_34 : decode prog_4_method_14_code 34 = .ok (.iconst 2, 1) := by decide +kernel
theorem d_Co_markTaken_35 : decode prog_4_method_14_code 35 = .ok (.if_icmp .eq 7, 3) := by decide +kernel
theorem d_Co_markTaken_38 : decode prog_4_method_14_code 38 = .ok (.iload_n 2, 1) := by decide +kernel
theorem d_Co_markTaken_39 : decode prog_4_method_14_code 39 = .ok (.ifCond .eq 12, 3) := by decide +kernel
theorem d_Co_markTaken_42 : decode prog_4_method_14_code 42 = .ok (.aload_n 0, 1) := by decide +kernel
theorem d_Co_markTaken_43 : decode prog_4_method_14_code 43 = .ok (.getfield 12, 3) := by decide +kernel
theorem d_Co_markTaken_46 : decode prog_4_method_14_code 46 = .ok (.iload_n 1, 1) := by decide +kernel
theorem d_Co_markTaken_47 : decode prog_4_method_14_code 47 = .ok (.iconst 1, 1) := by decide +kernel
theorem d_Co_markTaken_48 : decode prog_4_method_14_code 48 = .ok (.invokevirtual 126, 3) := by decide +kernel
theorem d_Co_markTaken_51 : decode prog_4_method_14_code 51 = .ok (.return_, 1) := by decide +kernel
def f_Co_markTaken (μ : zM) (a1 : Int32) (K : zM → Prop) : Prop := (¬ (μ 1 7) = (3 : Int32) → (((μ 1 7) = (1 : Int32) → (f_Bk_setMark μ a1 (1 : Int32) (fun μ3 => (K μ3)))) ∧ (¬ (μ 1 7) = (1 : Int32) → (((μ 1 7) = (2 : Int32) → (f_Bk_setMark μ a1 (1 : Int32) (fun μ5 => (K μ5)))) ∧ (¬ (μ 1 7) = (2 : Int32) → (((0 : Int32) = 0 → (K μ)) ∧ (¬ (0 : Int32) = 0 → (f_Bk_setMark μ a1 (1 : Int32) (fun μ7 => (K μ7)))))))))) ∧ ((μ 1 7) = (3 : Int32) → ((a1 < (μ 1 12) → (((μ 1 7) = (1 : Int32) → (f_Bk_setMark μ a1 (1 : Int32) (fun μ10 => (K μ10)))) ∧ (¬ (μ 1 7) = (1 : Int32) → (((μ 1 7) = (2 : Int32) → (f_Bk_setMark μ a1 (1 : Int32) (fun μ12 => (K μ12)))) ∧ (¬ (μ 1 7) = (2 : Int32) → (((0 : Int32) = 0 → (K μ)) ∧ (¬ (0 : Int32) = 0 → (f_Bk_setMark μ a1 (1 : Int32) (fun μ14 => (K μ14)))))))))) ∧ (¬ a1 < (μ 1 12) → (((μ 1 7) = (1 : Int32) → (f_Bk_setMark μ a1 (1 : Int32) (fun μ16 => (K μ16)))) ∧ (¬ (μ 1 7) = (1 : Int32) → (((μ 1 7) = (2 : Int32) → (f_Bk_setMark μ a1 (1 : Int32) (fun μ18 => (K μ18)))) ∧ (¬ (μ 1 7) = (2 : Int32) → (((1 : Int32) = 0 → (K μ)) ∧ (¬ (1 : Int32) = 0 → (f_Bk_setMark μ a1 (1 : Int32) (fun μ20 => (K μ20))))))))))))
set_option maxHeartbeats 4000000 in
set_option maxRecDepth 100000 in
theorem c_Co_markTaken (l : Launch) (E : zE) (μ : zM) (a1 : Int32) (K : zM → Prop) (h : f_Co_markTaken μ a1 K) : Met l y_Co_markTaken (Cond.code y_Co_markTaken prog_4_method_14_code 3 none :: zT) { frames := 2, cells := 0, slots := 0, locals := 43 } (va_Pc [.ref (E.2.1 1), .int a1] (zR zwC E μ)) (va_Qv K (zR zwC E) (zA E)) 0 0 (zA E) := by
  refine z_head (by decide) (Nat.le_of_ble_eq_true rfl) ?_
  intro p e s m below meth c X hr hlk w ls hl
  have X : zX E p s m _ c prog_4_method_14_code "BeatHeap$Collector" 3 := X
  have hx := X.1
  have hb := X.2.1
  have hl : lv_has ls 3 [(0, .ref (E.2.1 1)), (1, .int a1)] := hl
  unfold f_Co_markTaken at h
  refine lv_aload_n hx hb d_Co_markTaken_0 rfl (lv_at hl 0 rfl) ?_
  refine gt_1_7 X w w_fl_Co_55 d_Co_markTaken_1 ?_
  refine lv_iconst (v := 3) hx hb d_Co_markTaken_4 (by decide) ?_
  refine lv_icmp_ne (tgt := 20) hx hb d_Co_markTaken_5 (by decide) (fun c1 => ?_) (fun c1 => ?_)
  · have h := h.1 c1
    refine lv_iconst (v := 0) hx hb d_Co_markTaken_20 (by decide) ?_
    refine lv_istore_n (lv' := [(2, .int (0 : Int32)), (0, .ref (E.2.1 1)), (1, .int a1)]) hx hb d_Co_markTaken_21 rfl hl (by decide) rfl (fun ls hl => ?_)
    refine lv_aload_n hx hb d_Co_markTaken_22 rfl (lv_at hl 1 rfl) ?_
    refine gt_1_7 X w w_fl_Co_55 d_Co_markTaken_23 ?_
    refine lv_iconst (v := 1) hx hb d_Co_markTaken_26 (by decide) ?_
    refine lv_icmp_eq (tgt := 42) hx hb d_Co_markTaken_27 (by decide) (fun c2 => ?_) (fun c2 => ?_)
    · have h := h.1 c2
      refine lv_aload_n hx hb d_Co_markTaken_42 rfl (lv_at hl 1 rfl) ?_
      refine gt_1_0 X w w_fl_Co_12 d_Co_markTaken_43 ?_
      refine lv_iload_n hx hb d_Co_markTaken_46 rfl (lv_at hl 2 rfl) ?_
      refine lv_iconst (v := 1) hx hb d_Co_markTaken_47 (by decide) ?_
      refine z_cVv (As := [.int a1, .int (1 : Int32)]) (rest := []) (q0 := 2) (ci := 0) X w (c_Bk_setMark l E μ a1 (1 : Int32) _ h) rfl rfl rfl w_ml_Co_126 ⟨w_im_Bk_setMark, w_se_Bk_setMark⟩ w_in_Bk w_co_Bk_setMark q_Bk_setMark.1 q_Bk_setMark.2 rfl ⟨Nat.le_of_ble_eq_true rfl, Nat.le_of_ble_eq_true rfl⟩ ⟨Nat.zero_le _, Nat.zero_le _⟩ hl.1 rfl (Nat.le_of_ble_eq_true rfl) d_Co_markTaken_48 (fun μ3 H locs h w => ?_)
      exact z_vret X hr hlk w h d_Co_markTaken_51
    · have h := h.2 c2
      refine lv_aload_n hx hb d_Co_markTaken_30 rfl (lv_at hl 1 rfl) ?_
      refine gt_1_7 X w w_fl_Co_55 d_Co_markTaken_31 ?_
      refine lv_iconst (v := 2) hx hb d_Co_markTaken_34 (by decide) ?_
      refine lv_icmp_eq (tgt := 42) hx hb d_Co_markTaken_35 (by decide) (fun c4 => ?_) (fun c4 => ?_)
      · have h := h.1 c4
        refine lv_aload_n hx hb d_Co_markTaken_42 rfl (lv_at hl 1 rfl) ?_
        refine gt_1_0 X w w_fl_Co_12 d_Co_markTaken_43 ?_
        refine lv_iload_n hx hb d_Co_markTaken_46 rfl (lv_at hl 2 rfl) ?_
        refine lv_iconst (v := 1) hx hb d_Co_markTaken_47 (by decide) ?_
        refine z_cVv (As := [.int a1, .int (1 : Int32)]) (rest := []) (q0 := 2) (ci := 0) X w (c_Bk_setMark l E μ a1 (1 : Int32) _ h) rfl rfl rfl w_ml_Co_126 ⟨w_im_Bk_setMark, w_se_Bk_setMark⟩ w_in_Bk w_co_Bk_setMark q_Bk_setMark.1 q_Bk_setMark.2 rfl ⟨Nat.le_of_ble_eq_true rfl, Nat.le_of_ble_eq_true rfl⟩ ⟨Nat.zero_le _, Nat.zero_le _⟩ hl.1 rfl (Nat.le_of_ble_eq_true rfl) d_Co_markTaken_48 (fun μ5 H locs h w => ?_)
        exact z_vret X hr hlk w h d_Co_markTaken_51
      · have h := h.2 c4
        refine lv_iload_n hx hb d_Co_markTaken_38 rfl (lv_at hl 0 rfl) ?_
        refine lv_if_eq (tgt := 51) hx hb d_Co_markTaken_39 (by decide) (fun c6 => ?_) (fun c6 => ?_)
        · have h := h.1 c6
          exact z_vret X hr hlk w h d_Co_markTaken_51
        · have h := h.2 c6
          refine lv_aload_n hx hb d_Co_markTaken_42 rfl (lv_at hl 1 rfl) ?_
          refine gt_1_0 X w w_fl_Co_12 d_Co_markTaken_43 ?_
          refine lv_iload_n hx hb d_Co_markTaken_46 rfl (lv_at hl 2 rfl) ?_
          refine lv_iconst (v := 1) hx hb d_Co_markTaken_47 (by decide) ?_
          refine z_cVv (As := [.int a1, .int (1 : Int32)]) (rest := []) (q0 := 2) (ci := 0) X w (c_Bk_setMark l E μ a1 (1 : Int32) _ h) rfl rfl rfl w_ml_Co_126 ⟨w_im_Bk_setMark, w_se_Bk_setMark⟩ w_in_Bk w_co_Bk_setMark q_Bk_setMark.1 q_Bk_setMark.2 rfl ⟨Nat.le_of_ble_eq_true rfl, Nat.le_of_ble_eq_true rfl⟩ ⟨Nat.zero_le _, Nat.zero_le _⟩ hl.1 rfl (Nat.le_of_ble_eq_true rfl) d_Co_markTaken_48 (fun μ7 H locs h w => ?_)
          exact z_vret X hr hlk w h d_Co_markTaken_51
  · have h := h.2 c1
    refine lv_iload_n hx hb d_Co_markTaken_8 rfl (lv_at hl 1 rfl) ?_
    refine lv_aload_n hx hb d_Co_markTaken_9 rfl (lv_at hl 0 rfl) ?_
    refine gt_1_12 X w w_fl_Co_70 d_Co_markTaken_10 ?_
    refine lv_icmp_lt (tgt := 20) hx hb d_Co_markTaken_13 (by decide) (fun c8 => ?_) (fun c8 => ?_)
    · have h := h.1 c8
      refine lv_iconst (v := 0) hx hb d_Co_markTaken_20 (by decide) ?_
      refine lv_istore_n (lv' := [(2, .int (0 : Int32)), (0, .ref (E.2.1 1)), (1, .int a1)]) hx hb d_Co_markTaken_21 rfl hl (by decide) rfl (fun ls hl => ?_)
      refine lv_aload_n hx hb d_Co_markTaken_22 rfl (lv_at hl 1 rfl) ?_
      refine gt_1_7 X w w_fl_Co_55 d_Co_markTaken_23 ?_
      refine lv_iconst (v := 1) hx hb d_Co_markTaken_26 (by decide) ?_
      refine lv_icmp_eq (tgt := 42) hx hb d_Co_markTaken_27 (by decide) (fun c9 => ?_) (fun c9 => ?_)
      · have h := h.1 c9
        refine lv_aload_n hx hb d_Co_markTaken_42 rfl (lv_at hl 1 rfl) ?_
        refine gt_1_0 X w w_fl_Co_12 d_Co_markTaken_43 ?_
        refine lv_iload_n hx hb d_Co_markTaken_46 rfl (lv_at hl 2 rfl) ?_
        refine lv_iconst (v := 1) hx hb d_Co_markTaken_47 (by decide) ?_
        refine z_cVv (As := [.int a1, .int (1 : Int32)]) (rest := []) (q0 := 2) (ci := 0) X w (c_Bk_setMark l E μ a1 (1 : Int32) _ h) rfl rfl rfl w_ml_Co_126 ⟨w_im_Bk_setMark, w_se_Bk_setMark⟩ w_in_Bk w_co_Bk_setMark q_Bk_setMark.1 q_Bk_setMark.2 rfl ⟨Nat.le_of_ble_eq_true rfl, Nat.le_of_ble_eq_true rfl⟩ ⟨Nat.zero_le _, Nat.zero_le _⟩ hl.1 rfl (Nat.le_of_ble_eq_true rfl) d_Co_markTaken_48 (fun μ10 H locs h w => ?_)
        exact z_vret X hr hlk w h d_Co_markTaken_51
      · have h := h.2 c9
        refine lv_aload_n hx hb d_Co_markTaken_30 rfl (lv_at hl 1 rfl) ?_
        refine gt_1_7 X w w_fl_Co_55 d_Co_markTaken_31 ?_
        refine lv_iconst (v := 2) hx hb d_Co_markTaken_34 (by decide) ?_
        refine lv_icmp_eq (tgt := 42) hx hb d_Co_markTaken_35 (by decide) (fun c11 => ?_) (fun c11 => ?_)
        · have h := h.1 c11
          refine lv_aload_n hx hb d_Co_markTaken_42 rfl (lv_at hl 1 rfl) ?_
          refine gt_1_0 X w w_fl_Co_12 d_Co_markTaken_43 ?_
          refine lv_iload_n hx hb d_Co_markTaken_46 rfl (lv_at hl 2 rfl) ?_
          refine lv_iconst (v := 1) hx hb d_Co_markTaken_47 (by decide) ?_
          refine z_cVv (As := [.int a1, .int (1 : Int32)]) (rest := []) (q0 := 2) (ci := 0) X w (c_Bk_setMark l E μ a1 (1 : Int32) _ h) rfl rfl rfl w_ml_Co_126 ⟨w_im_Bk_setMark, w_se_Bk_setMark⟩ w_in_Bk w_co_Bk_setMark q_Bk_setMark.1 q_Bk_setMark.2 rfl ⟨Nat.le_of_ble_eq_true rfl, Nat.le_of_ble_eq_true rfl⟩ ⟨Nat.zero_le _, Nat.zero_le _⟩ hl.1 rfl (Nat.le_of_ble_eq_true rfl) d_Co_markTaken_48 (fun μ12 H locs h w => ?_)
          exact z_vret X hr hlk w h d_Co_markTaken_51
        · have h := h.2 c11
          refine lv_iload_n hx hb d_Co_markTaken_38 rfl (lv_at hl 0 rfl) ?_
          refine lv_if_eq (tgt := 51) hx hb d_Co_markTaken_39 (by decide) (fun c13 => ?_) (fun c13 => ?_)
          · have h := h.1 c13
            exact z_vret X hr hlk w h d_Co_markTaken_51
          · have h := h.2 c13
            refine lv_aload_n hx hb d_Co_markTaken_42 rfl (lv_at hl 1 rfl) ?_
            refine gt_1_0 X w w_fl_Co_12 d_Co_markTaken_43 ?_
            refine lv_iload_n hx hb d_Co_markTaken_46 rfl (lv_at hl 2 rfl) ?_
            refine lv_iconst (v := 1) hx hb d_Co_markTaken_47 (by decide) ?_
            refine z_cVv (As := [.int a1, .int (1 : Int32)]) (rest := []) (q0 := 2) (ci := 0) X w (c_Bk_setMark l E μ a1 (1 : Int32) _ h) rfl rfl rfl w_ml_Co_126 ⟨w_im_Bk_setMark, w_se_Bk_setMark⟩ w_in_Bk w_co_Bk_setMark q_Bk_setMark.1 q_Bk_setMark.2 rfl ⟨Nat.le_of_ble_eq_true rfl, Nat.le_of_ble_eq_true rfl⟩ ⟨Nat.zero_le _, Nat.zero_le _⟩ hl.1 rfl (Nat.le_of_ble_eq_true rfl) d_Co_markTaken_48 (fun μ14 H locs h w => ?_)
            exact z_vret X hr hlk w h d_Co_markTaken_51
    · have h := h.2 c8
      refine lv_iconst (v := 1) hx hb d_Co_markTaken_16 (by decide) ?_
      refine lv_goto (tgt := 21) hx hb d_Co_markTaken_17 (by decide) ?_
      refine lv_istore_n (lv' := [(2, .int (1 : Int32)), (0, .ref (E.2.1 1)), (1, .int a1)]) hx hb d_Co_markTaken_21 rfl hl (by decide) rfl (fun ls hl => ?_)
      refine lv_aload_n hx hb d_Co_markTaken_22 rfl (lv_at hl 1 rfl) ?_
      refine gt_1_7 X w w_fl_Co_55 d_Co_markTaken_23 ?_
      refine lv_iconst (v := 1) hx hb d_Co_markTaken_26 (by decide) ?_
      refine lv_icmp_eq (tgt := 42) hx hb d_Co_markTaken_27 (by decide) (fun c15 => ?_) (fun c15 => ?_)
      · have h := h.1 c15
        refine lv_aload_n hx hb d_Co_markTaken_42 rfl (lv_at hl 1 rfl) ?_
        refine gt_1_0 X w w_fl_Co_12 d_Co_markTaken_43 ?_
        refine lv_iload_n hx hb d_Co_markTaken_46 rfl (lv_at hl 2 rfl) ?_
        refine lv_iconst (v := 1) hx hb d_Co_markTaken_47 (by decide) ?_
        refine z_cVv (As := [.int a1, .int (1 : Int32)]) (rest := []) (q0 := 2) (ci := 0) X w (c_Bk_setMark l E μ a1 (1 : Int32) _ h) rfl rfl rfl w_ml_Co_126 ⟨w_im_Bk_setMark, w_se_Bk_setMark⟩ w_in_Bk w_co_Bk_setMark q_Bk_setMark.1 q_Bk_setMark.2 rfl ⟨Nat.le_of_ble_eq_true rfl, Nat.le_of_ble_eq_true rfl⟩ ⟨Nat.zero_le _, Nat.zero_le _⟩ hl.1 rfl (Nat.le_of_ble_eq_true rfl) d_Co_markTaken_48 (fun μ16 H locs h w => ?_)
        exact z_vret X hr hlk w h d_Co_markTaken_51
      · have h := h.2 c15
        refine lv_aload_n hx hb d_Co_markTaken_30 rfl (lv_at hl 1 rfl) ?_
        refine gt_1_7 X w w_fl_Co_55 d_Co_markTaken_31 ?_
        refine lv_iconst (v := 2) hx hb d_Co_markTaken_34 (by decide) ?_
        refine lv_icmp_eq (tgt := 42) hx hb d_Co_markTaken_35 (by decide) (fun c17 => ?_) (fun c17 => ?_)
        · have h := h.1 c17
          refine lv_aload_n hx hb d_Co_markTaken_42 rfl (lv_at hl 1 rfl) ?_
          refine gt_1_0 X w w_fl_Co_12 d_Co_markTaken_43 ?_
          refine lv_iload_n hx hb d_Co_markTaken_46 rfl (lv_at hl 2 rfl) ?_
          refine lv_iconst (v := 1) hx hb d_Co_markTaken_47 (by decide) ?_
          refine z_cVv (As := [.int a1, .int (1 : Int32)]) (rest := []) (q0 := 2) (ci := 0) X w (c_Bk_setMark l E μ a1 (1 : Int32) _ h) rfl rfl rfl w_ml_Co_126 ⟨w_im_Bk_setMark, w_se_Bk_setMark⟩ w_in_Bk w_co_Bk_setMark q_Bk_setMark.1 q_Bk_setMark.2 rfl ⟨Nat.le_of_ble_eq_true rfl, Nat.le_of_ble_eq_true rfl⟩ ⟨Nat.zero_le _, Nat.zero_le _⟩ hl.1 rfl (Nat.le_of_ble_eq_true rfl) d_Co_markTaken_48 (fun μ18 H locs h w => ?_)
          exact z_vret X hr hlk w h d_Co_markTaken_51
        · have h := h.2 c17
          refine lv_iload_n hx hb d_Co_markTaken_38 rfl (lv_at hl 0 rfl) ?_
          refine lv_if_eq (tgt := 51) hx hb d_Co_markTaken_39 (by decide) (fun c19 => ?_) (fun c19 => ?_)
          · have h := h.1 c19
            exact z_vret X hr hlk w h d_Co_markTaken_51
          · have h := h.2 c19
            refine lv_aload_n hx hb d_Co_markTaken_42 rfl (lv_at hl 1 rfl) ?_
            refine gt_1_0 X w w_fl_Co_12 d_Co_markTaken_43 ?_
            refine lv_iload_n hx hb d_Co_markTaken_46 rfl (lv_at hl 2 rfl) ?_
            refine lv_iconst (v := 1) hx hb d_Co_markTaken_47 (by decide) ?_
            refine z_cVv (As := [.int a1, .int (1 : Int32)]) (rest := []) (q0 := 2) (ci := 0) X w (c_Bk_setMark l E μ a1 (1 : Int32) _ h) rfl rfl rfl w_ml_Co_126 ⟨w_im_Bk_setMark, w_se_Bk_setMark⟩ w_in_Bk w_co_Bk_setMark q_Bk_setMark.1 q_Bk_setMark.2 rfl ⟨Nat.le_of_ble_eq_true rfl, Nat.le_of_ble_eq_true rfl⟩ ⟨Nat.zero_le _, Nat.zero_le _⟩ hl.1 rfl (Nat.le_of_ble_eq_true rfl) d_Co_markTaken_48 (fun μ20 H locs h w => ?_)
            exact z_vret X hr hlk w h d_Co_markTaken_51
theorem q_Bh_takeBlock : (y_Bh_takeBlock.cls ≠ "java/lang/invoke/MethodHandle" ∧ y_Bh_takeBlock.cls ≠ "java/lang/invoke/VarHandle") ∧ (parseMethodDescriptor y_Bh_takeBlock.desc).map (fun d => d.parameters.length) = some 4 := by decide +kernel
theorem d_Bh_takeBlock_0 : decode prog_1_method_31_code 0 = .ok (.aload_n 0, 1) := by decide +kernel
theorem d_Bh_takeBlock_1 : decode prog_1_method_31_code 1 = .ok (.getfield 20, 3) := by decide +kernel
theorem d_Bh_takeBlock_4 : decode prog_1_method_31_code 4 = .ok (.iload_n 1, 1) := by decide +kernel
theorem d_Bh_takeBlock_5 : decode prog_1_method_31_code 5 = .ok (.iload_n 2, 1) := by decide +kernel
theorem d_Bh_takeBlock_6 : decode prog_1_method_31_code 6 = .ok (.iload_n 3, 1) := by decide +kernel
theorem d_Bh_takeBlock_7 : decode prog_1_method_31_code 7 = .ok (.iload 4, 2) := by decide +kernel
theorem d_Bh_takeBlock_9 : decode prog_1_method_31_code 9 = .ok (.invokevirtual 193, 3) := by decide +kernel
theorem d_Bh_takeBlock_12 : decode prog_1_method_31_code 12 = .ok (.istore 5, 2) := by decide +kernel
theorem d_Bh_takeBlock_14 : decode prog_1_method_31_code 14 = .ok (.iload 5, 2) := by decide +kernel
theorem d_Bh_takeBlock_16 : decode prog_1_method_31_code 16 = .ok (.iconst (-1), 1) := by decide +kernel
theorem d_Bh_takeBlock_17 : decode prog_1_method_31_code 17 = .ok (.if_icmp .ne 16, 3) := by decide +kernel
theorem d_Bh_takeBlock_20 : decode prog_1_method_31_code 20 = .ok (.aload_n 0, 1) := by decide +kernel
theorem d_Bh_takeBlock_21 : decode prog_1_method_31_code 21 = .ok (.dup, 1) := by decide +kernel
theorem d_Bh_takeBlock_22 : decode prog_1_method_31_code 22 = .ok (.getfield 146, 3) := by decide +kernel
theorem d_Bh_takeBlock_25 : decode prog_1_method_31_code 25 = .ok (.iconst 1, 1) := by decide +kernel
theorem d_Bh_takeBlock_26 : decode prog_1_method_31_code 26 = .ok (.iadd, 1) := by decide +kernel
theorem d_Bh_takeBlock_27 : decode prog_1_method_31_code 27 = .ok (.putfield 146, 3) := by decide +kernel
theorem d_Bh_takeBlock_30 : decode prog_1_method_31_code 30 = .ok (.goto 12, 3) := by decide +kernel
theorem d_Bh_takeBlock_33 : decode prog_1_method_31_code 33 = .ok (.aload_n 0, 1) := by decide +kernel
theorem d_Bh_takeBlock_34 : decode prog_1_method_31_code 34 = .ok (.getfield 12, 3) := by decide +kernel
theorem d_Bh_takeBlock_37 : decode prog_1_method_31_code 37 = .ok (.iload 5, 2) := by decide +kernel
theorem d_Bh_takeBlock_39 : decode prog_1_method_31_code 39 = .ok (.invokevirtual 196, 3) := by decide +kernel
theorem d_Bh_takeBlock_42 : decode prog_1_method_31_code 42 = .ok (.iload 5, 2) := by decide +kernel
theorem d_Bh_takeBlock_44 : decode prog_1_method_31_code 44 = .ok (.ireturn, 1) := by decide +kernel
def f_Bh_takeBlock (μ : zM) (a1 a2 a3 a4 : Int32) (K : Int32 → zM → Prop) : Prop := f_Bk_hold μ a1 a2 a3 a4 (fun r2 μ1 => ((¬ r2 = (-1 : Int32) → (f_Co_markTaken μ1 r2 (fun μ4 => (K r2 μ4)))) ∧ (r2 = (-1 : Int32) → (∀ μ5 : zM, μ5 = zp μ1 0 5 ((μ1 0 5) + (1 : Int32)) → (K r2 μ5)))))
set_option maxHeartbeats 4000000 in
set_option maxRecDepth 100000 in
theorem c_Bh_takeBlock (l : Launch) (E : zE) (μ : zM) (a1 a2 a3 a4 : Int32) (K : Int32 → zM → Prop) (h : f_Bh_takeBlock μ a1 a2 a3 a4 K) : Met l y_Bh_takeBlock (Cond.code y_Bh_takeBlock prog_1_method_31_code 6 (some .int) :: zT) { frames := 4, cells := 0, slots := 0, locals := 91 } (va_Pc [.ref (E.2.1 0), .int a1, .int a2, .int a3, .int a4] (zR zwC E μ)) (va_Qi K (zR zwC E) (zA E)) 0 0 (zA E) := by
  refine z_head (by decide) (Nat.le_of_ble_eq_true rfl) ?_
  intro p e s m below meth c X hr hlk w ls hl
  have X : zX E p s m _ c prog_1_method_31_code "BeatHeap" 6 := X
  have hx := X.1
  have hb := X.2.1
  have hl : lv_has ls 6 [(0, .ref (E.2.1 0)), (1, .int a1), (2, .int a2), (3, .int a3), (4, .int a4)] := hl
  unfold f_Bh_takeBlock at h
  refine lv_aload_n hx hb d_Bh_takeBlock_0 rfl (lv_at hl 0 rfl) ?_
  refine gt_0_1 X w w_fl_Bh_20 d_Bh_takeBlock_1 ?_
  refine lv_iload_n hx hb d_Bh_takeBlock_4 rfl (lv_at hl 1 rfl) ?_
  refine lv_iload_n hx hb d_Bh_takeBlock_5 rfl (lv_at hl 2 rfl) ?_
  refine lv_iload_n hx hb d_Bh_takeBlock_6 rfl (lv_at hl 3 rfl) ?_
  refine lv_iload hx hb d_Bh_takeBlock_7 (lv_at hl 4 rfl) ?_
  refine z_cVi (As := [.int a1, .int a2, .int a3, .int a4]) (rest := []) (q0 := 2) (ci := 0) X w (c_Bk_hold l E μ a1 a2 a3 a4 _ h) rfl rfl rfl w_ml_Bh_193 ⟨w_im_Bk_hold, w_se_Bk_hold⟩ w_in_Bk w_co_Bk_hold q_Bk_hold.1 q_Bk_hold.2 rfl ⟨Nat.le_of_ble_eq_true rfl, Nat.le_of_ble_eq_true rfl⟩ ⟨Nat.zero_le _, Nat.zero_le _⟩ hl.1 rfl (Nat.le_of_ble_eq_true rfl) d_Bh_takeBlock_9 (fun r2 μ1 H locs h w => ?_)
  refine lv_istore (lv' := [(5, .int r2), (0, .ref (E.2.1 0)), (1, .int a1), (2, .int a2), (3, .int a3), (4, .int a4)]) hx hb d_Bh_takeBlock_12 hl (by decide) rfl (fun ls hl => ?_)
  refine lv_iload hx hb d_Bh_takeBlock_14 (lv_at hl 0 rfl) ?_
  refine lv_iconst (v := (-1)) hx hb d_Bh_takeBlock_16 (by decide) ?_
  refine lv_icmp_ne (tgt := 33) hx hb d_Bh_takeBlock_17 (by decide) (fun c3 => ?_) (fun c3 => ?_)
  · have h := h.1 c3
    refine lv_aload_n hx hb d_Bh_takeBlock_33 rfl (lv_at hl 1 rfl) ?_
    refine gt_0_0 X w w_fl_Bh_12 d_Bh_takeBlock_34 ?_
    refine lv_iload hx hb d_Bh_takeBlock_37 (lv_at hl 0 rfl) ?_
    refine z_cVv (As := [.int r2]) (rest := []) (q0 := 1) (ci := 2) X w (c_Co_markTaken l E μ1 r2 _ h) rfl rfl rfl w_ml_Bh_196 ⟨w_im_Co_markTaken, w_se_Co_markTaken⟩ w_in_Co w_co_Co_markTaken q_Co_markTaken.1 q_Co_markTaken.2 rfl ⟨Nat.le_of_ble_eq_true rfl, Nat.le_of_ble_eq_true rfl⟩ ⟨Nat.zero_le _, Nat.zero_le _⟩ hl.1 rfl (Nat.le_of_ble_eq_true rfl) d_Bh_takeBlock_39 (fun μ4 H locs h w => ?_)
    refine lv_iload hx hb d_Bh_takeBlock_42 (lv_at hl 0 rfl) ?_
    exact z_iret X hr hlk w h d_Bh_takeBlock_44
  · have h := h.2 c3
    refine lv_aload_n hx hb d_Bh_takeBlock_20 rfl (lv_at hl 1 rfl) ?_
    refine lv_dup hx hb d_Bh_takeBlock_21 rfl ?_
    refine gt_0_5 X w w_fl_Bh_146 d_Bh_takeBlock_22 ?_
    refine lv_iconst (v := 1) hx hb d_Bh_takeBlock_25 (by decide) ?_
    refine lv_iadd hx hb d_Bh_takeBlock_26 ?_
    refine pt_0_5 X w w_fl_Bh_146 d_Bh_takeBlock_27 (fun μ5 H locs eμ5 w => ?_)
    have h := h μ5 eμ5
    refine lv_goto (tgt := 42) hx hb d_Bh_takeBlock_30 (by decide) ?_
    refine lv_iload hx hb d_Bh_takeBlock_42 (lv_at hl 0 rfl) ?_
    exact z_iret X hr hlk w h d_Bh_takeBlock_44
theorem q_Bk_isMarked : (y_Bk_isMarked.cls ≠ "java/lang/invoke/MethodHandle" ∧ y_Bk_isMarked.cls ≠ "java/lang/invoke/VarHandle") ∧ (parseMethodDescriptor y_Bk_isMarked.desc).map (fun d => d.parameters.length) = some 1 := by decide +kernel
theorem d_Bk_isMarked_0 : decode prog_2_method_12_code 0 = .ok (.aload_n 0, 1) := by decide +kernel
theorem d_Bk_isMarked_1 : decode prog_2_method_12_code 1 = .ok (.iload_n 1, 1) := by decide +kernel
theorem d_Bk_isMarked_2 : decode prog_2_method_12_code 2 = .ok (.invokevirtual 62, 3) := by decide +kernel
theorem d_Bk_isMarked_5 : decode prog_2_method_12_code 5 = .ok (.ifCond .eq 18, 3) := by decide +kernel
theorem d_Bk_isMarked_8 : decode prog_2_method_12_code 8 = .ok (.aload_n 0, 1) := by decide +kernel
theorem d_Bk_isMarked_9 : decode prog_2_method_12_code 9 = .ok (.getfield 19, 3) := by decide +kernel
theorem d_Bk_isMarked_12 : decode prog_2_method_12_code 12 = .ok (.iload_n 1, 1) := by decide +kernel
theorem d_Bk_isMarked_13 : decode prog_2_method_12_code 13 = .ok (.iconst 4, 1) := by decide +kernel
theorem d_Bk_isMarked_14 : decode prog_2_method_12_code 14 = .ok (.idiv, 1) := by decide +kernel
theorem d_Bk_isMarked_15 : decode prog_2_method_12_code 15 = .ok (.baload, 1) := by decide +kernel
theorem d_Bk_isMarked_16 : decode prog_2_method_12_code 16 = .ok (.ifCond .eq 7, 3) := by decide +kernel
theorem d_Bk_isMarked_19 : decode prog_2_method_12_code 19 = .ok (.iconst 1, 1) := by decide +kernel
theorem d_Bk_isMarked_20 : decode prog_2_method_12_code 20 = .ok (.goto 4, 3) := by decide +kernel
theorem d_Bk_isMarked_23 : decode prog_2_method_12_code 23 = .ok (.iconst 0, 1) := by decide +kernel
theorem d_Bk_isMarked_24 : decode prog_2_method_12_code 24 = .ok (.ireturn, 1) := by decide +kernel
def f_Bk_isMarked (μ : zM) (a1 : Int32) (K : Int32 → zM → Prop) : Prop := f_Bk_isInside μ a1 (fun r2 μ1 => ((r2 = 0 → (K (0 : Int32) μ1)) ∧ (¬ r2 = 0 → (vp_in (a1 / (4 : Int32)) 1024 ∧ (((μ1 5 (a1 / (4 : Int32)).toNatClampNeg) = 0 → (K (0 : Int32) μ1)) ∧ (¬ (μ1 5 (a1 / (4 : Int32)).toNatClampNeg) = 0 → (K (1 : Int32) μ1)))))))
set_option maxHeartbeats 4000000 in
set_option maxRecDepth 100000 in
theorem c_Bk_isMarked (l : Launch) (E : zE) (μ : zM) (a1 : Int32) (K : Int32 → zM → Prop) (h : f_Bk_isMarked μ a1 K) : Met l y_Bk_isMarked (Cond.code y_Bk_isMarked prog_2_method_12_code 2 (some .boolean) :: zT) { frames := 1, cells := 0, slots := 0, locals := 21 } (va_Pc [.ref (E.2.1 2), .int a1] (zR zwC E μ)) (va_Qi K (zR zwC E) (zA E)) 0 0 (zA E) := by
  refine z_head (by decide) (Nat.le_of_ble_eq_true rfl) ?_
  intro p e s m below meth c X hr hlk w ls hl
  have X : zX E p s m _ c prog_2_method_12_code "BeatHeap$Blocks" 2 := X
  have hx := X.1
  have hb := X.2.1
  have hl : lv_has ls 2 [(0, .ref (E.2.1 2)), (1, .int a1)] := hl
  unfold f_Bk_isMarked at h
  refine lv_aload_n hx hb d_Bk_isMarked_0 rfl (lv_at hl 0 rfl) ?_
  refine lv_iload_n hx hb d_Bk_isMarked_1 rfl (lv_at hl 1 rfl) ?_
  refine z_cVi (As := [.int a1]) (rest := []) (q0 := 2) (ci := 0) X w (c_Bk_isInside l E μ a1 _ h) rfl rfl rfl w_ml_Bk_62 ⟨w_im_Bk_isInside, w_se_Bk_isInside⟩ w_in_Bk w_co_Bk_isInside q_Bk_isInside.1 q_Bk_isInside.2 rfl ⟨Nat.le_of_ble_eq_true rfl, Nat.le_of_ble_eq_true rfl⟩ ⟨Nat.zero_le _, Nat.zero_le _⟩ hl.1 rfl (Nat.le_of_ble_eq_true rfl) d_Bk_isMarked_2 (fun r2 μ1 H locs h w => ?_)
  refine lv_if_eq (tgt := 23) hx hb d_Bk_isMarked_5 (by decide) (fun c3 => ?_) (fun c3 => ?_)
  · have h := h.1 c3
    refine lv_iconst (v := 0) hx hb d_Bk_isMarked_23 (by decide) ?_
    exact z_zret X hr hlk w (by decide) h d_Bk_isMarked_24
  · have h := h.2 c3
    refine lv_aload_n hx hb d_Bk_isMarked_8 rfl (lv_at hl 0 rfl) ?_
    refine gt_2_2 X w w_fl_Bk_19 d_Bk_isMarked_9 ?_
    refine lv_iload_n hx hb d_Bk_isMarked_12 rfl (lv_at hl 1 rfl) ?_
    refine lv_iconst (v := 4) hx hb d_Bk_isMarked_13 (by decide) ?_
    refine lv_idiv hx hb d_Bk_isMarked_14 (by decide) ?_
    obtain ⟨hi4, h⟩ := h
    refine al_5 X w hi4 d_Bk_isMarked_15 ?_
    refine lv_if_eq (tgt := 23) hx hb d_Bk_isMarked_16 (by decide) (fun c5 => ?_) (fun c5 => ?_)
    · have h := h.1 c5
      refine lv_iconst (v := 0) hx hb d_Bk_isMarked_23 (by decide) ?_
      exact z_zret X hr hlk w (by decide) h d_Bk_isMarked_24
    · have h := h.2 c5
      refine lv_iconst (v := 1) hx hb d_Bk_isMarked_19 (by decide) ?_
      refine lv_goto (tgt := 24) hx hb d_Bk_isMarked_20 (by decide) ?_
      exact z_zret X hr hlk w (by decide) h d_Bk_isMarked_24
theorem q_Pi_push : (y_Pi_push.cls ≠ "java/lang/invoke/MethodHandle" ∧ y_Pi_push.cls ≠ "java/lang/invoke/VarHandle") ∧ (parseMethodDescriptor y_Pi_push.desc).map (fun d => d.parameters.length) = some 1 := by decide +kernel
theorem d_Pi_push_0 : decode prog_5_method_3_code 0 = .ok (.aload_n 0, 1) := by decide +kernel
theorem d_Pi_push_1 : decode prog_5_method_3_code 1 = .ok (.getfield 15, 3) := by decide +kernel
theorem d_Pi_push_4 : decode prog_5_method_3_code 4 = .ok (.ifCond .lt 35, 3) := by decide +kernel
theorem d_Pi_push_7 : decode prog_5_method_3_code 7 = .ok (.aload_n 0, 1) := by decide +kernel
theorem d_Pi_push_8 : decode prog_5_method_3_code 8 = .ok (.getfield 15, 3) := by decide +kernel
theorem d_Pi_push_11 : decode prog_5_method_3_code 11 = .ok (.aload_n 0, 1) := by decide +kernel
theorem d_Pi_push_12 : decode prog_5_method_3_code 12 = .ok (.getfield 9, 3) := by decide +kernel
theorem d_Pi_push_15 : decode prog_5_method_3_code 15 = .ok (.arraylength, 1) := by decide +kernel
theorem d_Pi_push_16 : decode prog_5_method_3_code 16 = .ok (.if_icmp .ge 23, 3) := by decide +kernel
theorem d_Pi_push_19 : decode prog_5_method_3_code 19 = .ok (.aload_n 0, 1) := by decide +kernel
theorem d_Pi_push_20 : decode prog_5_method_3_code 20 = .ok (.getfield 9, 3) := by decide +kernel
theorem d_Pi_push_23 : decode prog_5_method_3_code 23 = .ok (.aload_n 0, 1) := by decide +kernel
theorem d_Pi_push_24 : decode prog_5_method_3_code 24 = .ok (.getfield 15, 3) := by decide +kernel
theorem d_Pi_push_27 : decode prog_5_method_3_code 27 = .ok (.iload_n 1, 1) := by decide +kernel
theorem d_Pi_push_28 : decode prog_5_method_3_code 28 = .ok (.iastore, 1) := by decide +kernel
theorem d_Pi_push_29 : decode prog_5_method_3_code 29 = .ok (.aload_n 0, 1) := by decide +kernel
theorem d_Pi_push_30 : decode prog_5_method_3_code 30 = .ok (.dup, 1) := by decide +kernel
theorem d_Pi_push_31 : decode prog_5_method_3_code 31 = .ok (.getfield 15, 3) := by decide +kernel
theorem d_Pi_push_34 : decode prog_5_method_3_code 34 = .ok (.iconst 1, 1) := by decide +kernel
theorem d_Pi_push_35 : decode prog_5_method_3_code 35 = .ok (.iadd, 1) := by decide +kernel
theorem d_Pi_push_36 : decode prog_5_method_3_code 36 = .ok (.putfield 15, 3) := by decide +kernel
theorem d_Pi_push_39 : decode prog_5_method_3_code 39 = .ok (.return_, 1) := by decide +kernel
def f_Pi_push_12 (μ : zM) (a1 : Int32) (K : zM → Prop) : Prop := ((μ 12 1) < 0 → (K μ)) ∧ (¬ (μ 12 1) < 0 → (((1024 : Int32) ≤ (μ 12 1) → (K μ)) ∧ (¬ (1024 : Int32) ≤ (μ 12 1) → (vp_in (μ 12 1) 1024 ∧ ∀ μ4 : zM, μ4 = zp μ 13 (μ 12 1).toNatClampNeg a1 → (∀ μ5 : zM, μ5 = zp μ4 12 1 ((μ4 12 1) + (1 : Int32)) → (K μ5))))))
set_option maxHeartbeats 4000000 in
set_option maxRecDepth 100000 in
theorem c_Pi_push_12 (l : Launch) (E : zE) (μ : zM) (a1 : Int32) (K : zM → Prop) (h : f_Pi_push_12 μ a1 K) : Met l y_Pi_push (Cond.code y_Pi_push prog_5_method_3_code 2 none :: zT) { frames := 0, cells := 0, slots := 0, locals := 0 } (va_Pc [.ref (E.2.1 12), .int a1] (zR zwC E μ)) (va_Qv K (zR zwC E) (zA E)) 0 0 (zA E) := by
  refine z_head (by decide) (Nat.le_of_ble_eq_true rfl) ?_
  intro p e s m below meth c X hr hlk w ls hl
  have X : zX E p s m _ c prog_5_method_3_code "BeatHeap$Pile" 2 := X
  have hx := X.1
  have hb := X.2.1
  have hl : lv_has ls 2 [(0, .ref (E.2.1 12)), (1, .int a1)] := hl
  unfold f_Pi_push_12 at h
  refine lv_aload_n hx hb d_Pi_push_0 rfl (lv_at hl 0 rfl) ?_
  refine gt_12_1 X w w_fl_Pi_15 d_Pi_push_1 ?_
  refine lv_if_lt (tgt := 39) hx hb d_Pi_push_4 (by decide) (fun c1 => ?_) (fun c1 => ?_)
  · have h := h.1 c1
    exact z_vret X hr hlk w h d_Pi_push_39
  · have h := h.2 c1
    refine lv_aload_n hx hb d_Pi_push_7 rfl (lv_at hl 0 rfl) ?_
    refine gt_12_1 X w w_fl_Pi_15 d_Pi_push_8 ?_
    refine lv_aload_n hx hb d_Pi_push_11 rfl (lv_at hl 0 rfl) ?_
    refine gt_12_0 X w w_fl_Pi_9 d_Pi_push_12 ?_
    refine an_13 (v := 1024) X w (by decide) d_Pi_push_15 ?_
    refine lv_icmp_ge (tgt := 39) hx hb d_Pi_push_16 (by decide) (fun c2 => ?_) (fun c2 => ?_)
    · have h := h.1 c2
      exact z_vret X hr hlk w h d_Pi_push_39
    · have h := h.2 c2
      refine lv_aload_n hx hb d_Pi_push_19 rfl (lv_at hl 0 rfl) ?_
      refine gt_12_0 X w w_fl_Pi_9 d_Pi_push_20 ?_
      refine lv_aload_n hx hb d_Pi_push_23 rfl (lv_at hl 0 rfl) ?_
      refine gt_12_1 X w w_fl_Pi_15 d_Pi_push_24 ?_
      refine lv_iload_n hx hb d_Pi_push_27 rfl (lv_at hl 1 rfl) ?_
      obtain ⟨hi3, h⟩ := h
      refine as_13 X w hi3 d_Pi_push_28 (fun μ4 H locs eμ4 w => ?_)
      have h := h μ4 eμ4
      refine lv_aload_n hx hb d_Pi_push_29 rfl (lv_at hl 0 rfl) ?_
      refine lv_dup hx hb d_Pi_push_30 rfl ?_
      refine gt_12_1 X w w_fl_Pi_15 d_Pi_push_31 ?_
      refine lv_iconst (v := 1) hx hb d_Pi_push_34 (by decide) ?_
      refine lv_iadd hx hb d_Pi_push_35 ?_
      refine pt_12_1 X w w_fl_Pi_15 d_Pi_push_36 (fun μ5 H locs eμ5 w => ?_)
      have h := h μ5 eμ5
      exact z_vret X hr hlk w h d_Pi_push_39
theorem q_Co_grey : (y_Co_grey.cls ≠ "java/lang/invoke/MethodHandle" ∧ y_Co_grey.cls ≠ "java/lang/invoke/VarHandle") ∧ (parseMethodDescriptor y_Co_grey.desc).map (fun d => d.parameters.length) = some 1 := by decide +kernel
theorem d_Co_grey_0 : decode prog_4_method_10_code 0 = .ok (.iload_n 1, 1) := by decide +kernel
theorem d_Co_grey_1 : decode prog_4_method_10_code 1 = .ok (.iconst (-1), 1) := by decide +kernel
theorem d_Co_grey_2 : decode prog_4_method_10_code 2 = .ok (.if_icmp .eq 14, 3) := by decide +kernel
theorem d_Co_grey_5 : decode prog_4_method_10_code 5 = .ok (.aload_n 0, 1) := by decide +kernel
theorem d_Co_grey_6 : decode prog_4_method_10_code 6 = .ok (.getfield 12, 3) := by decide +kernel
theorem d_Co_grey_9 : decode prog_4_method_10_code 9 = .ok (.iload_n 1, 1) := by decide +kernel
theorem d_Co_grey_10 : decode prog_4_method_10_code 10 = .ok (.invokevirtual 122, 3) := by decide +kernel
theorem d_Co_grey_13 : decode prog_4_method_10_code 13 = .ok (.ifCond .eq 4, 3) := by decide +kernel
theorem d_Co_grey_16 : decode prog_4_method_10_code 16 = .ok (.return_, 1) := by decide +kernel
theorem d_Co_grey_17 : decode prog_4_method_10_code 17 = .ok (.aload_n 0, 1) := by decide +kernel
theorem d_Co_grey_18 : decode prog_4_method_10_code 18 = .ok (.getfield 12, 3) := by decide +kernel
theorem d_Co_grey_21 : decode prog_4_method_10_code 21 = .ok (.iload_n 1, 1) := by decide +kernel
theorem d_Co_grey_22 : decode prog_4_method_10_code 22 = .ok (.iconst 1, 1) := by decide +kernel
theorem d_Co_grey_23 : decode prog_4_method_10_code 23 = .ok (.invokevirtual 126, 3) := by decide +kernel
theorem d_Co_grey_26 : decode prog_4_method_10_code 26 = .ok (.aload_n 0, 1) := by decide +kernel
theorem d_Co_grey_27 : decode prog_4_method_10_code 27 = .ok (.getfield 12, 3) := by decide +kernel
theorem d_Co_grey_30 : decode prog_4_method_10_code 30 = .ok (.iload_n 1, 1) := by decide +kernel
theorem d_Co_grey_31 : decode prog_4_method_10_code 31 = .ok (.invokevirtual 130, 3) := by decide +kernel
theorem d_Co_grey_34 : decode prog_4_method_10_code 34 = .ok (.iconst 3, 1) := by decide +kernel
theorem d_Co_grey_35 : decode prog_4_method_10_code 35 = .ok (.if_icmp .eq 11, 3) := by decide +kernel
theorem d_Co_grey_38 : decode prog_4_method_10_code 38 = .ok (.aload_n 0, 1) := by decide +kernel
theorem d_Co_grey_39 : decode prog_4_method_10_code 39 = .ok (.getfield 28, 3) := by decide +kernel
theorem d_Co_grey_42 : decode prog_4_method_10_code 42 = .ok (.iload_n 1, 1) := by decide +kernel
theorem d_Co_grey_43 : decode prog_4_method_10_code 43 = .ok (.invokevirtual 133, 3) := by decide +kernel
theorem d_Co_grey_46 : decode prog_4_method_10_code 46 = .ok (.return_, 1) := by decide +kernel
def f_Co_grey (μ : zM) (a1 : Int32) (K : zM → Prop) : Prop := (a1 = (-1 : Int32) → (K μ)) ∧ (¬ a1 = (-1 : Int32) → (f_Bk_isMarked μ a1 (fun r3 μ2 => ((r3 = 0 → (f_Bk_setMark μ2 a1 (1 : Int32) (fun μ5 => (f_Bk_kindOf μ5 a1 (fun r7 μ6 => ((r7 = (3 : Int32) → (K μ6)) ∧ (¬ r7 = (3 : Int32) → (f_Pi_push_12 μ6 a1 (fun μ9 => (K μ9)))))))))) ∧ (¬ r3 = 0 → (K μ2))))))
set_option maxHeartbeats 4000000 in
set_option maxRecDepth 100000 in
theorem c_Co_grey (l : Launch) (E : zE) (μ : zM) (a1 : Int32) (K : zM → Prop) (h : f_Co_grey μ a1 K) : Met l y_Co_grey (Cond.code y_Co_grey prog_4_method_10_code 2 none :: zT) { frames := 2, cells := 0, slots := 0, locals := 43 } (va_Pc [.ref (E.2.1 1), .int a1] (zR zwC E μ)) (va_Qv K (zR zwC E) (zA E)) 0 0 (zA E) := by
  refine z_head (by decide) (Nat.le_of_ble_eq_true rfl) ?_
  intro p e s m below meth c X hr hlk w ls hl
  have X : zX E p s m _ c prog_4_method_10_code "BeatHeap$Collector" 2 := X
  have hx := X.1
  have hb := X.2.1
  have hl : lv_has ls 2 [(0, .ref (E.2.1 1)), (1, .int a1)] := hl
  unfold f_Co_grey at h
  refine lv_iload_n hx hb d_Co_grey_0 rfl (lv_at hl 1 rfl) ?_
  refine lv_iconst (v := (-1)) hx hb d_Co_grey_1 (by decide) ?_
  refine lv_icmp_eq (tgt := 16) hx hb d_Co_grey_2 (by decide) (fun c1 => ?_) (fun c1 => ?_)
  · have h := h.1 c1
    exact z_vret X hr hlk w h d_Co_grey_16
  · have h := h.2 c1
    refine lv_aload_n hx hb d_Co_grey_5 rfl (lv_at hl 0 rfl) ?_
    refine gt_1_0 X w w_fl_Co_12 d_Co_grey_6 ?_
    refine lv_iload_n hx hb d_Co_grey_9 rfl (lv_at hl 1 rfl) ?_
    refine z_cVi (As := [.int a1]) (rest := []) (q0 := 2) (ci := 0) X w (c_Bk_isMarked l E μ a1 _ h) rfl rfl rfl w_ml_Co_122 ⟨w_im_Bk_isMarked, w_se_Bk_isMarked⟩ w_in_Bk w_co_Bk_isMarked q_Bk_isMarked.1 q_Bk_isMarked.2 rfl ⟨Nat.le_of_ble_eq_true rfl, Nat.le_of_ble_eq_true rfl⟩ ⟨Nat.zero_le _, Nat.zero_le _⟩ hl.1 rfl (Nat.le_of_ble_eq_true rfl) d_Co_grey_10 (fun r3 μ2 H locs h w => ?_)
    refine lv_if_eq (tgt := 17) hx hb d_Co_grey_13 (by decide) (fun c4 => ?_) (fun c4 => ?_)
    · have h := h.1 c4
      refine lv_aload_n hx hb d_Co_grey_17 rfl (lv_at hl 0 rfl) ?_
      refine gt_1_0 X w w_fl_Co_12 d_Co_grey_18 ?_
      refine lv_iload_n hx hb d_Co_grey_21 rfl (lv_at hl 1 rfl) ?_
      refine lv_iconst (v := 1) hx hb d_Co_grey_22 (by decide) ?_
      refine z_cVv (As := [.int a1, .int (1 : Int32)]) (rest := []) (q0 := 2) (ci := 0) X w (c_Bk_setMark l E μ2 a1 (1 : Int32) _ h) rfl rfl rfl w_ml_Co_126 ⟨w_im_Bk_setMark, w_se_Bk_setMark⟩ w_in_Bk w_co_Bk_setMark q_Bk_setMark.1 q_Bk_setMark.2 rfl ⟨Nat.le_of_ble_eq_true rfl, Nat.le_of_ble_eq_true rfl⟩ ⟨Nat.zero_le _, Nat.zero_le _⟩ hl.1 rfl (Nat.le_of_ble_eq_true rfl) d_Co_grey_23 (fun μ5 H locs h w => ?_)
      refine lv_aload_n hx hb d_Co_grey_26 rfl (lv_at hl 0 rfl) ?_
      refine gt_1_0 X w w_fl_Co_12 d_Co_grey_27 ?_
      refine lv_iload_n hx hb d_Co_grey_30 rfl (lv_at hl 1 rfl) ?_
      refine z_cVi (As := [.int a1]) (rest := []) (q0 := 2) (ci := 0) X w (c_Bk_kindOf l E μ5 a1 _ h) rfl rfl rfl w_ml_Co_130 ⟨w_im_Bk_kindOf, w_se_Bk_kindOf⟩ w_in_Bk w_co_Bk_kindOf q_Bk_kindOf.1 q_Bk_kindOf.2 rfl ⟨Nat.le_of_ble_eq_true rfl, Nat.le_of_ble_eq_true rfl⟩ ⟨Nat.zero_le _, Nat.zero_le _⟩ hl.1 rfl (Nat.le_of_ble_eq_true rfl) d_Co_grey_31 (fun r7 μ6 H locs h w => ?_)
      refine lv_iconst (v := 3) hx hb d_Co_grey_34 (by decide) ?_
      refine lv_icmp_eq (tgt := 46) hx hb d_Co_grey_35 (by decide) (fun c8 => ?_) (fun c8 => ?_)
      · have h := h.1 c8
        exact z_vret X hr hlk w h d_Co_grey_46
      · have h := h.2 c8
        refine lv_aload_n hx hb d_Co_grey_38 rfl (lv_at hl 0 rfl) ?_
        refine gt_1_2 X w w_fl_Co_28 d_Co_grey_39 ?_
        refine lv_iload_n hx hb d_Co_grey_42 rfl (lv_at hl 1 rfl) ?_
        refine z_cVv (As := [.int a1]) (rest := []) (q0 := 12) (ci := 3) X w (c_Pi_push_12 l E μ6 a1 _ h) rfl rfl rfl w_ml_Co_133 ⟨w_im_Pi_push, w_se_Pi_push⟩ w_in_Pi w_co_Pi_push q_Pi_push.1 q_Pi_push.2 rfl ⟨Nat.le_of_ble_eq_true rfl, Nat.le_of_ble_eq_true rfl⟩ ⟨Nat.zero_le _, Nat.zero_le _⟩ hl.1 rfl (Nat.le_of_ble_eq_true rfl) d_Co_grey_43 (fun μ9 H locs h w => ?_)
        exact z_vret X hr hlk w h d_Co_grey_46
    · have h := h.2 c4
      exact z_vret X hr hlk w h d_Co_grey_16
theorem q_Co_greyOld : (y_Co_greyOld.cls ≠ "java/lang/invoke/MethodHandle" ∧ y_Co_greyOld.cls ≠ "java/lang/invoke/VarHandle") ∧ (parseMethodDescriptor y_Co_greyOld.desc).map (fun d => d.parameters.length) = some 1 := by decide +kernel
theorem d_Co_greyOld_0 : decode prog_4_method_13_code 0 = .ok (.aload_n 0, 1) := by decide +kernel
theorem d_Co_greyOld_1 : decode prog_4_method_13_code 1 = .ok (.getfield 55, 3) := by decide +kernel
theorem d_Co_greyOld_4 : decode prog_4_method_13_code 4 = .ok (.iconst 1, 1) := by decide +kernel
theorem d_Co_greyOld_5 : decode prog_4_method_13_code 5 = .ok (.if_icmp .eq 11, 3) := by decide +kernel
theorem d_Co_greyOld_8 : decode prog_4_method_13_code 8 = .ok (.aload_n 0, 1) := by decide +kernel
theorem d_Co_greyOld_9 : decode prog_4_method_13_code 9 = .ok (.getfield 55, 3) := by decide +kernel
theorem d_Co_greyOld_12 : decode prog_4_method_13_code 12 = .ok (.iconst 2, 1) := by decide +kernel
theorem d_Co_greyOld_13 : decode prog_4_method_13_code 13 = .ok (.if_icmp .ne 8, 3) := by decide +kernel
theorem d_Co_greyOld_16 : decode prog_4_method_13_code 16 = .ok (.aload_n 0, 1) := by decide +kernel
theorem d_Co_greyOld_17 : decode prog_4_method_13_code 17 = .ok (.iload_n 1, 1) := by decide +kernel
theorem d_Co_greyOld_18 : decode prog_4_method_13_code 18 = .ok (.invokevirtual 106, 3) := by decide +kernel
theorem d_Co_greyOld_21 : decode prog_4_method_13_code 21 = .ok (.return_, 1) := by decide +kernel
def f_Co_greyOld (μ : zM) (a1 : Int32) (K : zM → Prop) : Prop := ((μ 1 7) = (1 : Int32) → (f_Co_grey μ a1 (fun μ2 => (K μ2)))) ∧ (¬ (μ 1 7) = (1 : Int32) → ((¬ (μ 1 7) = (2 : Int32) → (K μ)) ∧ ((μ 1 7) = (2 : Int32) → (f_Co_grey μ a1 (fun μ4 => (K μ4))))))
set_option maxHeartbeats 4000000 in
set_option maxRecDepth 100000 in
theorem c_Co_greyOld (l : Launch) (E : zE) (μ : zM) (a1 : Int32) (K : zM → Prop) (h : f_Co_greyOld μ a1 K) : Met l y_Co_greyOld (Cond.code y_Co_greyOld prog_4_method_13_code 2 none :: zT) { frames := 3, cells := 0, slots := 0, locals := 64 } (va_Pc [.ref (E.2.1 1), .int a1] (zR zwC E μ)) (va_Qv K (zR zwC E) (zA E)) 0 0 (zA E) := by
  refine z_head (by decide) (Nat.le_of_ble_eq_true rfl) ?_
  intro p e s m below meth c X hr hlk w ls hl
  have X : zX E p s m _ c prog_4_method_13_code "BeatHeap$Collector" 2 := X
  have hx := X.1
  have hb := X.2.1
  have hl : lv_has ls 2 [(0, .ref (E.2.1 1)), (1, .int a1)] := hl
  unfold f_Co_greyOld at h
  refine lv_aload_n hx hb d_Co_greyOld_0 rfl (lv_at hl 0 rfl) ?_
  refine gt_1_7 X w w_fl_Co_55 d_Co_greyOld_1 ?_
  refine lv_iconst (v := 1) hx hb d_Co_greyOld_4 (by decide) ?_
  refine lv_icmp_eq (tgt := 16) hx hb d_Co_greyOld_5 (by decide) (fun c1 => ?_) (fun c1 => ?_)
  · have h := h.1 c1
    refine lv_aload_n hx hb d_Co_greyOld_16 rfl (lv_at hl 0 rfl) ?_
    refine lv_iload_n hx hb d_Co_greyOld_17 rfl (lv_at hl 1 rfl) ?_
    refine z_cVv (As := [.int a1]) (rest := []) (q0 := 1) (ci := 2) X w (c_Co_grey l E μ a1 _ h) rfl rfl rfl w_ml_Co_106 ⟨w_im_Co_grey, w_se_Co_grey⟩ w_in_Co w_co_Co_grey q_Co_grey.1 q_Co_grey.2 rfl ⟨Nat.le_of_ble_eq_true rfl, Nat.le_of_ble_eq_true rfl⟩ ⟨Nat.zero_le _, Nat.zero_le _⟩ hl.1 rfl (Nat.le_of_ble_eq_true rfl) d_Co_greyOld_18 (fun μ2 H locs h w => ?_)
    exact z_vret X hr hlk w h d_Co_greyOld_21
  · have h := h.2 c1
    refine lv_aload_n hx hb d_Co_greyOld_8 rfl (lv_at hl 0 rfl) ?_
    refine gt_1_7 X w w_fl_Co_55 d_Co_greyOld_9 ?_
    refine lv_iconst (v := 2) hx hb d_Co_greyOld_12 (by decide) ?_
    refine lv_icmp_ne (tgt := 21) hx hb d_Co_greyOld_13 (by decide) (fun c3 => ?_) (fun c3 => ?_)
    · have h := h.1 c3
      exact z_vret X hr hlk w h d_Co_greyOld_21
    · have h := h.2 c3
      refine lv_aload_n hx hb d_Co_greyOld_16 rfl (lv_at hl 0 rfl) ?_
      refine lv_iload_n hx hb d_Co_greyOld_17 rfl (lv_at hl 1 rfl) ?_
      refine z_cVv (As := [.int a1]) (rest := []) (q0 := 1) (ci := 2) X w (c_Co_grey l E μ a1 _ h) rfl rfl rfl w_ml_Co_106 ⟨w_im_Co_grey, w_se_Co_grey⟩ w_in_Co w_co_Co_grey q_Co_grey.1 q_Co_grey.2 rfl ⟨Nat.le_of_ble_eq_true rfl, Nat.le_of_ble_eq_true rfl⟩ ⟨Nat.zero_le _, Nat.zero_le _⟩ hl.1 rfl (Nat.le_of_ble_eq_true rfl) d_Co_greyOld_18 (fun μ4 H locs h w => ?_)
      exact z_vret X hr hlk w h d_Co_greyOld_21
theorem q_Bh_setRoot : (y_Bh_setRoot.cls ≠ "java/lang/invoke/MethodHandle" ∧ y_Bh_setRoot.cls ≠ "java/lang/invoke/VarHandle") ∧ (parseMethodDescriptor y_Bh_setRoot.desc).map (fun d => d.parameters.length) = some 2 := by decide +kernel
theorem d_Bh_setRoot_0 : decode prog_1_method_28_code 0 = .ok (.iload_n 1, 1) := by decide +kernel
theorem d_Bh_setRoot_1 : decode prog_1_method_28_code 1 = .ok (.invokestatic 46, 3) := by decide +kernel
theorem d_Bh_setRoot_4 : decode prog_1_method_28_code 4 = .ok (.ifCond .eq 23, 3) := by decide +kernel
theorem d_Bh_setRoot_7 : decode prog_1_method_28_code 7 = .ok (.aload_n 0, 1) := by decide +kernel
theorem d_Bh_setRoot_8 : decode prog_1_method_28_code 8 = .ok (.getfield 12, 3) := by decide +kernel
theorem d_Bh_setRoot_11 : decode prog_1_method_28_code 11 = .ok (.aload_n 0, 1) := by decide +kernel
theorem d_Bh_setRoot_12 : decode prog_1_method_28_code 12 = .ok (.getfield 30, 3) := by decide +kernel
theorem d_Bh_setRoot_15 : decode prog_1_method_28_code 15 = .ok (.iload_n 1, 1) := by decide +kernel
theorem d_Bh_setRoot_16 : decode prog_1_method_28_code 16 = .ok (.iaload, 1) := by decide +kernel
theorem d_Bh_setRoot_17 : decode prog_1_method_28_code 17 = .ok (.invokevirtual 88, 3) := by decide +kernel
theorem d_Bh_setRoot_20 : decode prog_1_method_28_code 20 = .ok (.aload_n 0, 1) := by decide +kernel
theorem d_Bh_setRoot_21 : decode prog_1_method_28_code 21 = .ok (.getfield 30, 3) := by decide +kernel
theorem d_Bh_setRoot_24 : decode prog_1_method_28_code 24 = .ok (.iload_n 1, 1) := by decide +kernel
theorem d_Bh_setRoot_25 : decode prog_1_method_28_code 25 = .ok (.iload_n 2, 1) := by decide +kernel
theorem d_Bh_setRoot_26 : decode prog_1_method_28_code 26 = .ok (.iastore, 1) := by decide +kernel
theorem d_Bh_setRoot_27 : decode prog_1_method_28_code 27 = .ok (.return_, 1) := by decide +kernel
def f_Bh_setRoot (μ : zM) (a1 a2 : Int32) (K : zM → Prop) : Prop := f_Bh_isRoot μ a1 (fun r2 μ1 => ((r2 = 0 → (K μ1)) ∧ (¬ r2 = 0 → (vp_in a1 16 ∧ (f_Co_greyOld μ1 (μ1 14 a1.toNatClampNeg) (fun μ5 => (vp_in a1 16 ∧ ∀ μ7 : zM, μ7 = zp μ5 14 a1.toNatClampNeg a2 → (K μ7))))))))
set_option maxHeartbeats 4000000 in
set_option maxRecDepth 100000 in
theorem c_Bh_setRoot (l : Launch) (E : zE) (μ : zM) (a1 a2 : Int32) (K : zM → Prop) (h : f_Bh_setRoot μ a1 a2 K) : Met l y_Bh_setRoot (Cond.code y_Bh_setRoot prog_1_method_28_code 3 none :: zT) { frames := 4, cells := 0, slots := 0, locals := 85 } (va_Pc [.ref (E.2.1 0), .int a1, .int a2] (zR zwC E μ)) (va_Qv K (zR zwC E) (zA E)) 0 0 (zA E) := by
  refine z_head (by decide) (Nat.le_of_ble_eq_true rfl) ?_
  intro p e s m below meth c X hr hlk w ls hl
  have X : zX E p s m _ c prog_1_method_28_code "BeatHeap" 3 := X
  have hx := X.1
  have hb := X.2.1
  have hl : lv_has ls 3 [(0, .ref (E.2.1 0)), (1, .int a1), (2, .int a2)] := hl
  unfold f_Bh_setRoot at h
  refine lv_iload_n hx hb d_Bh_setRoot_0 rfl (lv_at hl 1 rfl) ?_
  refine z_cSi (As := [.int a1]) (rest := []) X w (c_Bh_isRoot l E μ a1 _ h) w_ml_Bh_46 w_st_Bh_isRoot w_in_Bh w_co_Bh_isRoot q_Bh_isRoot.1 q_Bh_isRoot.2 rfl ⟨Nat.le_of_ble_eq_true rfl, Nat.le_of_ble_eq_true rfl⟩ ⟨Nat.zero_le _, Nat.zero_le _⟩ hl.1 rfl (Nat.le_of_ble_eq_true rfl) d_Bh_setRoot_1 (fun r2 μ1 H locs h w => ?_)
  refine lv_if_eq (tgt := 27) hx hb d_Bh_setRoot_4 (by decide) (fun c3 => ?_) (fun c3 => ?_)
  · have h := h.1 c3
    exact z_vret X hr hlk w h d_Bh_setRoot_27
  · have h := h.2 c3
    refine lv_aload_n hx hb d_Bh_setRoot_7 rfl (lv_at hl 0 rfl) ?_
    refine gt_0_0 X w w_fl_Bh_12 d_Bh_setRoot_8 ?_
    refine lv_aload_n hx hb d_Bh_setRoot_11 rfl (lv_at hl 0 rfl) ?_
    refine gt_0_3 X w w_fl_Bh_30 d_Bh_setRoot_12 ?_
    refine lv_iload_n hx hb d_Bh_setRoot_15 rfl (lv_at hl 1 rfl) ?_
    obtain ⟨hi4, h⟩ := h
    refine al_14 X w hi4 d_Bh_setRoot_16 ?_
    refine z_cVv (As := [.int (μ1 14 a1.toNatClampNeg)]) (rest := []) (q0 := 1) (ci := 2) X w (c_Co_greyOld l E μ1 (μ1 14 a1.toNatClampNeg) _ h) rfl rfl rfl w_ml_Bh_88 ⟨w_im_Co_greyOld, w_se_Co_greyOld⟩ w_in_Co w_co_Co_greyOld q_Co_greyOld.1 q_Co_greyOld.2 rfl ⟨Nat.le_of_ble_eq_true rfl, Nat.le_of_ble_eq_true rfl⟩ ⟨Nat.zero_le _, Nat.zero_le _⟩ hl.1 rfl (Nat.le_of_ble_eq_true rfl) d_Bh_setRoot_17 (fun μ5 H locs h w => ?_)
    refine lv_aload_n hx hb d_Bh_setRoot_20 rfl (lv_at hl 0 rfl) ?_
    refine gt_0_3 X w w_fl_Bh_30 d_Bh_setRoot_21 ?_
    refine lv_iload_n hx hb d_Bh_setRoot_24 rfl (lv_at hl 1 rfl) ?_
    refine lv_iload_n hx hb d_Bh_setRoot_25 rfl (lv_at hl 2 rfl) ?_
    obtain ⟨hi6, h⟩ := h
    refine as_14 X w hi6 d_Bh_setRoot_26 (fun μ7 H locs eμ7 w => ?_)
    have h := h μ7 eμ7
    exact z_vret X hr hlk w h d_Bh_setRoot_27
theorem q_Co_beginCycle : (y_Co_beginCycle.cls ≠ "java/lang/invoke/MethodHandle" ∧ y_Co_beginCycle.cls ≠ "java/lang/invoke/VarHandle") ∧ (parseMethodDescriptor y_Co_beginCycle.desc).map (fun d => d.parameters.length) = some 0 := by decide +kernel
theorem d_Co_beginCycle_0 : decode prog_4_method_5_code 0 = .ok (.aload_n 0, 1) := by decide +kernel
theorem d_Co_beginCycle_1 : decode prog_4_method_5_code 1 = .ok (.getfield 55, 3) := by decide +kernel
theorem d_Co_beginCycle_4 : decode prog_4_method_5_code 4 = .ok (.ifCond .eq 5, 3) := by decide +kernel
theorem d_Co_beginCycle_7 : decode prog_4_method_5_code 7 = .ok (.iconst 0, 1) := by decide +kernel
theorem d_Co_beginCycle_8 : decode prog_4_method_5_code 8 = .ok (.ireturn, 1) := by decide +kernel
theorem d_Co_beginCycle_9 : decode prog_4_method_5_code 9 = .ok (.aload_n 0, 1) := by decide +kernel
theorem d_Co_beginCycle_10 : decode prog_4_method_5_code 10 = .ok (.iconst 1, 1) := by decide +kernel
theorem d_Co_beginCycle_11 : decode prog_4_method_5_code 11 = .ok (.putfield 55, 3) := by decide +kernel
theorem d_Co_beginCycle_14 : decode prog_4_method_5_code 14 = .ok (.aload_n 0, 1) := by decide +kernel
theorem d_Co_beginCycle_15 : decode prog_4_method_5_code 15 = .ok (.aload_n 0, 1) := by decide +kernel
theorem d_Co_beginCycle_16 : decode prog_4_method_5_code 16 = .ok (.getfield 36, 3) := by decide +kernel
theorem d_Co_beginCycle_19 : decode prog_4_method_5_code 19 = .ok (.putfield 58, 3) := by decide +kernel
theorem d_Co_beginCycle_22 : decode prog_4_method_5_code 22 = .ok (.iconst 1, 1) := by decide +kernel
theorem d_Co_beginCycle_23 : decode prog_4_method_5_code 23 = .ok (.ireturn, 1) := by decide +kernel
def f_Co_beginCycle (μ : zM) (K : Int32 → zM → Prop) : Prop := ((μ 1 7) = 0 → (∀ μ2 : zM, μ2 = zp μ 1 7 (1 : Int32) → (∀ μ3 : zM, μ3 = zp μ2 1 8 (μ2 1 4) → (K (1 : Int32) μ3)))) ∧ (¬ (μ 1 7) = 0 → (K (0 : Int32) μ))
set_option maxHeartbeats 4000000 in
set_option maxRecDepth 100000 in
theorem c_Co_beginCycle (l : Launch) (E : zE) (μ : zM) (K : Int32 → zM → Prop) (h : f_Co_beginCycle μ K) : Met l y_Co_beginCycle (Cond.code y_Co_beginCycle prog_4_method_5_code 1 (some .boolean) :: zT) { frames := 0, cells := 0, slots := 0, locals := 0 } (va_Pc [.ref (E.2.1 1)] (zR zwC E μ)) (va_Qi K (zR zwC E) (zA E)) 0 0 (zA E) := by
  refine z_head (by decide) (Nat.le_of_ble_eq_true rfl) ?_
  intro p e s m below meth c X hr hlk w ls hl
  have X : zX E p s m _ c prog_4_method_5_code "BeatHeap$Collector" 1 := X
  have hx := X.1
  have hb := X.2.1
  have hl : lv_has ls 1 [(0, .ref (E.2.1 1))] := hl
  unfold f_Co_beginCycle at h
  refine lv_aload_n hx hb d_Co_beginCycle_0 rfl (lv_at hl 0 rfl) ?_
  refine gt_1_7 X w w_fl_Co_55 d_Co_beginCycle_1 ?_
  refine lv_if_eq (tgt := 9) hx hb d_Co_beginCycle_4 (by decide) (fun c1 => ?_) (fun c1 => ?_)
  · have h := h.1 c1
    refine lv_aload_n hx hb d_Co_beginCycle_9 rfl (lv_at hl 0 rfl) ?_
    refine lv_iconst (v := 1) hx hb d_Co_beginCycle_10 (by decide) ?_
    refine pt_1_7 X w w_fl_Co_55 d_Co_beginCycle_11 (fun μ2 H locs eμ2 w => ?_)
    have h := h μ2 eμ2
    refine lv_aload_n hx hb d_Co_beginCycle_14 rfl (lv_at hl 0 rfl) ?_
    refine lv_aload_n hx hb d_Co_beginCycle_15 rfl (lv_at hl 0 rfl) ?_
    refine gt_1_4 X w w_fl_Co_36 d_Co_beginCycle_16 ?_
    refine pt_1_8 X w w_fl_Co_58 d_Co_beginCycle_19 (fun μ3 H locs eμ3 w => ?_)
    have h := h μ3 eμ3
    refine lv_iconst (v := 1) hx hb d_Co_beginCycle_22 (by decide) ?_
    exact z_zret X hr hlk w (by decide) h d_Co_beginCycle_23
  · have h := h.2 c1
    refine lv_iconst (v := 0) hx hb d_Co_beginCycle_7 (by decide) ?_
    exact z_zret X hr hlk w (by decide) h d_Co_beginCycle_8
