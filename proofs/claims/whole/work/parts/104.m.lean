theorem q_Co_markStep : (y_Co_markStep.cls ≠ "java/lang/invoke/MethodHandle" ∧ y_Co_markStep.cls ≠ "java/lang/invoke/VarHandle") ∧ (parseMethodDescriptor y_Co_markStep.desc).map (fun d => d.parameters.length) = some 0 := by decide +kernel
theorem d_Co_markStep_0 : decode prog_4_method_9_code 0 = .ok (.aload_n 0, 1) := by decide +kernel
theorem d_Co_markStep_1 : decode prog_4_method_9_code 1 = .ok (.getfield 64, 3) := by decide +kernel
theorem d_Co_markStep_4 : decode prog_4_method_9_code 4 = .ok (.iconst (-1), 1) := by decide +kernel
theorem d_Co_markStep_5 : decode prog_4_method_9_code 5 = .ok (.if_icmp .eq 52, 3) := by decide +kernel
theorem d_Co_markStep_8 : decode prog_4_method_9_code 8 = .ok (.aload_n 0, 1) := by decide +kernel
theorem d_Co_markStep_9 : decode prog_4_method_9_code 9 = .ok (.getfield 67, 3) := by decide +kernel
theorem d_Co_markStep_12 : decode prog_4_method_9_code 12 = .ok (.aload_n 0, 1) := by decide +kernel
theorem d_Co_markStep_13 : decode prog_4_method_9_code 13 = .ok (.getfield 12, 3) := by decide +kernel
theorem d_Co_markStep_16 : decode prog_4_method_9_code 16 = .ok (.aload_n 0, 1) := by decide +kernel
theorem d_Co_markStep_17 : decode prog_4_method_9_code 17 = .ok (.getfield 64, 3) := by decide +kernel
theorem d_Co_markStep_20 : decode prog_4_method_9_code 20 = .ok (.invokevirtual 109, 3) := by decide +kernel
theorem d_Co_markStep_23 : decode prog_4_method_9_code 23 = .ok (.if_icmp .ge 34, 3) := by decide +kernel
theorem d_Co_markStep_26 : decode prog_4_method_9_code 26 = .ok (.aload_n 0, 1) := by decide +kernel
theorem d_Co_markStep_27 : decode prog_4_method_9_code 27 = .ok (.dup, 1) := by decide +kernel
theorem d_Co_markStep_28 : decode prog_4_method_9_code 28 = .ok (.getfield 67, 3) := by decide +kernel
theorem d_Co_markStep_31 : decode prog_4_method_9_code 31 = .ok (.iconst 1, 1) := by decide +kernel
theorem d_Co_markStep_32 : decode prog_4_method_9_code 32 = .ok (.iadd, 1) := by decide +kernel
theorem d_Co_markStep_33 : decode prog_4_method_9_code 33 = .ok (.putfield 67, 3) := by decide +kernel
theorem d_Co_markStep_36 : decode prog_4_method_9_code 36 = .ok (.aload_n 0, 1) := by decide +kernel
theorem d_Co_markStep_37 : decode prog_4_method_9_code 37 = .ok (.aload_n 0, 1) := by decide +kernel
theorem d_Co_markStep_38 : decode prog_4_method_9_code 38 = .ok (.getfield 12, 3) := by decide +kernel
theorem d_Co_markStep_41 : decode prog_4_method_9_code 41 = .ok (.aload_n 0, 1) := by decide +kernel
theorem d_Co_markStep_42 : decode prog_4_method_9_code 42 = .ok (.getfield 64, 3) := by decide +kernel
theorem d_Co_markStep_45 : decode prog_4_method_9_code 45 = .ok (.aload_n 0, 1) := by decide +kernel
theorem d_Co_markStep_46 : decode prog_4_method_9_code 46 = .ok (.getfield 67, 3) := by decide +kernel
theorem d_Co_markStep_49 : decode prog_4_method_9_code 49 = .ok (.iadd, 1) := by decide +kernel
theorem d_Co_markStep_50 : decode prog_4_method_9_code 50 = .ok (.invokevirtual 112, 3) := by decide +kernel
theorem d_Co_markStep_53 : decode prog_4_method_9_code 53 = .ok (.invokevirtual 106, 3) := by decide +kernel
theorem d_Co_markStep_56 : decode prog_4_method_9_code 56 = .ok (.return_, 1) := by decide +kernel
theorem d_Co_markStep_57 : decode prog_4_method_9_code 57 = .ok (.aload_n 0, 1) := by decide +kernel
theorem d_Co_markStep_58 : decode prog_4_method_9_code 58 = .ok (.aload_n 0, 1) := by decide +kernel
theorem d_Co_markStep_59 : decode prog_4_method_9_code 59 = .ok (.getfield 28, 3) := by decide +kernel
theorem d_Co_markStep_62 : decode prog_4_method_9_code 62 = .ok (.invokevirtual 115, 3) := by decide +kernel
theorem d_Co_markStep_65 : decode prog_4_method_9_code 65 = .ok (.putfield 64, 3) := by decide +kernel
theorem d_Co_markStep_68 : decode prog_4_method_9_code 68 = .ok (.aload_n 0, 1) := by decide +kernel
theorem d_Co_markStep_69 : decode prog_4_method_9_code 69 = .ok (.iconst 0, 1) := by decide +kernel
theorem d_Co_markStep_70 : decode prog_4_method_9_code 70 = .ok (.putfield 67, 3) := by decide +kernel
theorem d_Co_markStep_73 : decode prog_4_method_9_code 73 = .ok (.aload_n 0, 1) := by decide +kernel
theorem d_Co_markStep_74 : decode prog_4_method_9_code 74 = .ok (.getfield 64, 3) := by decide +kernel
theorem d_Co_markStep_77 : decode prog_4_method_9_code 77 = .ok (.iconst (-1), 1) := by decide +kernel
theorem d_Co_markStep_78 : decode prog_4_method_9_code 78 = .ok (.if_icmp .ne 12, 3) := by decide +kernel
theorem d_Co_markStep_81 : decode prog_4_method_9_code 81 = .ok (.aload_n 0, 1) := by decide +kernel
theorem d_Co_markStep_82 : decode prog_4_method_9_code 82 = .ok (.iconst 3, 1) := by decide +kernel
theorem d_Co_markStep_83 : decode prog_4_method_9_code 83 = .ok (.putfield 55, 3) := by decide +kernel
theorem d_Co_markStep_86 : decode prog_4_method_9_code 86 = .ok (.aload_n 0, 1) := by decide +kernel
theorem d_Co_markStep_87 : decode prog_4_method_9_code 87 = .ok (.invokevirtual 119, 3) := by decide +kernel
theorem d_Co_markStep_90 : decode prog_4_method_9_code 90 = .ok (.return_, 1) := by decide +kernel
def f_Co_markStep (μ : zM) (K : zM → Prop) : Prop := ((μ 1 10) = (-1 : Int32) → (f_Pi_pop_12 μ (fun r3 μ2 => (∀ μ4 : zM, μ4 = zp μ2 1 10 r3 → (∀ μ5 : zM, μ5 = zp μ4 1 11 (0 : Int32) → ((¬ (μ5 1 10) = (-1 : Int32) → (K μ5)) ∧ ((μ5 1 10) = (-1 : Int32) → (∀ μ7 : zM, μ7 = zp μ5 1 7 (3 : Int32) → (f_Co_endIfSwept μ7 (fun μ8 => (K μ8))))))))))) ∧ (¬ (μ 1 10) = (-1 : Int32) → (f_Bk_pointersOf μ (μ 1 10) (fun r10 μ9 => ((r10 ≤ (μ 1 11) → (f_Pi_pop_12 μ9 (fun r13 μ12 => (∀ μ14 : zM, μ14 = zp μ12 1 10 r13 → (∀ μ15 : zM, μ15 = zp μ14 1 11 (0 : Int32) → ((¬ (μ15 1 10) = (-1 : Int32) → (K μ15)) ∧ ((μ15 1 10) = (-1 : Int32) → (∀ μ17 : zM, μ17 = zp μ15 1 7 (3 : Int32) → (f_Co_endIfSwept μ17 (fun μ18 => (K μ18))))))))))) ∧ (¬ r10 ≤ (μ 1 11) → (∀ μ19 : zM, μ19 = zp μ9 1 11 ((μ9 1 11) + (1 : Int32)) → (f_Bk_pointerAt μ19 ((μ19 1 10) + (μ19 1 11)) (fun r21 μ20 => (f_Co_grey μ20 r21 (fun μ22 => (K μ22)))))))))))
set_option maxHeartbeats 4000000 in
set_option maxRecDepth 100000 in
theorem c_Co_markStep (l : Launch) (E : zE) (μ : zM) (K : zM → Prop) (h : f_Co_markStep μ K) : Met l y_Co_markStep (Cond.code y_Co_markStep prog_4_method_9_code 1 none :: zT) { frames := 3, cells := 0, slots := 0, locals := 64 } (va_Pc [.ref (E.2.1 1)] (zR zwC E μ)) (va_Qv K (zR zwC E) (zA E)) 0 0 (zA E) := by
  refine z_head (by decide) (Nat.le_of_ble_eq_true rfl) ?_
  intro p e s m below meth c X hr hlk w ls hl
  have X : zX E p s m _ c prog_4_method_9_code "BeatHeap$Collector" 1 := X
  have hx := X.1
  have hb := X.2.1
  have hl : lv_has ls 1 [(0, .ref (E.2.1 1))] := hl
  unfold f_Co_markStep at h
  refine lv_aload_n hx hb d_Co_markStep_0 rfl (lv_at hl 0 rfl) ?_
  refine gt_1_10 X w w_fl_Co_64 d_Co_markStep_1 ?_
  refine lv_iconst (v := (-1)) hx hb d_Co_markStep_4 (by decide) ?_
  refine lv_icmp_eq (tgt := 57) hx hb d_Co_markStep_5 (by decide) (fun c1 => ?_) (fun c1 => ?_)
  · have h := h.1 c1
    refine lv_aload_n hx hb d_Co_markStep_57 rfl (lv_at hl 0 rfl) ?_
    refine lv_aload_n hx hb d_Co_markStep_58 rfl (lv_at hl 0 rfl) ?_
    refine gt_1_2 X w w_fl_Co_28 d_Co_markStep_59 ?_
    refine z_cVi (As := []) (rest := [.ref (E.2.1 1)]) (q0 := 12) (ci := 3) X w (c_Pi_pop_12 l E μ _ h) rfl rfl rfl w_ml_Co_115 ⟨w_im_Pi_pop, w_se_Pi_pop⟩ w_in_Pi w_co_Pi_pop q_Pi_pop.1 q_Pi_pop.2 rfl ⟨Nat.le_of_ble_eq_true rfl, Nat.le_of_ble_eq_true rfl⟩ ⟨Nat.zero_le _, Nat.zero_le _⟩ hl.1 rfl (Nat.le_of_ble_eq_true rfl) d_Co_markStep_62 (fun r3 μ2 H locs h w => ?_)
    refine pt_1_10 X w w_fl_Co_64 d_Co_markStep_65 (fun μ4 H locs eμ4 w => ?_)
    have h := h μ4 eμ4
    refine lv_aload_n hx hb d_Co_markStep_68 rfl (lv_at hl 0 rfl) ?_
    refine lv_iconst (v := 0) hx hb d_Co_markStep_69 (by decide) ?_
    refine pt_1_11 X w w_fl_Co_67 d_Co_markStep_70 (fun μ5 H locs eμ5 w => ?_)
    have h := h μ5 eμ5
    refine lv_aload_n hx hb d_Co_markStep_73 rfl (lv_at hl 0 rfl) ?_
    refine gt_1_10 X w w_fl_Co_64 d_Co_markStep_74 ?_
    refine lv_iconst (v := (-1)) hx hb d_Co_markStep_77 (by decide) ?_
    refine lv_icmp_ne (tgt := 90) hx hb d_Co_markStep_78 (by decide) (fun c6 => ?_) (fun c6 => ?_)
    · have h := h.1 c6
      exact z_vret X hr hlk w h d_Co_markStep_90
    · have h := h.2 c6
      refine lv_aload_n hx hb d_Co_markStep_81 rfl (lv_at hl 0 rfl) ?_
      refine lv_iconst (v := 3) hx hb d_Co_markStep_82 (by decide) ?_
      refine pt_1_7 X w w_fl_Co_55 d_Co_markStep_83 (fun μ7 H locs eμ7 w => ?_)
      have h := h μ7 eμ7
      refine lv_aload_n hx hb d_Co_markStep_86 rfl (lv_at hl 0 rfl) ?_
      refine z_cVv (As := []) (rest := []) (q0 := 1) (ci := 2) X w (c_Co_endIfSwept l E μ7 _ h) rfl rfl rfl w_ml_Co_119 ⟨w_im_Co_endIfSwept, w_se_Co_endIfSwept⟩ w_in_Co w_co_Co_endIfSwept q_Co_endIfSwept.1 q_Co_endIfSwept.2 rfl ⟨Nat.le_of_ble_eq_true rfl, Nat.le_of_ble_eq_true rfl⟩ ⟨Nat.zero_le _, Nat.zero_le _⟩ hl.1 rfl (Nat.le_of_ble_eq_true rfl) d_Co_markStep_87 (fun μ8 H locs h w => ?_)
      exact z_vret X hr hlk w h d_Co_markStep_90
  · have h := h.2 c1
    refine lv_aload_n hx hb d_Co_markStep_8 rfl (lv_at hl 0 rfl) ?_
    refine gt_1_11 X w w_fl_Co_67 d_Co_markStep_9 ?_
    refine lv_aload_n hx hb d_Co_markStep_12 rfl (lv_at hl 0 rfl) ?_
    refine gt_1_0 X w w_fl_Co_12 d_Co_markStep_13 ?_
    refine lv_aload_n hx hb d_Co_markStep_16 rfl (lv_at hl 0 rfl) ?_
    refine gt_1_10 X w w_fl_Co_64 d_Co_markStep_17 ?_
    refine z_cVi (As := [.int (μ 1 10)]) (rest := [.int (μ 1 11)]) (q0 := 2) (ci := 0) X w (c_Bk_pointersOf l E μ (μ 1 10) _ h) rfl rfl rfl w_ml_Co_109 ⟨w_im_Bk_pointersOf, w_se_Bk_pointersOf⟩ w_in_Bk w_co_Bk_pointersOf q_Bk_pointersOf.1 q_Bk_pointersOf.2 rfl ⟨Nat.le_of_ble_eq_true rfl, Nat.le_of_ble_eq_true rfl⟩ ⟨Nat.zero_le _, Nat.zero_le _⟩ hl.1 rfl (Nat.le_of_ble_eq_true rfl) d_Co_markStep_20 (fun r10 μ9 H locs h w => ?_)
    refine lv_icmp_ge (tgt := 57) hx hb d_Co_markStep_23 (by decide) (fun c11 => ?_) (fun c11 => ?_)
    · have h := h.1 c11
      refine lv_aload_n hx hb d_Co_markStep_57 rfl (lv_at hl 0 rfl) ?_
      refine lv_aload_n hx hb d_Co_markStep_58 rfl (lv_at hl 0 rfl) ?_
      refine gt_1_2 X w w_fl_Co_28 d_Co_markStep_59 ?_
      refine z_cVi (As := []) (rest := [.ref (E.2.1 1)]) (q0 := 12) (ci := 3) X w (c_Pi_pop_12 l E μ9 _ h) rfl rfl rfl w_ml_Co_115 ⟨w_im_Pi_pop, w_se_Pi_pop⟩ w_in_Pi w_co_Pi_pop q_Pi_pop.1 q_Pi_pop.2 rfl ⟨Nat.le_of_ble_eq_true rfl, Nat.le_of_ble_eq_true rfl⟩ ⟨Nat.zero_le _, Nat.zero_le _⟩ hl.1 rfl (Nat.le_of_ble_eq_true rfl) d_Co_markStep_62 (fun r13 μ12 H locs h w => ?_)
      refine pt_1_10 X w w_fl_Co_64 d_Co_markStep_65 (fun μ14 H locs eμ14 w => ?_)
      have h := h μ14 eμ14
      refine lv_aload_n hx hb d_Co_markStep_68 rfl (lv_at hl 0 rfl) ?_
      refine lv_iconst (v := 0) hx hb d_Co_markStep_69 (by decide) ?_
      refine pt_1_11 X w w_fl_Co_67 d_Co_markStep_70 (fun μ15 H locs eμ15 w => ?_)
      have h := h μ15 eμ15
      refine lv_aload_n hx hb d_Co_markStep_73 rfl (lv_at hl 0 rfl) ?_
      refine gt_1_10 X w w_fl_Co_64 d_Co_markStep_74 ?_
      refine lv_iconst (v := (-1)) hx hb d_Co_markStep_77 (by decide) ?_
      refine lv_icmp_ne (tgt := 90) hx hb d_Co_markStep_78 (by decide) (fun c16 => ?_) (fun c16 => ?_)
      · have h := h.1 c16
        exact z_vret X hr hlk w h d_Co_markStep_90
      · have h := h.2 c16
        refine lv_aload_n hx hb d_Co_markStep_81 rfl (lv_at hl 0 rfl) ?_
        refine lv_iconst (v := 3) hx hb d_Co_markStep_82 (by decide) ?_
        refine pt_1_7 X w w_fl_Co_55 d_Co_markStep_83 (fun μ17 H locs eμ17 w => ?_)
        have h := h μ17 eμ17
        refine lv_aload_n hx hb d_Co_markStep_86 rfl (lv_at hl 0 rfl) ?_
        refine z_cVv (As := []) (rest := []) (q0 := 1) (ci := 2) X w (c_Co_endIfSwept l E μ17 _ h) rfl rfl rfl w_ml_Co_119 ⟨w_im_Co_endIfSwept, w_se_Co_endIfSwept⟩ w_in_Co w_co_Co_endIfSwept q_Co_endIfSwept.1 q_Co_endIfSwept.2 rfl ⟨Nat.le_of_ble_eq_true rfl, Nat.le_of_ble_eq_true rfl⟩ ⟨Nat.zero_le _, Nat.zero_le _⟩ hl.1 rfl (Nat.le_of_ble_eq_true rfl) d_Co_markStep_87 (fun μ18 H locs h w => ?_)
        exact z_vret X hr hlk w h d_Co_markStep_90
    · have h := h.2 c11
      refine lv_aload_n hx hb d_Co_markStep_26 rfl (lv_at hl 0 rfl) ?_
      refine lv_dup hx hb d_Co_markStep_27 rfl ?_
      refine gt_1_11 X w w_fl_Co_67 d_Co_markStep_28 ?_
      refine lv_iconst (v := 1) hx hb d_Co_markStep_31 (by decide) ?_
      refine lv_iadd hx hb d_Co_markStep_32 ?_
      refine pt_1_11 X w w_fl_Co_67 d_Co_markStep_33 (fun μ19 H locs eμ19 w => ?_)
      have h := h μ19 eμ19
      refine lv_aload_n hx hb d_Co_markStep_36 rfl (lv_at hl 0 rfl) ?_
      refine lv_aload_n hx hb d_Co_markStep_37 rfl (lv_at hl 0 rfl) ?_
      refine gt_1_0 X w w_fl_Co_12 d_Co_markStep_38 ?_
      refine lv_aload_n hx hb d_Co_markStep_41 rfl (lv_at hl 0 rfl) ?_
      refine gt_1_10 X w w_fl_Co_64 d_Co_markStep_42 ?_
      refine lv_aload_n hx hb d_Co_markStep_45 rfl (lv_at hl 0 rfl) ?_
      refine gt_1_11 X w w_fl_Co_67 d_Co_markStep_46 ?_
      refine lv_iadd hx hb d_Co_markStep_49 ?_
      refine z_cVi (As := [.int ((μ19 1 10) + (μ19 1 11))]) (rest := [.ref (E.2.1 1)]) (q0 := 2) (ci := 0) X w (c_Bk_pointerAt l E μ19 ((μ19 1 10) + (μ19 1 11)) _ h) rfl rfl rfl w_ml_Co_112 ⟨w_im_Bk_pointerAt, w_se_Bk_pointerAt⟩ w_in_Bk w_co_Bk_pointerAt q_Bk_pointerAt.1 q_Bk_pointerAt.2 rfl ⟨Nat.le_of_ble_eq_true rfl, Nat.le_of_ble_eq_true rfl⟩ ⟨Nat.zero_le _, Nat.zero_le _⟩ hl.1 rfl (Nat.le_of_ble_eq_true rfl) d_Co_markStep_50 (fun r21 μ20 H locs h w => ?_)
      refine z_cVv (As := [.int r21]) (rest := []) (q0 := 1) (ci := 2) X w (c_Co_grey l E μ20 r21 _ h) rfl rfl rfl w_ml_Co_106 ⟨w_im_Co_grey, w_se_Co_grey⟩ w_in_Co w_co_Co_grey q_Co_grey.1 q_Co_grey.2 rfl ⟨Nat.le_of_ble_eq_true rfl, Nat.le_of_ble_eq_true rfl⟩ ⟨Nat.zero_le _, Nat.zero_le _⟩ hl.1 rfl (Nat.le_of_ble_eq_true rfl) d_Co_markStep_53 (fun μ22 H locs h w => ?_)
      exact z_vret X hr hlk w h d_Co_markStep_56
theorem q_Bk_classOf : (y_Bk_classOf.cls ≠ "java/lang/invoke/MethodHandle" ∧ y_Bk_classOf.cls ≠ "java/lang/invoke/VarHandle") ∧ (parseMethodDescriptor y_Bk_classOf.desc).map (fun d => d.parameters.length) = some 1 := by decide +kernel
theorem d_Bk_classOf_0 : decode prog_2_method_14_code 0 = .ok (.aload_n 0, 1) := by decide +kernel
theorem d_Bk_classOf_1 : decode prog_2_method_14_code 1 = .ok (.iload_n 1, 1) := by decide +kernel
theorem d_Bk_classOf_2 : decode prog_2_method_14_code 2 = .ok (.invokevirtual 74, 3) := by decide +kernel
theorem d_Bk_classOf_5 : decode prog_2_method_14_code 5 = .ok (.ifCond .eq 12, 3) := by decide +kernel
theorem d_Bk_classOf_8 : decode prog_2_method_14_code 8 = .ok (.aload_n 0, 1) := by decide +kernel
theorem d_Bk_classOf_9 : decode prog_2_method_14_code 9 = .ok (.getfield 28, 3) := by decide +kernel
theorem d_Bk_classOf_12 : decode prog_2_method_14_code 12 = .ok (.iload_n 1, 1) := by decide +kernel
theorem d_Bk_classOf_13 : decode prog_2_method_14_code 13 = .ok (.iaload, 1) := by decide +kernel
theorem d_Bk_classOf_14 : decode prog_2_method_14_code 14 = .ok (.goto 4, 3) := by decide +kernel
theorem d_Bk_classOf_17 : decode prog_2_method_14_code 17 = .ok (.iconst (-1), 1) := by decide +kernel
theorem d_Bk_classOf_18 : decode prog_2_method_14_code 18 = .ok (.ireturn, 1) := by decide +kernel
def f_Bk_classOf (μ : zM) (a1 : Int32) (K : Int32 → zM → Prop) : Prop := f_Bk_isPage μ a1 (fun r2 μ1 => ((r2 = 0 → (K (-1 : Int32) μ1)) ∧ (¬ r2 = 0 → (vp_in a1 64 ∧ (K (μ1 8 a1.toNatClampNeg) μ1)))))
set_option maxHeartbeats 4000000 in
set_option maxRecDepth 100000 in
theorem c_Bk_classOf (l : Launch) (E : zE) (μ : zM) (a1 : Int32) (K : Int32 → zM → Prop) (h : f_Bk_classOf μ a1 K) : Met l y_Bk_classOf (Cond.code y_Bk_classOf prog_2_method_14_code 2 (some .int) :: zT) { frames := 1, cells := 0, slots := 0, locals := 21 } (va_Pc [.ref (E.2.1 2), .int a1] (zR zwC E μ)) (va_Qi K (zR zwC E) (zA E)) 0 0 (zA E) := by
  refine z_head (by decide) (Nat.le_of_ble_eq_true rfl) ?_
  intro p e s m below meth c X hr hlk w ls hl
  have X : zX E p s m _ c prog_2_method_14_code "BeatHeap$Blocks" 2 := X
  have hx := X.1
  have hb := X.2.1
  have hl : lv_has ls 2 [(0, .ref (E.2.1 2)), (1, .int a1)] := hl
  unfold f_Bk_classOf at h
  refine lv_aload_n hx hb d_Bk_classOf_0 rfl (lv_at hl 0 rfl) ?_
  refine lv_iload_n hx hb d_Bk_classOf_1 rfl (lv_at hl 1 rfl) ?_
  refine z_cVi (As := [.int a1]) (rest := []) (q0 := 2) (ci := 0) X w (c_Bk_isPage l E μ a1 _ h) rfl rfl rfl w_ml_Bk_74 ⟨w_im_Bk_isPage, w_se_Bk_isPage⟩ w_in_Bk w_co_Bk_isPage q_Bk_isPage.1 q_Bk_isPage.2 rfl ⟨Nat.le_of_ble_eq_true rfl, Nat.le_of_ble_eq_true rfl⟩ ⟨Nat.zero_le _, Nat.zero_le _⟩ hl.1 rfl (Nat.le_of_ble_eq_true rfl) d_Bk_classOf_2 (fun r2 μ1 H locs h w => ?_)
  refine lv_if_eq (tgt := 17) hx hb d_Bk_classOf_5 (by decide) (fun c3 => ?_) (fun c3 => ?_)
  · have h := h.1 c3
    refine lv_iconst (v := (-1)) hx hb d_Bk_classOf_17 (by decide) ?_
    exact z_iret X hr hlk w h d_Bk_classOf_18
  · have h := h.2 c3
    refine lv_aload_n hx hb d_Bk_classOf_8 rfl (lv_at hl 0 rfl) ?_
    refine gt_2_5 X w w_fl_Bk_28 d_Bk_classOf_9 ?_
    refine lv_iload_n hx hb d_Bk_classOf_12 rfl (lv_at hl 1 rfl) ?_
    obtain ⟨hi4, h⟩ := h
    refine al_8 X w hi4 d_Bk_classOf_13 ?_
    refine lv_goto (tgt := 18) hx hb d_Bk_classOf_14 (by decide) ?_
    exact z_iret X hr hlk w h d_Bk_classOf_18
theorem q_Bk_wordsOfBlock : (y_Bk_wordsOfBlock.cls ≠ "java/lang/invoke/MethodHandle" ∧ y_Bk_wordsOfBlock.cls ≠ "java/lang/invoke/VarHandle") ∧ (parseMethodDescriptor y_Bk_wordsOfBlock.desc).map (fun d => d.parameters.length) = some 1 := by decide +kernel
theorem d_Bk_wordsOfBlock_0 : decode prog_2_method_22_code 0 = .ok (.aload_n 0, 1) := by decide +kernel
theorem d_Bk_wordsOfBlock_1 : decode prog_2_method_22_code 1 = .ok (.iload_n 1, 1) := by decide +kernel
theorem d_Bk_wordsOfBlock_2 : decode prog_2_method_22_code 2 = .ok (.bipush 64, 2) := by decide +kernel
theorem d_Bk_wordsOfBlock_4 : decode prog_2_method_22_code 4 = .ok (.idiv, 1) := by decide +kernel
theorem d_Bk_wordsOfBlock_5 : decode prog_2_method_22_code 5 = .ok (.invokevirtual 98, 3) := by decide +kernel
theorem d_Bk_wordsOfBlock_8 : decode prog_2_method_22_code 8 = .ok (.invokestatic 86, 3) := by decide +kernel
theorem d_Bk_wordsOfBlock_11 : decode prog_2_method_22_code 11 = .ok (.ireturn, 1) := by decide +kernel
def f_Bk_wordsOfBlock (μ : zM) (a1 : Int32) (K : Int32 → zM → Prop) : Prop := f_Bk_classOf μ (a1 / (64 : Int32)) (fun r2 μ1 => (f_Bh_blockWords μ1 r2 (fun r4 μ3 => (K r4 μ3))))
set_option maxHeartbeats 4000000 in
set_option maxRecDepth 100000 in
theorem c_Bk_wordsOfBlock (l : Launch) (E : zE) (μ : zM) (a1 : Int32) (K : Int32 → zM → Prop) (h : f_Bk_wordsOfBlock μ a1 K) : Met l y_Bk_wordsOfBlock (Cond.code y_Bk_wordsOfBlock prog_2_method_22_code 2 (some .int) :: zT) { frames := 2, cells := 0, slots := 0, locals := 42 } (va_Pc [.ref (E.2.1 2), .int a1] (zR zwC E μ)) (va_Qi K (zR zwC E) (zA E)) 0 0 (zA E) := by
  refine z_head (by decide) (Nat.le_of_ble_eq_true rfl) ?_
  intro p e s m below meth c X hr hlk w ls hl
  have X : zX E p s m _ c prog_2_method_22_code "BeatHeap$Blocks" 2 := X
  have hx := X.1
  have hb := X.2.1
  have hl : lv_has ls 2 [(0, .ref (E.2.1 2)), (1, .int a1)] := hl
  unfold f_Bk_wordsOfBlock at h
  refine lv_aload_n hx hb d_Bk_wordsOfBlock_0 rfl (lv_at hl 0 rfl) ?_
  refine lv_iload_n hx hb d_Bk_wordsOfBlock_1 rfl (lv_at hl 1 rfl) ?_
  refine lv_bipush (v := 64) hx hb d_Bk_wordsOfBlock_2 (by decide) ?_
  refine lv_idiv hx hb d_Bk_wordsOfBlock_4 (by decide) ?_
  refine z_cVi (As := [.int (a1 / (64 : Int32))]) (rest := []) (q0 := 2) (ci := 0) X w (c_Bk_classOf l E μ (a1 / (64 : Int32)) _ h) rfl rfl rfl w_ml_Bk_98 ⟨w_im_Bk_classOf, w_se_Bk_classOf⟩ w_in_Bk w_co_Bk_classOf q_Bk_classOf.1 q_Bk_classOf.2 rfl ⟨Nat.le_of_ble_eq_true rfl, Nat.le_of_ble_eq_true rfl⟩ ⟨Nat.zero_le _, Nat.zero_le _⟩ hl.1 rfl (Nat.le_of_ble_eq_true rfl) d_Bk_wordsOfBlock_5 (fun r2 μ1 H locs h w => ?_)
  refine z_cNi (As := [.int r2]) (rest := []) X w (c_Bh_blockWords l E μ1 r2 _ h) w_nm_Bk_86 w_st_Bh_blockWords w_in_Bh w_co_Bh_blockWords q_Bh_blockWords.1 q_Bh_blockWords.2 rfl ⟨Nat.le_of_ble_eq_true rfl, Nat.le_of_ble_eq_true rfl⟩ ⟨Nat.zero_le _, Nat.zero_le _⟩ hl.1 rfl (Nat.le_of_ble_eq_true rfl) d_Bk_wordsOfBlock_8 (fun r4 μ3 H locs h w => ?_)
  exact z_iret X hr hlk w h d_Bk_wordsOfBlock_11
theorem q_Bk_setWord : (y_Bk_setWord.cls ≠ "java/lang/invoke/MethodHandle" ∧ y_Bk_setWord.cls ≠ "java/lang/invoke/VarHandle") ∧ (parseMethodDescriptor y_Bk_setWord.desc).map (fun d => d.parameters.length) = some 2 := by decide +kernel
theorem d_Bk_setWord_0 : decode prog_2_method_6_code 0 = .ok (.aload_n 0, 1) := by decide +kernel
theorem d_Bk_setWord_1 : decode prog_2_method_6_code 1 = .ok (.iload_n 1, 1) := by decide +kernel
theorem d_Bk_setWord_2 : decode prog_2_method_6_code 2 = .ok (.invokevirtual 62, 3) := by decide +kernel
theorem d_Bk_setWord_5 : decode prog_2_method_6_code 5 = .ok (.ifCond .eq 10, 3) := by decide +kernel
theorem d_Bk_setWord_8 : decode prog_2_method_6_code 8 = .ok (.aload_n 0, 1) := by decide +kernel
theorem d_Bk_setWord_9 : decode prog_2_method_6_code 9 = .ok (.getfield 9, 3) := by decide +kernel
theorem d_Bk_setWord_12 : decode prog_2_method_6_code 12 = .ok (.iload_n 1, 1) := by decide +kernel
theorem d_Bk_setWord_13 : decode prog_2_method_6_code 13 = .ok (.iload_n 2, 1) := by decide +kernel
theorem d_Bk_setWord_14 : decode prog_2_method_6_code 14 = .ok (.iastore, 1) := by decide +kernel
theorem d_Bk_setWord_15 : decode prog_2_method_6_code 15 = .ok (.return_, 1) := by decide +kernel
def f_Bk_setWord (μ : zM) (a1 a2 : Int32) (K : zM → Prop) : Prop := f_Bk_isInside μ a1 (fun r2 μ1 => ((r2 = 0 → (K μ1)) ∧ (¬ r2 = 0 → (vp_in a1 4096 ∧ ∀ μ5 : zM, μ5 = zp μ1 3 a1.toNatClampNeg a2 → (K μ5)))))
set_option maxHeartbeats 4000000 in
set_option maxRecDepth 100000 in
theorem c_Bk_setWord (l : Launch) (E : zE) (μ : zM) (a1 a2 : Int32) (K : zM → Prop) (h : f_Bk_setWord μ a1 a2 K) : Met l y_Bk_setWord (Cond.code y_Bk_setWord prog_2_method_6_code 3 none :: zT) { frames := 1, cells := 0, slots := 0, locals := 21 } (va_Pc [.ref (E.2.1 2), .int a1, .int a2] (zR zwC E μ)) (va_Qv K (zR zwC E) (zA E)) 0 0 (zA E) := by
  refine z_head (by decide) (Nat.le_of_ble_eq_true rfl) ?_
  intro p e s m below meth c X hr hlk w ls hl
  have X : zX E p s m _ c prog_2_method_6_code "BeatHeap$Blocks" 3 := X
  have hx := X.1
  have hb := X.2.1
  have hl : lv_has ls 3 [(0, .ref (E.2.1 2)), (1, .int a1), (2, .int a2)] := hl
  unfold f_Bk_setWord at h
  refine lv_aload_n hx hb d_Bk_setWord_0 rfl (lv_at hl 0 rfl) ?_
  refine lv_iload_n hx hb d_Bk_setWord_1 rfl (lv_at hl 1 rfl) ?_
  refine z_cVi (As := [.int a1]) (rest := []) (q0 := 2) (ci := 0) X w (c_Bk_isInside l E μ a1 _ h) rfl rfl rfl w_ml_Bk_62 ⟨w_im_Bk_isInside, w_se_Bk_isInside⟩ w_in_Bk w_co_Bk_isInside q_Bk_isInside.1 q_Bk_isInside.2 rfl ⟨Nat.le_of_ble_eq_true rfl, Nat.le_of_ble_eq_true rfl⟩ ⟨Nat.zero_le _, Nat.zero_le _⟩ hl.1 rfl (Nat.le_of_ble_eq_true rfl) d_Bk_setWord_2 (fun r2 μ1 H locs h w => ?_)
  refine lv_if_eq (tgt := 15) hx hb d_Bk_setWord_5 (by decide) (fun c3 => ?_) (fun c3 => ?_)
  · have h := h.1 c3
    exact z_vret X hr hlk w h d_Bk_setWord_15
  · have h := h.2 c3
    refine lv_aload_n hx hb d_Bk_setWord_8 rfl (lv_at hl 0 rfl) ?_
    refine gt_2_0 X w w_fl_Bk_9 d_Bk_setWord_9 ?_
    refine lv_iload_n hx hb d_Bk_setWord_12 rfl (lv_at hl 1 rfl) ?_
    refine lv_iload_n hx hb d_Bk_setWord_13 rfl (lv_at hl 2 rfl) ?_
    obtain ⟨hi4, h⟩ := h
    refine as_3 X w hi4 d_Bk_setWord_14 (fun μ5 H locs eμ5 w => ?_)
    have h := h μ5 eμ5
    exact z_vret X hr hlk w h d_Bk_setWord_15
theorem q_Bk_release : (y_Bk_release.cls ≠ "java/lang/invoke/MethodHandle" ∧ y_Bk_release.cls ≠ "java/lang/invoke/VarHandle") ∧ (parseMethodDescriptor y_Bk_release.desc).map (fun d => d.parameters.length) = some 2 := by decide +kernel
theorem d_Bk_release_0 : decode prog_2_method_23_code 0 = .ok (.aload_n 0, 1) := by decide +kernel
theorem d_Bk_release_1 : decode prog_2_method_23_code 1 = .ok (.iload_n 1, 1) := by decide +kernel
theorem d_Bk_release_2 : decode prog_2_method_23_code 2 = .ok (.invokevirtual 62, 3) := by decide +kernel
theorem d_Bk_release_5 : decode prog_2_method_23_code 5 = .ok (.ifCond .eq 11, 3) := by decide +kernel
theorem d_Bk_release_8 : decode prog_2_method_23_code 8 = .ok (.aload_n 0, 1) := by decide +kernel
theorem d_Bk_release_9 : decode prog_2_method_23_code 9 = .ok (.iload_n 1, 1) := by decide +kernel
theorem d_Bk_release_10 : decode prog_2_method_23_code 10 = .ok (.invokevirtual 92, 3) := by decide +kernel
theorem d_Bk_release_13 : decode prog_2_method_23_code 13 = .ok (.ifCond .ne 4, 3) := by decide +kernel
theorem d_Bk_release_16 : decode prog_2_method_23_code 16 = .ok (.return_, 1) := by decide +kernel
theorem d_Bk_release_17 : decode prog_2_method_23_code 17 = .ok (.iconst 0, 1) := by decide +kernel
theorem d_Bk_release_18 : decode prog_2_method_23_code 18 = .ok (.istore_n 3, 1) := by decide +kernel
theorem d_Bk_release_19 : decode prog_2_method_23_code 19 = .ok (.iload_n 3, 1) := by decide +kernel
theorem d_Bk_release_20 : decode prog_2_method_23_code 20 = .ok (.iload_n 2, 1) := by decide +kernel
theorem d_Bk_release_21 : decode prog_2_method_23_code 21 = .ok (.if_icmp .ge 17, 3) := by decide +kernel
theorem d_Bk_release_24 : decode prog_2_method_23_code 24 = .ok (.aload_n 0, 1) := by decide +kernel
theorem d_Bk_release_25 : decode prog_2_method_23_code 25 = .ok (.iload_n 1, 1) := by decide +kernel
theorem d_Bk_release_26 : decode prog_2_method_23_code 26 = .ok (.iload_n 3, 1) := by decide +kernel
theorem d_Bk_release_27 : decode prog_2_method_23_code 27 = .ok (.iadd, 1) := by decide +kernel
theorem d_Bk_release_28 : decode prog_2_method_23_code 28 = .ok (.iconst 0, 1) := by decide +kernel
theorem d_Bk_release_29 : decode prog_2_method_23_code 29 = .ok (.invokevirtual 70, 3) := by decide +kernel
theorem d_Bk_release_32 : decode prog_2_method_23_code 32 = .ok (.iinc 3 1, 3) := by decide +kernel
theorem d_Bk_release_35 : decode prog_2_method_23_code 35 = .ok (.goto (-16), 3) := by decide +kernel
theorem d_Bk_release_38 : decode prog_2_method_23_code 38 = .ok (.aload_n 0, 1) := by decide +kernel
theorem d_Bk_release_39 : decode prog_2_method_23_code 39 = .ok (.getfield 15, 3) := by decide +kernel
theorem d_Bk_release_42 : decode prog_2_method_23_code 42 = .ok (.iload_n 1, 1) := by decide +kernel
theorem d_Bk_release_43 : decode prog_2_method_23_code 43 = .ok (.iconst 4, 1) := by decide +kernel
theorem d_Bk_release_44 : decode prog_2_method_23_code 44 = .ok (.idiv, 1) := by decide +kernel
theorem d_Bk_release_45 : decode prog_2_method_23_code 45 = .ok (.iconst 0, 1) := by decide +kernel
theorem d_Bk_release_46 : decode prog_2_method_23_code 46 = .ok (.bastore, 1) := by decide +kernel
theorem d_Bk_release_47 : decode prog_2_method_23_code 47 = .ok (.aload_n 0, 1) := by decide +kernel
theorem d_Bk_release_48 : decode prog_2_method_23_code 48 = .ok (.getfield 31, 3) := by decide +kernel
theorem d_Bk_release_51 : decode prog_2_method_23_code 51 = .ok (.iload_n 1, 1) := by decide +kernel
theorem d_Bk_release_52 : decode prog_2_method_23_code 52 = .ok (.bipush 64, 2) := by decide +kernel
theorem d_Bk_release_54 : decode prog_2_method_23_code 54 = .ok (.idiv, 1) := by decide +kernel
theorem d_Bk_release_55 : decode prog_2_method_23_code 55 = .ok (.dup2, 1) := by decide +kernel
theorem d_Bk_release_56 : decode prog_2_method_23_code 56 = .ok (.iaload, 1) := by decide +kernel
theorem d_Bk_release_57 : decode prog_2_method_23_code 57 = .ok (.iconst 1, 1) := by decide +kernel
theorem d_Bk_release_58 : decode prog_2_method_23_code 58 = .ok (.isub, 1) := by decide +kernel
theorem d_Bk_release_59 : decode prog_2_method_23_code 59 = .ok (.iastore, 1) := by decide +kernel
theorem d_Bk_release_60 : decode prog_2_method_23_code 60 = .ok (.aload_n 0, 1) := by decide +kernel
theorem d_Bk_release_61 : decode prog_2_method_23_code 61 = .ok (.dup, 1) := by decide +kernel
theorem d_Bk_release_62 : decode prog_2_method_23_code 62 = .ok (.getfield 56, 3) := by decide +kernel
theorem d_Bk_release_65 : decode prog_2_method_23_code 65 = .ok (.iconst 1, 1) := by decide +kernel
theorem d_Bk_release_66 : decode prog_2_method_23_code 66 = .ok (.isub, 1) := by decide +kernel
theorem d_Bk_release_67 : decode prog_2_method_23_code 67 = .ok (.putfield 56, 3) := by decide +kernel
theorem d_Bk_release_70 : decode prog_2_method_23_code 70 = .ok (.aload_n 0, 1) := by decide +kernel
theorem d_Bk_release_71 : decode prog_2_method_23_code 71 = .ok (.dup, 1) := by decide +kernel
theorem d_Bk_release_72 : decode prog_2_method_23_code 72 = .ok (.getfield 59, 3) := by decide +kernel
theorem d_Bk_release_75 : decode prog_2_method_23_code 75 = .ok (.iconst 1, 1) := by decide +kernel
theorem d_Bk_release_76 : decode prog_2_method_23_code 76 = .ok (.iadd, 1) := by decide +kernel
theorem d_Bk_release_77 : decode prog_2_method_23_code 77 = .ok (.putfield 59, 3) := by decide +kernel
theorem d_Bk_release_80 : decode prog_2_method_23_code 80 = .ok (.return_, 1) := by decide +kernel
noncomputable def F_Bk_release_19 (K : zM → Prop) (n : Nat) : Int32 → Int32 → Int32 → zM → Prop := Nat.rec (motive := fun _ => Int32 → Int32 → Int32 → zM → Prop) (fun _ _ _ _ => False) (fun _ ih x1 x2 x3 μ => (x2 ≤ x3 → (vp_in (x1 / (4 : Int32)) 1024 ∧ ∀ μ9 : zM, μ9 = zp μ 4 (x1 / (4 : Int32)).toNatClampNeg (vp_nar .byte (0 : Int32)) → (vp_in (x1 / (64 : Int32)) 64 ∧ (vp_in (x1 / (64 : Int32)) 64 ∧ ∀ μ12 : zM, μ12 = zp μ9 9 (x1 / (64 : Int32)).toNatClampNeg ((μ9 9 (x1 / (64 : Int32)).toNatClampNeg) - (1 : Int32)) → (∀ μ13 : zM, μ13 = zp μ12 2 9 ((μ12 2 9) - (1 : Int32)) → (∀ μ14 : zM, μ14 = zp μ13 2 10 ((μ13 2 10) + (1 : Int32)) → (K μ14))))))) ∧ (¬ x2 ≤ x3 → (f_Bk_setWord μ (x1 + x3) (0 : Int32) (fun μ15 => (∀ x16 : Int32, x16 = x3 + 1 → (ih x1 x2 x16 μ15)))))) n
def f_Bk_release (μ : zM) (a1 a2 : Int32) (K : zM → Prop) : Prop := f_Bk_isInside μ a1 (fun r2 μ1 => ((r2 = 0 → (K μ1)) ∧ (¬ r2 = 0 → (f_Bk_kindOf μ1 a1 (fun r5 μ4 => ((¬ r5 = 0 → (∃ n : Nat, F_Bk_release_19 K n a1 a2 (0 : Int32) μ4)) ∧ (r5 = 0 → (K μ4))))))))
set_option maxHeartbeats 4000000 in
set_option maxRecDepth 100000 in
theorem L_Bk_release_19 {p : Program} {l : Launch} {e : Env} {s : State} {m : MethodId} {args : Array Value} {below : List Frame} {meth : Method} {c : Code} {E : zE} (X : zX E p s m args c prog_2_method_23_code "BeatHeap$Blocks" 4) (hr : meth.sig.returnType = none) (hlk : meth.locks = false) (K : zM → Prop) : ∀ (n : Nat) (x1 x2 x3 : Int32) (μ : zM) (H : Heap) (locs : List Loc) (ls : Array Slot), F_Bk_release_19 K n x1 x2 x3 μ → zW zwC E s μ H locs → lv_has ls 4 [(0, .ref (E.2.1 2)), (1, .int x1), (2, .int x2), (3, .int x3)] → W p l e { frames := 2, cells := 0, slots := 0, locals := 43 } s m args below meth c H locs 0 0 (MQ below (va_Qv K (zR zwC E) (zA E)) args s 0 0 (zA E)) (F0 m 19 ls []) := by
  have hx := X.1
  have hb := X.2.1
  intro n
  induction n with
  | zero => intro x1 x2 x3 μ H locs ls h; exact False.elim h
  | succ n ih =>
    intro x1 x2 x3 μ H locs ls h w hl
    refine lv_iload_n hx hb d_Bk_release_19 rfl (lv_at hl 3 rfl) ?_
    refine lv_iload_n hx hb d_Bk_release_20 rfl (lv_at hl 2 rfl) ?_
    refine lv_icmp_ge (tgt := 38) hx hb d_Bk_release_21 (by decide) (fun c7 => ?_) (fun c7 => ?_)
    · have h := h.1 c7
      refine lv_aload_n hx hb d_Bk_release_38 rfl (lv_at hl 0 rfl) ?_
      refine gt_2_1 X w w_fl_Bk_15 d_Bk_release_39 ?_
      refine lv_iload_n hx hb d_Bk_release_42 rfl (lv_at hl 1 rfl) ?_
      refine lv_iconst (v := 4) hx hb d_Bk_release_43 (by decide) ?_
      refine lv_idiv hx hb d_Bk_release_44 (by decide) ?_
      refine lv_iconst (v := 0) hx hb d_Bk_release_45 (by decide) ?_
      obtain ⟨hi8, h⟩ := h
      refine as_4 X w hi8 d_Bk_release_46 (fun μ9 H locs eμ9 w => ?_)
      have h := h μ9 eμ9
      refine lv_aload_n hx hb d_Bk_release_47 rfl (lv_at hl 0 rfl) ?_
      refine gt_2_6 X w w_fl_Bk_31 d_Bk_release_48 ?_
      refine lv_iload_n hx hb d_Bk_release_51 rfl (lv_at hl 1 rfl) ?_
      refine lv_bipush (v := 64) hx hb d_Bk_release_52 (by decide) ?_
      refine lv_idiv hx hb d_Bk_release_54 (by decide) ?_
      refine lv_dup2_11 hx hb d_Bk_release_55 rfl rfl ?_
      obtain ⟨hi10, h⟩ := h
      refine al_9 X w hi10 d_Bk_release_56 ?_
      refine lv_iconst (v := 1) hx hb d_Bk_release_57 (by decide) ?_
      refine lv_isub hx hb d_Bk_release_58 ?_
      obtain ⟨hi11, h⟩ := h
      refine as_9 X w hi11 d_Bk_release_59 (fun μ12 H locs eμ12 w => ?_)
      have h := h μ12 eμ12
      refine lv_aload_n hx hb d_Bk_release_60 rfl (lv_at hl 0 rfl) ?_
      refine lv_dup hx hb d_Bk_release_61 rfl ?_
      refine gt_2_9 X w w_fl_Bk_56 d_Bk_release_62 ?_
      refine lv_iconst (v := 1) hx hb d_Bk_release_65 (by decide) ?_
      refine lv_isub hx hb d_Bk_release_66 ?_
      refine pt_2_9 X w w_fl_Bk_56 d_Bk_release_67 (fun μ13 H locs eμ13 w => ?_)
      have h := h μ13 eμ13
      refine lv_aload_n hx hb d_Bk_release_70 rfl (lv_at hl 0 rfl) ?_
      refine lv_dup hx hb d_Bk_release_71 rfl ?_
      refine gt_2_10 X w w_fl_Bk_59 d_Bk_release_72 ?_
      refine lv_iconst (v := 1) hx hb d_Bk_release_75 (by decide) ?_
      refine lv_iadd hx hb d_Bk_release_76 ?_
      refine pt_2_10 X w w_fl_Bk_59 d_Bk_release_77 (fun μ14 H locs eμ14 w => ?_)
      have h := h μ14 eμ14
      exact z_vret X hr hlk w h d_Bk_release_80
    · have h := h.2 c7
      refine lv_aload_n hx hb d_Bk_release_24 rfl (lv_at hl 0 rfl) ?_
      refine lv_iload_n hx hb d_Bk_release_25 rfl (lv_at hl 1 rfl) ?_
      refine lv_iload_n hx hb d_Bk_release_26 rfl (lv_at hl 3 rfl) ?_
      refine lv_iadd hx hb d_Bk_release_27 ?_
      refine lv_iconst (v := 0) hx hb d_Bk_release_28 (by decide) ?_
      refine z_cVv (As := [.int (x1 + x3), .int (0 : Int32)]) (rest := []) (q0 := 2) (ci := 0) X w (c_Bk_setWord l E μ (x1 + x3) (0 : Int32) _ h) rfl rfl rfl w_ml_Bk_70 ⟨w_im_Bk_setWord, w_se_Bk_setWord⟩ w_in_Bk w_co_Bk_setWord q_Bk_setWord.1 q_Bk_setWord.2 rfl ⟨Nat.le_of_ble_eq_true rfl, Nat.le_of_ble_eq_true rfl⟩ ⟨Nat.zero_le _, Nat.zero_le _⟩ hl.1 rfl (Nat.le_of_ble_eq_true rfl) d_Bk_release_29 (fun μ15 H locs h w => ?_)
      obtain ⟨x16, ex16⟩ : ∃ y : Int32, y = x3 + 1 := ⟨_, rfl⟩
      have h := h x16 ex16
      refine lv_iinc (v := x16) (lv' := [(3, .int x16), (0, .ref (E.2.1 2)), (1, .int x1), (2, .int x2)]) hx hb d_Bk_release_32 hl (k := 3) rfl (by rw [ex16]; rfl) (by decide) rfl (fun ls hl => ?_)
      refine lv_goto (tgt := 19) hx hb d_Bk_release_35 (by decide) ?_
      exact ih x1 x2 x16 μ15 _ _ _ h w (lv_sub hl [1, 2, 3, 0] rfl)

set_option maxHeartbeats 4000000 in
set_option maxRecDepth 100000 in
theorem c_Bk_release (l : Launch) (E : zE) (μ : zM) (a1 a2 : Int32) (K : zM → Prop) (h : f_Bk_release μ a1 a2 K) : Met l y_Bk_release (Cond.code y_Bk_release prog_2_method_23_code 4 none :: zT) { frames := 2, cells := 0, slots := 0, locals := 43 } (va_Pc [.ref (E.2.1 2), .int a1, .int a2] (zR zwC E μ)) (va_Qv K (zR zwC E) (zA E)) 0 0 (zA E) := by
  refine z_head (by decide) (Nat.le_of_ble_eq_true rfl) ?_
  intro p e s m below meth c X hr hlk w ls hl
  have X : zX E p s m _ c prog_2_method_23_code "BeatHeap$Blocks" 4 := X
  have hx := X.1
  have hb := X.2.1
  have hl : lv_has ls 4 [(0, .ref (E.2.1 2)), (1, .int a1), (2, .int a2)] := hl
  unfold f_Bk_release at h
  refine lv_aload_n hx hb d_Bk_release_0 rfl (lv_at hl 0 rfl) ?_
  refine lv_iload_n hx hb d_Bk_release_1 rfl (lv_at hl 1 rfl) ?_
  refine z_cVi (As := [.int a1]) (rest := []) (q0 := 2) (ci := 0) X w (c_Bk_isInside l E μ a1 _ h) rfl rfl rfl w_ml_Bk_62 ⟨w_im_Bk_isInside, w_se_Bk_isInside⟩ w_in_Bk w_co_Bk_isInside q_Bk_isInside.1 q_Bk_isInside.2 rfl ⟨Nat.le_of_ble_eq_true rfl, Nat.le_of_ble_eq_true rfl⟩ ⟨Nat.zero_le _, Nat.zero_le _⟩ hl.1 rfl (Nat.le_of_ble_eq_true rfl) d_Bk_release_2 (fun r2 μ1 H locs h w => ?_)
  refine lv_if_eq (tgt := 16) hx hb d_Bk_release_5 (by decide) (fun c3 => ?_) (fun c3 => ?_)
  · have h := h.1 c3
    exact z_vret X hr hlk w h d_Bk_release_16
  · have h := h.2 c3
    refine lv_aload_n hx hb d_Bk_release_8 rfl (lv_at hl 0 rfl) ?_
    refine lv_iload_n hx hb d_Bk_release_9 rfl (lv_at hl 1 rfl) ?_
    refine z_cVi (As := [.int a1]) (rest := []) (q0 := 2) (ci := 0) X w (c_Bk_kindOf l E μ1 a1 _ h) rfl rfl rfl w_ml_Bk_92 ⟨w_im_Bk_kindOf, w_se_Bk_kindOf⟩ w_in_Bk w_co_Bk_kindOf q_Bk_kindOf.1 q_Bk_kindOf.2 rfl ⟨Nat.le_of_ble_eq_true rfl, Nat.le_of_ble_eq_true rfl⟩ ⟨Nat.zero_le _, Nat.zero_le _⟩ hl.1 rfl (Nat.le_of_ble_eq_true rfl) d_Bk_release_10 (fun r5 μ4 H locs h w => ?_)
    refine lv_if_ne (tgt := 17) hx hb d_Bk_release_13 (by decide) (fun c6 => ?_) (fun c6 => ?_)
    · have h := h.1 c6
      refine lv_iconst (v := 0) hx hb d_Bk_release_17 (by decide) ?_
      refine lv_istore_n (lv' := [(3, .int (0 : Int32)), (0, .ref (E.2.1 2)), (1, .int a1), (2, .int a2)]) hx hb d_Bk_release_18 rfl hl (by decide) rfl (fun ls hl => ?_)
      obtain ⟨n, h⟩ := h
      exact L_Bk_release_19 X hr hlk K n a1 a2 (0 : Int32) μ4 _ _ _ h w (lv_sub hl [1, 2, 3, 0] rfl)
    · have h := h.2 c6
      exact z_vret X hr hlk w h d_Bk_release_16
theorem q_Bk_closeIfEmpty : (y_Bk_closeIfEmpty.cls ≠ "java/lang/invoke/MethodHandle" ∧ y_Bk_closeIfEmpty.cls ≠ "java/lang/invoke/VarHandle") ∧ (parseMethodDescriptor y_Bk_closeIfEmpty.desc).map (fun d => d.parameters.length) = some 1 := by decide +kernel
theorem d_Bk_closeIfEmpty_0 : decode prog_2_method_24_code 0 = .ok (.aload_n 0, 1) := by decide +kernel
theorem d_Bk_closeIfEmpty_1 : decode prog_2_method_24_code 1 = .ok (.iload_n 1, 1) := by decide +kernel
theorem d_Bk_closeIfEmpty_2 : decode prog_2_method_24_code 2 = .ok (.invokevirtual 74, 3) := by decide +kernel
theorem d_Bk_closeIfEmpty_5 : decode prog_2_method_24_code 5 = .ok (.ifCond .eq 39, 3) := by decide +kernel
theorem d_Bk_closeIfEmpty_8 : decode prog_2_method_24_code 8 = .ok (.aload_n 0, 1) := by decide +kernel
theorem d_Bk_closeIfEmpty_9 : decode prog_2_method_24_code 9 = .ok (.getfield 28, 3) := by decide +kernel
theorem d_Bk_closeIfEmpty_12 : decode prog_2_method_24_code 12 = .ok (.iload_n 1, 1) := by decide +kernel
theorem d_Bk_closeIfEmpty_13 : decode prog_2_method_24_code 13 = .ok (.iaload, 1) := by decide +kernel
theorem d_Bk_closeIfEmpty_14 : decode prog_2_method_24_code 14 = .ok (.iconst (-1), 1) := by decide +kernel
theorem d_Bk_closeIfEmpty_15 : decode prog_2_method_24_code 15 = .ok (.if_icmp .eq 29, 3) := by decide +kernel
theorem d_Bk_closeIfEmpty_18 : decode prog_2_method_24_code 18 = .ok (.aload_n 0, 1) := by decide +kernel
theorem d_Bk_closeIfEmpty_19 : decode prog_2_method_24_code 19 = .ok (.getfield 31, 3) := by decide +kernel
theorem d_Bk_closeIfEmpty_22 : decode prog_2_method_24_code 22 = .ok (.iload_n 1, 1) := by decide +kernel
theorem d_Bk_closeIfEmpty_23 : decode prog_2_method_24_code 23 = .ok (.iaload, 1) := by decide +kernel
theorem d_Bk_closeIfEmpty_24 : decode prog_2_method_24_code 24 = .ok (.ifCond .ne 20, 3) := by decide +kernel
theorem d_Bk_closeIfEmpty_27 : decode prog_2_method_24_code 27 = .ok (.aload_n 0, 1) := by decide +kernel
theorem d_Bk_closeIfEmpty_28 : decode prog_2_method_24_code 28 = .ok (.getfield 28, 3) := by decide +kernel
theorem d_Bk_closeIfEmpty_31 : decode prog_2_method_24_code 31 = .ok (.iload_n 1, 1) := by decide +kernel
theorem d_Bk_closeIfEmpty_32 : decode prog_2_method_24_code 32 = .ok (.iconst (-1), 1) := by decide +kernel
theorem d_Bk_closeIfEmpty_33 : decode prog_2_method_24_code 33 = .ok (.iastore, 1) := by decide +kernel
theorem d_Bk_closeIfEmpty_34 : decode prog_2_method_24_code 34 = .ok (.aload_n 0, 1) := by decide +kernel
theorem d_Bk_closeIfEmpty_35 : decode prog_2_method_24_code 35 = .ok (.dup, 1) := by decide +kernel
theorem d_Bk_closeIfEmpty_36 : decode prog_2_method_24_code 36 = .ok (.getfield 53, 3) := by decide +kernel
theorem d_Bk_closeIfEmpty_39 : decode prog_2_method_24_code 39 = .ok (.iconst 1, 1) := by decide +kernel
theorem d_Bk_closeIfEmpty_40 : decode prog_2_method_24_code 40 = .ok (.iadd, 1) := by decide +kernel
theorem d_Bk_closeIfEmpty_41 : decode prog_2_method_24_code 41 = .ok (.putfield 53, 3) := by decide +kernel
theorem d_Bk_closeIfEmpty_44 : decode prog_2_method_24_code 44 = .ok (.return_, 1) := by decide +kernel
def f_Bk_closeIfEmpty (μ : zM) (a1 : Int32) (K : zM → Prop) : Prop := f_Bk_isPage μ a1 (fun r2 μ1 => ((r2 = 0 → (K μ1)) ∧ (¬ r2 = 0 → (vp_in a1 64 ∧ (((μ1 8 a1.toNatClampNeg) = (-1 : Int32) → (K μ1)) ∧ (¬ (μ1 8 a1.toNatClampNeg) = (-1 : Int32) → (vp_in a1 64 ∧ ((¬ (μ1 9 a1.toNatClampNeg) = 0 → (K μ1)) ∧ ((μ1 9 a1.toNatClampNeg) = 0 → (vp_in a1 64 ∧ ∀ μ9 : zM, μ9 = zp μ1 8 a1.toNatClampNeg (-1 : Int32) → (∀ μ10 : zM, μ10 = zp μ9 2 8 ((μ9 2 8) + (1 : Int32)) → (K μ10))))))))))))
set_option maxHeartbeats 4000000 in
set_option maxRecDepth 100000 in
theorem c_Bk_closeIfEmpty (l : Launch) (E : zE) (μ : zM) (a1 : Int32) (K : zM → Prop) (h : f_Bk_closeIfEmpty μ a1 K) : Met l y_Bk_closeIfEmpty (Cond.code y_Bk_closeIfEmpty prog_2_method_24_code 2 none :: zT) { frames := 1, cells := 0, slots := 0, locals := 21 } (va_Pc [.ref (E.2.1 2), .int a1] (zR zwC E μ)) (va_Qv K (zR zwC E) (zA E)) 0 0 (zA E) := by
  refine z_head (by decide) (Nat.le_of_ble_eq_true rfl) ?_
  intro p e s m below meth c X hr hlk w ls hl
  have X : zX E p s m _ c prog_2_method_24_code "BeatHeap$Blocks" 2 := X
  have hx := X.1
  have hb := X.2.1
  have hl : lv_has ls 2 [(0, .ref (E.2.1 2)), (1, .int a1)] := hl
  unfold f_Bk_closeIfEmpty at h
  refine lv_aload_n hx hb d_Bk_closeIfEmpty_0 rfl (lv_at hl 0 rfl) ?_
  refine lv_iload_n hx hb d_Bk_closeIfEmpty_1 rfl (lv_at hl 1 rfl) ?_
  refine z_cVi (As := [.int a1]) (rest := []) (q0 := 2) (ci := 0) X w (c_Bk_isPage l E μ a1 _ h) rfl rfl rfl w_ml_Bk_74 ⟨w_im_Bk_isPage, w_se_Bk_isPage⟩ w_in_Bk w_co_Bk_isPage q_Bk_isPage.1 q_Bk_isPage.2 rfl ⟨Nat.le_of_ble_eq_true rfl, Nat.le_of_ble_eq_true rfl⟩ ⟨Nat.zero_le _, Nat.zero_le _⟩ hl.1 rfl (Nat.le_of_ble_eq_true rfl) d_Bk_closeIfEmpty_2 (fun r2 μ1 H locs h w => ?_)
  refine lv_if_eq (tgt := 44) hx hb d_Bk_closeIfEmpty_5 (by decide) (fun c3 => ?_) (fun c3 => ?_)
  · have h := h.1 c3
    exact z_vret X hr hlk w h d_Bk_closeIfEmpty_44
  · have h := h.2 c3
    refine lv_aload_n hx hb d_Bk_closeIfEmpty_8 rfl (lv_at hl 0 rfl) ?_
    refine gt_2_5 X w w_fl_Bk_28 d_Bk_closeIfEmpty_9 ?_
    refine lv_iload_n hx hb d_Bk_closeIfEmpty_12 rfl (lv_at hl 1 rfl) ?_
    obtain ⟨hi4, h⟩ := h
    refine al_8 X w hi4 d_Bk_closeIfEmpty_13 ?_
    refine lv_iconst (v := (-1)) hx hb d_Bk_closeIfEmpty_14 (by decide) ?_
    refine lv_icmp_eq (tgt := 44) hx hb d_Bk_closeIfEmpty_15 (by decide) (fun c5 => ?_) (fun c5 => ?_)
    · have h := h.1 c5
      exact z_vret X hr hlk w h d_Bk_closeIfEmpty_44
    · have h := h.2 c5
      refine lv_aload_n hx hb d_Bk_closeIfEmpty_18 rfl (lv_at hl 0 rfl) ?_
      refine gt_2_6 X w w_fl_Bk_31 d_Bk_closeIfEmpty_19 ?_
      refine lv_iload_n hx hb d_Bk_closeIfEmpty_22 rfl (lv_at hl 1 rfl) ?_
      obtain ⟨hi6, h⟩ := h
      refine al_9 X w hi6 d_Bk_closeIfEmpty_23 ?_
      refine lv_if_ne (tgt := 44) hx hb d_Bk_closeIfEmpty_24 (by decide) (fun c7 => ?_) (fun c7 => ?_)
      · have h := h.1 c7
        exact z_vret X hr hlk w h d_Bk_closeIfEmpty_44
      · have h := h.2 c7
        refine lv_aload_n hx hb d_Bk_closeIfEmpty_27 rfl (lv_at hl 0 rfl) ?_
        refine gt_2_5 X w w_fl_Bk_28 d_Bk_closeIfEmpty_28 ?_
        refine lv_iload_n hx hb d_Bk_closeIfEmpty_31 rfl (lv_at hl 1 rfl) ?_
        refine lv_iconst (v := (-1)) hx hb d_Bk_closeIfEmpty_32 (by decide) ?_
        obtain ⟨hi8, h⟩ := h
        refine as_8 X w hi8 d_Bk_closeIfEmpty_33 (fun μ9 H locs eμ9 w => ?_)
        have h := h μ9 eμ9
        refine lv_aload_n hx hb d_Bk_closeIfEmpty_34 rfl (lv_at hl 0 rfl) ?_
        refine lv_dup hx hb d_Bk_closeIfEmpty_35 rfl ?_
        refine gt_2_8 X w w_fl_Bk_53 d_Bk_closeIfEmpty_36 ?_
        refine lv_iconst (v := 1) hx hb d_Bk_closeIfEmpty_39 (by decide) ?_
        refine lv_iadd hx hb d_Bk_closeIfEmpty_40 ?_
        refine pt_2_8 X w w_fl_Bk_53 d_Bk_closeIfEmpty_41 (fun μ10 H locs eμ10 w => ?_)
        have h := h μ10 eμ10
        exact z_vret X hr hlk w h d_Bk_closeIfEmpty_44
theorem q_Co_sweepStep : (y_Co_sweepStep.cls ≠ "java/lang/invoke/MethodHandle" ∧ y_Co_sweepStep.cls ≠ "java/lang/invoke/VarHandle") ∧ (parseMethodDescriptor y_Co_sweepStep.desc).map (fun d => d.parameters.length) = some 0 := by decide +kernel
theorem d_Co_sweepStep_0 : decode prog_4_method_11_code 0 = .ok (.aload_n 0, 1) := by decide +kernel
theorem d_Co_sweepStep_1 : decode prog_4_method_11_code 1 = .ok (.getfield 12, 3) := by decide +kernel
theorem d_Co_sweepStep_4 : decode prog_4_method_11_code 4 = .ok (.aload_n 0, 1) := by decide +kernel
theorem d_Co_sweepStep_5 : decode prog_4_method_11_code 5 = .ok (.getfield 70, 3) := by decide +kernel
theorem d_Co_sweepStep_8 : decode prog_4_method_11_code 8 = .ok (.invokevirtual 76, 3) := by decide +kernel
theorem d_Co_sweepStep_11 : decode prog_4_method_11_code 11 = .ok (.istore_n 1, 1) := by decide +kernel
theorem d_Co_sweepStep_12 : decode prog_4_method_11_code 12 = .ok (.iload_n 1, 1) := by decide +kernel
theorem d_Co_sweepStep_13 : decode prog_4_method_11_code 13 = .ok (.iconst (-1), 1) := by decide +kernel
theorem d_Co_sweepStep_14 : decode prog_4_method_11_code 14 = .ok (.if_icmp .eq 72, 3) := by decide +kernel
theorem d_Co_sweepStep_17 : decode prog_4_method_11_code 17 = .ok (.aload_n 0, 1) := by decide +kernel
theorem d_Co_sweepStep_18 : decode prog_4_method_11_code 18 = .ok (.getfield 12, 3) := by decide +kernel
theorem d_Co_sweepStep_21 : decode prog_4_method_11_code 21 = .ok (.iload_n 1, 1) := by decide +kernel
theorem d_Co_sweepStep_22 : decode prog_4_method_11_code 22 = .ok (.invokevirtual 136, 3) := by decide +kernel
theorem d_Co_sweepStep_25 : decode prog_4_method_11_code 25 = .ok (.istore_n 2, 1) := by decide +kernel
theorem d_Co_sweepStep_26 : decode prog_4_method_11_code 26 = .ok (.aload_n 0, 1) := by decide +kernel
theorem d_Co_sweepStep_27 : decode prog_4_method_11_code 27 = .ok (.iload_n 1, 1) := by decide +kernel
theorem d_Co_sweepStep_28 : decode prog_4_method_11_code 28 = .ok (.iload_n 2, 1) := by decide +kernel
theorem d_Co_sweepStep_29 : decode prog_4_method_11_code 29 = .ok (.iadd, 1) := by decide +kernel
theorem d_Co_sweepStep_30 : decode prog_4_method_11_code 30 = .ok (.putfield 70, 3) := by decide +kernel
theorem d_Co_sweepStep_33 : decode prog_4_method_11_code 33 = .ok (.aload_n 0, 1) := by decide +kernel
theorem d_Co_sweepStep_34 : decode prog_4_method_11_code 34 = .ok (.getfield 12, 3) := by decide +kernel
theorem d_Co_sweepStep_37 : decode prog_4_method_11_code 37 = .ok (.iload_n 1, 1) := by decide +kernel
theorem d_Co_sweepStep_38 : decode prog_4_method_11_code 38 = .ok (.invokevirtual 122, 3) := by decide +kernel
theorem d_Co_sweepStep_41 : decode prog_4_method_11_code 41 = .ok (.ifCond .eq 15, 3) := by decide +kernel
theorem d_Co_sweepStep_44 : decode prog_4_method_11_code 44 = .ok (.aload_n 0, 1) := by decide +kernel
theorem d_Co_sweepStep_45 : decode prog_4_method_11_code 45 = .ok (.getfield 12, 3) := by decide +kernel
theorem d_Co_sweepStep_48 : decode prog_4_method_11_code 48 = .ok (.iload_n 1, 1) := by decide +kernel
theorem d_Co_sweepStep_49 : decode prog_4_method_11_code 49 = .ok (.iconst 0, 1) := by decide +kernel
theorem d_Co_sweepStep_50 : decode prog_4_method_11_code 50 = .ok (.invokevirtual 126, 3) := by decide +kernel
theorem d_Co_sweepStep_53 : decode prog_4_method_11_code 53 = .ok (.goto 12, 3) := by decide +kernel
theorem d_Co_sweepStep_56 : decode prog_4_method_11_code 56 = .ok (.aload_n 0, 1) := by decide +kernel
theorem d_Co_sweepStep_57 : decode prog_4_method_11_code 57 = .ok (.getfield 12, 3) := by decide +kernel
theorem d_Co_sweepStep_60 : decode prog_4_method_11_code 60 = .ok (.iload_n 1, 1) := by decide +kernel
theorem d_Co_sweepStep_61 : decode prog_4_method_11_code 61 = .ok (.iload_n 2, 1) := by decide +kernel
theorem d_Co_sweepStep_62 : decode prog_4_method_11_code 62 = .ok (.invokevirtual 139, 3) := by decide +kernel
theorem d_Co_sweepStep_65 : decode prog_4_method_11_code 65 = .ok (.aload_n 0, 1) := by decide +kernel
theorem d_Co_sweepStep_66 : decode prog_4_method_11_code 66 = .ok (.getfield 70, 3) := by decide +kernel
theorem d_Co_sweepStep_69 : decode prog_4_method_11_code 69 = .ok (.bipush 64, 2) := by decide +kernel
theorem d_Co_sweepStep_71 : decode prog_4_method_11_code 71 = .ok (.irem, 1) := by decide +kernel
theorem d_Co_sweepStep_72 : decode prog_4_method_11_code 72 = .ok (.ifCond .ne 14, 3) := by decide +kernel
theorem d_Co_sweepStep_75 : decode prog_4_method_11_code 75 = .ok (.aload_n 0, 1) := by decide +kernel
theorem d_Co_sweepStep_76 : decode prog_4_method_11_code 76 = .ok (.getfield 12, 3) := by decide +kernel
theorem d_Co_sweepStep_79 : decode prog_4_method_11_code 79 = .ok (.iload_n 1, 1) := by decide +kernel
theorem d_Co_sweepStep_80 : decode prog_4_method_11_code 80 = .ok (.bipush 64, 2) := by decide +kernel
theorem d_Co_sweepStep_82 : decode prog_4_method_11_code 82 = .ok (.idiv, 1) := by decide +kernel
theorem d_Co_sweepStep_83 : decode prog_4_method_11_code 83 = .ok (.invokevirtual 143, 3) := by decide +kernel
theorem d_Co_sweepStep_86 : decode prog_4_method_11_code 86 = .ok (.aload_n 0, 1) := by decide +kernel
theorem d_Co_sweepStep_87 : decode prog_4_method_11_code 87 = .ok (.invokevirtual 119, 3) := by decide +kernel
theorem d_Co_sweepStep_90 : decode prog_4_method_11_code 90 = .ok (.return_, 1) := by decide +kernel
def f_Co_sweepStep (μ : zM) (K : zM → Prop) : Prop := f_Bk_blockFrom μ (μ 1 12) (fun r2 μ1 => ((r2 = (-1 : Int32) → (f_Co_endIfSwept μ1 (fun μ4 => (K μ4)))) ∧ (¬ r2 = (-1 : Int32) → (f_Bk_wordsOfBlock μ1 r2 (fun r6 μ5 => (∀ μ7 : zM, μ7 = zp μ5 1 12 (r2 + r6) → (f_Bk_isMarked μ7 r2 (fun r9 μ8 => ((r9 = 0 → (f_Bk_release μ8 r2 r6 (fun μ11 => ((¬ ((μ11 1 12) - (μ11 1 12) / (64 : Int32) * (64 : Int32)) = 0 → (f_Co_endIfSwept μ11 (fun μ13 => (K μ13)))) ∧ (((μ11 1 12) - (μ11 1 12) / (64 : Int32) * (64 : Int32)) = 0 → (f_Bk_closeIfEmpty μ11 (r2 / (64 : Int32)) (fun μ14 => (f_Co_endIfSwept μ14 (fun μ15 => (K μ15)))))))))) ∧ (¬ r9 = 0 → (f_Bk_setMark μ8 r2 (0 : Int32) (fun μ16 => ((¬ ((μ16 1 12) - (μ16 1 12) / (64 : Int32) * (64 : Int32)) = 0 → (f_Co_endIfSwept μ16 (fun μ18 => (K μ18)))) ∧ (((μ16 1 12) - (μ16 1 12) / (64 : Int32) * (64 : Int32)) = 0 → (f_Bk_closeIfEmpty μ16 (r2 / (64 : Int32)) (fun μ19 => (f_Co_endIfSwept μ19 (fun μ20 => (K μ20)))))))))))))))))))
set_option maxHeartbeats 4000000 in
set_option maxRecDepth 100000 in
theorem c_Co_sweepStep (l : Launch) (E : zE) (μ : zM) (K : zM → Prop) (h : f_Co_sweepStep μ K) : Met l y_Co_sweepStep (Cond.code y_Co_sweepStep prog_4_method_11_code 3 none :: zT) { frames := 3, cells := 0, slots := 0, locals := 66 } (va_Pc [.ref (E.2.1 1)] (zR zwC E μ)) (va_Qv K (zR zwC E) (zA E)) 0 0 (zA E) := by
  refine z_head (by decide) (Nat.le_of_ble_eq_true rfl) ?_
  intro p e s m below meth c X hr hlk w ls hl
  have X : zX E p s m _ c prog_4_method_11_code "BeatHeap$Collector" 3 := X
  have hx := X.1
  have hb := X.2.1
  have hl : lv_has ls 3 [(0, .ref (E.2.1 1))] := hl
  unfold f_Co_sweepStep at h
  refine lv_aload_n hx hb d_Co_sweepStep_0 rfl (lv_at hl 0 rfl) ?_
  refine gt_1_0 X w w_fl_Co_12 d_Co_sweepStep_1 ?_
  refine lv_aload_n hx hb d_Co_sweepStep_4 rfl (lv_at hl 0 rfl) ?_
  refine gt_1_12 X w w_fl_Co_70 d_Co_sweepStep_5 ?_
  refine z_cVi (As := [.int (μ 1 12)]) (rest := []) (q0 := 2) (ci := 0) X w (c_Bk_blockFrom l E μ (μ 1 12) _ h) rfl rfl rfl w_ml_Co_76 ⟨w_im_Bk_blockFrom, w_se_Bk_blockFrom⟩ w_in_Bk w_co_Bk_blockFrom q_Bk_blockFrom.1 q_Bk_blockFrom.2 rfl ⟨Nat.le_of_ble_eq_true rfl, Nat.le_of_ble_eq_true rfl⟩ ⟨Nat.zero_le _, Nat.zero_le _⟩ hl.1 rfl (Nat.le_of_ble_eq_true rfl) d_Co_sweepStep_8 (fun r2 μ1 H locs h w => ?_)
  refine lv_istore_n (lv' := [(1, .int r2), (0, .ref (E.2.1 1))]) hx hb d_Co_sweepStep_11 rfl hl (by decide) rfl (fun ls hl => ?_)
  refine lv_iload_n hx hb d_Co_sweepStep_12 rfl (lv_at hl 0 rfl) ?_
  refine lv_iconst (v := (-1)) hx hb d_Co_sweepStep_13 (by decide) ?_
  refine lv_icmp_eq (tgt := 86) hx hb d_Co_sweepStep_14 (by decide) (fun c3 => ?_) (fun c3 => ?_)
  · have h := h.1 c3
    refine lv_aload_n hx hb d_Co_sweepStep_86 rfl (lv_at hl 1 rfl) ?_
    refine z_cVv (As := []) (rest := []) (q0 := 1) (ci := 2) X w (c_Co_endIfSwept l E μ1 _ h) rfl rfl rfl w_ml_Co_119 ⟨w_im_Co_endIfSwept, w_se_Co_endIfSwept⟩ w_in_Co w_co_Co_endIfSwept q_Co_endIfSwept.1 q_Co_endIfSwept.2 rfl ⟨Nat.le_of_ble_eq_true rfl, Nat.le_of_ble_eq_true rfl⟩ ⟨Nat.zero_le _, Nat.zero_le _⟩ hl.1 rfl (Nat.le_of_ble_eq_true rfl) d_Co_sweepStep_87 (fun μ4 H locs h w => ?_)
    exact z_vret X hr hlk w h d_Co_sweepStep_90
  · have h := h.2 c3
    refine lv_aload_n hx hb d_Co_sweepStep_17 rfl (lv_at hl 1 rfl) ?_
    refine gt_1_0 X w w_fl_Co_12 d_Co_sweepStep_18 ?_
    refine lv_iload_n hx hb d_Co_sweepStep_21 rfl (lv_at hl 0 rfl) ?_
    refine z_cVi (As := [.int r2]) (rest := []) (q0 := 2) (ci := 0) X w (c_Bk_wordsOfBlock l E μ1 r2 _ h) rfl rfl rfl w_ml_Co_136 ⟨w_im_Bk_wordsOfBlock, w_se_Bk_wordsOfBlock⟩ w_in_Bk w_co_Bk_wordsOfBlock q_Bk_wordsOfBlock.1 q_Bk_wordsOfBlock.2 rfl ⟨Nat.le_of_ble_eq_true rfl, Nat.le_of_ble_eq_true rfl⟩ ⟨Nat.zero_le _, Nat.zero_le _⟩ hl.1 rfl (Nat.le_of_ble_eq_true rfl) d_Co_sweepStep_22 (fun r6 μ5 H locs h w => ?_)
    refine lv_istore_n (lv' := [(2, .int r6), (1, .int r2), (0, .ref (E.2.1 1))]) hx hb d_Co_sweepStep_25 rfl hl (by decide) rfl (fun ls hl => ?_)
    refine lv_aload_n hx hb d_Co_sweepStep_26 rfl (lv_at hl 2 rfl) ?_
    refine lv_iload_n hx hb d_Co_sweepStep_27 rfl (lv_at hl 1 rfl) ?_
    refine lv_iload_n hx hb d_Co_sweepStep_28 rfl (lv_at hl 0 rfl) ?_
    refine lv_iadd hx hb d_Co_sweepStep_29 ?_
    refine pt_1_12 X w w_fl_Co_70 d_Co_sweepStep_30 (fun μ7 H locs eμ7 w => ?_)
    have h := h μ7 eμ7
    refine lv_aload_n hx hb d_Co_sweepStep_33 rfl (lv_at hl 2 rfl) ?_
    refine gt_1_0 X w w_fl_Co_12 d_Co_sweepStep_34 ?_
    refine lv_iload_n hx hb d_Co_sweepStep_37 rfl (lv_at hl 1 rfl) ?_
    refine z_cVi (As := [.int r2]) (rest := []) (q0 := 2) (ci := 0) X w (c_Bk_isMarked l E μ7 r2 _ h) rfl rfl rfl w_ml_Co_122 ⟨w_im_Bk_isMarked, w_se_Bk_isMarked⟩ w_in_Bk w_co_Bk_isMarked q_Bk_isMarked.1 q_Bk_isMarked.2 rfl ⟨Nat.le_of_ble_eq_true rfl, Nat.le_of_ble_eq_true rfl⟩ ⟨Nat.zero_le _, Nat.zero_le _⟩ hl.1 rfl (Nat.le_of_ble_eq_true rfl) d_Co_sweepStep_38 (fun r9 μ8 H locs h w => ?_)
    refine lv_if_eq (tgt := 56) hx hb d_Co_sweepStep_41 (by decide) (fun c10 => ?_) (fun c10 => ?_)
    · have h := h.1 c10
      refine lv_aload_n hx hb d_Co_sweepStep_56 rfl (lv_at hl 2 rfl) ?_
      refine gt_1_0 X w w_fl_Co_12 d_Co_sweepStep_57 ?_
      refine lv_iload_n hx hb d_Co_sweepStep_60 rfl (lv_at hl 1 rfl) ?_
      refine lv_iload_n hx hb d_Co_sweepStep_61 rfl (lv_at hl 0 rfl) ?_
      refine z_cVv (As := [.int r2, .int r6]) (rest := []) (q0 := 2) (ci := 0) X w (c_Bk_release l E μ8 r2 r6 _ h) rfl rfl rfl w_ml_Co_139 ⟨w_im_Bk_release, w_se_Bk_release⟩ w_in_Bk w_co_Bk_release q_Bk_release.1 q_Bk_release.2 rfl ⟨Nat.le_of_ble_eq_true rfl, Nat.le_of_ble_eq_true rfl⟩ ⟨Nat.zero_le _, Nat.zero_le _⟩ hl.1 rfl (Nat.le_of_ble_eq_true rfl) d_Co_sweepStep_62 (fun μ11 H locs h w => ?_)
      refine lv_aload_n hx hb d_Co_sweepStep_65 rfl (lv_at hl 2 rfl) ?_
      refine gt_1_12 X w w_fl_Co_70 d_Co_sweepStep_66 ?_
      refine lv_bipush (v := 64) hx hb d_Co_sweepStep_69 (by decide) ?_
      refine lv_irem hx hb d_Co_sweepStep_71 (by decide) ?_
      refine lv_if_ne (tgt := 86) hx hb d_Co_sweepStep_72 (by decide) (fun c12 => ?_) (fun c12 => ?_)
      · have h := h.1 c12
        refine lv_aload_n hx hb d_Co_sweepStep_86 rfl (lv_at hl 2 rfl) ?_
        refine z_cVv (As := []) (rest := []) (q0 := 1) (ci := 2) X w (c_Co_endIfSwept l E μ11 _ h) rfl rfl rfl w_ml_Co_119 ⟨w_im_Co_endIfSwept, w_se_Co_endIfSwept⟩ w_in_Co w_co_Co_endIfSwept q_Co_endIfSwept.1 q_Co_endIfSwept.2 rfl ⟨Nat.le_of_ble_eq_true rfl, Nat.le_of_ble_eq_true rfl⟩ ⟨Nat.zero_le _, Nat.zero_le _⟩ hl.1 rfl (Nat.le_of_ble_eq_true rfl) d_Co_sweepStep_87 (fun μ13 H locs h w => ?_)
        exact z_vret X hr hlk w h d_Co_sweepStep_90
      · have h := h.2 c12
        refine lv_aload_n hx hb d_Co_sweepStep_75 rfl (lv_at hl 2 rfl) ?_
        refine gt_1_0 X w w_fl_Co_12 d_Co_sweepStep_76 ?_
        refine lv_iload_n hx hb d_Co_sweepStep_79 rfl (lv_at hl 1 rfl) ?_
        refine lv_bipush (v := 64) hx hb d_Co_sweepStep_80 (by decide) ?_
        refine lv_idiv hx hb d_Co_sweepStep_82 (by decide) ?_
        refine z_cVv (As := [.int (r2 / (64 : Int32))]) (rest := []) (q0 := 2) (ci := 0) X w (c_Bk_closeIfEmpty l E μ11 (r2 / (64 : Int32)) _ h) rfl rfl rfl w_ml_Co_143 ⟨w_im_Bk_closeIfEmpty, w_se_Bk_closeIfEmpty⟩ w_in_Bk w_co_Bk_closeIfEmpty q_Bk_closeIfEmpty.1 q_Bk_closeIfEmpty.2 rfl ⟨Nat.le_of_ble_eq_true rfl, Nat.le_of_ble_eq_true rfl⟩ ⟨Nat.zero_le _, Nat.zero_le _⟩ hl.1 rfl (Nat.le_of_ble_eq_true rfl) d_Co_sweepStep_83 (fun μ14 H locs h w => ?_)
        refine lv_aload_n hx hb d_Co_sweepStep_86 rfl (lv_at hl 2 rfl) ?_
        refine z_cVv (As := []) (rest := []) (q0 := 1) (ci := 2) X w (c_Co_endIfSwept l E μ14 _ h) rfl rfl rfl w_ml_Co_119 ⟨w_im_Co_endIfSwept, w_se_Co_endIfSwept⟩ w_in_Co w_co_Co_endIfSwept q_Co_endIfSwept.1 q_Co_endIfSwept.2 rfl ⟨Nat.le_of_ble_eq_true rfl, Nat.le_of_ble_eq_true rfl⟩ ⟨Nat.zero_le _, Nat.zero_le _⟩ hl.1 rfl (Nat.le_of_ble_eq_true rfl) d_Co_sweepStep_87 (fun μ15 H locs h w => ?_)
        exact z_vret X hr hlk w h d_Co_sweepStep_90
    · have h := h.2 c10
      refine lv_aload_n hx hb d_Co_sweepStep_44 rfl (lv_at hl 2 rfl) ?_
      refine gt_1_0 X w w_fl_Co_12 d_Co_sweepStep_45 ?_
      refine lv_iload_n hx hb d_Co_sweepStep_48 rfl (lv_at hl 1 rfl) ?_
      refine lv_iconst (v := 0) hx hb d_Co_sweepStep_49 (by decide) ?_
      refine z_cVv (As := [.int r2, .int (0 : Int32)]) (rest := []) (q0 := 2) (ci := 0) X w (c_Bk_setMark l E μ8 r2 (0 : Int32) _ h) rfl rfl rfl w_ml_Co_126 ⟨w_im_Bk_setMark, w_se_Bk_setMark⟩ w_in_Bk w_co_Bk_setMark q_Bk_setMark.1 q_Bk_setMark.2 rfl ⟨Nat.le_of_ble_eq_true rfl, Nat.le_of_ble_eq_true rfl⟩ ⟨Nat.zero_le _, Nat.zero_le _⟩ hl.1 rfl (Nat.le_of_ble_eq_true rfl) d_Co_sweepStep_50 (fun μ16 H locs h w => ?_)
      refine lv_goto (tgt := 65) hx hb d_Co_sweepStep_53 (by decide) ?_
      refine lv_aload_n hx hb d_Co_sweepStep_65 rfl (lv_at hl 2 rfl) ?_
      refine gt_1_12 X w w_fl_Co_70 d_Co_sweepStep_66 ?_
      refine lv_bipush (v := 64) hx hb d_Co_sweepStep_69 (by decide) ?_
      refine lv_irem hx hb d_Co_sweepStep_71 (by decide) ?_
      refine lv_if_ne (tgt := 86) hx hb d_Co_sweepStep_72 (by decide) (fun c17 => ?_) (fun c17 => ?_)
      · have h := h.1 c17
        refine lv_aload_n hx hb d_Co_sweepStep_86 rfl (lv_at hl 2 rfl) ?_
        refine z_cVv (As := []) (rest := []) (q0 := 1) (ci := 2) X w (c_Co_endIfSwept l E μ16 _ h) rfl rfl rfl w_ml_Co_119 ⟨w_im_Co_endIfSwept, w_se_Co_endIfSwept⟩ w_in_Co w_co_Co_endIfSwept q_Co_endIfSwept.1 q_Co_endIfSwept.2 rfl ⟨Nat.le_of_ble_eq_true rfl, Nat.le_of_ble_eq_true rfl⟩ ⟨Nat.zero_le _, Nat.zero_le _⟩ hl.1 rfl (Nat.le_of_ble_eq_true rfl) d_Co_sweepStep_87 (fun μ18 H locs h w => ?_)
        exact z_vret X hr hlk w h d_Co_sweepStep_90
      · have h := h.2 c17
        refine lv_aload_n hx hb d_Co_sweepStep_75 rfl (lv_at hl 2 rfl) ?_
        refine gt_1_0 X w w_fl_Co_12 d_Co_sweepStep_76 ?_
        refine lv_iload_n hx hb d_Co_sweepStep_79 rfl (lv_at hl 1 rfl) ?_
        refine lv_bipush (v := 64) hx hb d_Co_sweepStep_80 (by decide) ?_
        refine lv_idiv hx hb d_Co_sweepStep_82 (by decide) ?_
        refine z_cVv (As := [.int (r2 / (64 : Int32))]) (rest := []) (q0 := 2) (ci := 0) X w (c_Bk_closeIfEmpty l E μ16 (r2 / (64 : Int32)) _ h) rfl rfl rfl w_ml_Co_143 ⟨w_im_Bk_closeIfEmpty, w_se_Bk_closeIfEmpty⟩ w_in_Bk w_co_Bk_closeIfEmpty q_Bk_closeIfEmpty.1 q_Bk_closeIfEmpty.2 rfl ⟨Nat.le_of_ble_eq_true rfl, Nat.le_of_ble_eq_true rfl⟩ ⟨Nat.zero_le _, Nat.zero_le _⟩ hl.1 rfl (Nat.le_of_ble_eq_true rfl) d_Co_sweepStep_83 (fun μ19 H locs h w => ?_)
        refine lv_aload_n hx hb d_Co_sweepStep_86 rfl (lv_at hl 2 rfl) ?_
        refine z_cVv (As := []) (rest := []) (q0 := 1) (ci := 2) X w (c_Co_endIfSwept l E μ19 _ h) rfl rfl rfl w_ml_Co_119 ⟨w_im_Co_endIfSwept, w_se_Co_endIfSwept⟩ w_in_Co w_co_Co_endIfSwept q_Co_endIfSwept.1 q_Co_endIfSwept.2 rfl ⟨Nat.le_of_ble_eq_true rfl, Nat.le_of_ble_eq_true rfl⟩ ⟨Nat.zero_le _, Nat.zero_le _⟩ hl.1 rfl (Nat.le_of_ble_eq_true rfl) d_Co_sweepStep_87 (fun μ20 H locs h w => ?_)
        exact z_vret X hr hlk w h d_Co_sweepStep_90
theorem q_Co_step : (y_Co_step.cls ≠ "java/lang/invoke/MethodHandle" ∧ y_Co_step.cls ≠ "java/lang/invoke/VarHandle") ∧ (parseMethodDescriptor y_Co_step.desc).map (fun d => d.parameters.length) = some 0 := by decide +kernel
theorem d_Co_step_0 : decode prog_4_method_7_code 0 = .ok (.aload_n 0, 1) := by decide +kernel
theorem d_Co_step_1 : decode prog_4_method_7_code 1 = .ok (.getfield 21, 3) := by decide +kernel
theorem d_Co_step_4 : decode prog_4_method_7_code 4 = .ok (.invokevirtual 94, 3) := by decide +kernel
theorem d_Co_step_7 : decode prog_4_method_7_code 7 = .ok (.aload_n 0, 1) := by decide +kernel
theorem d_Co_step_8 : decode prog_4_method_7_code 8 = .ok (.getfield 55, 3) := by decide +kernel
theorem d_Co_step_11 : decode prog_4_method_7_code 11 = .ok (.tableswitch 46 1 3 #[25, 32, 39], 25) := by decide +kernel
theorem d_Co_step_36 : decode prog_4_method_7_code 36 = .ok (.aload_n 0, 1) := by decide +kernel
theorem d_Co_step_37 : decode prog_4_method_7_code 37 = .ok (.invokevirtual 97, 3) := by decide +kernel
theorem d_Co_step_40 : decode prog_4_method_7_code 40 = .ok (.goto 17, 3) := by decide +kernel
theorem d_Co_step_43 : decode prog_4_method_7_code 43 = .ok (.aload_n 0, 1) := by decide +kernel
theorem d_Co_step_44 : decode prog_4_method_7_code 44 = .ok (.invokevirtual 100, 3) := by decide +kernel
theorem d_Co_step_47 : decode prog_4_method_7_code 47 = .ok (.goto 10, 3) := by decide +kernel
theorem d_Co_step_50 : decode prog_4_method_7_code 50 = .ok (.aload_n 0, 1) := by decide +kernel
theorem d_Co_step_51 : decode prog_4_method_7_code 51 = .ok (.invokevirtual 103, 3) := by decide +kernel
theorem d_Co_step_54 : decode prog_4_method_7_code 54 = .ok (.goto 3, 3) := by decide +kernel
theorem d_Co_step_57 : decode prog_4_method_7_code 57 = .ok (.return_, 1) := by decide +kernel
def f_Co_step (μ : zM) (K : zM → Prop) : Prop := f_Ck_collectorTick μ (fun μ1 => (((μ1 1 7).toInt = 1 → (f_Co_rootsStep μ1 (fun μ3 => (K μ3)))) ∧ ((μ1 1 7).toInt = 2 → (f_Co_markStep μ1 (fun μ5 => (K μ5)))) ∧ ((μ1 1 7).toInt = 3 → (f_Co_sweepStep μ1 (fun μ7 => (K μ7)))) ∧ (¬ (μ1 1 7).toInt = 1 → ¬ (μ1 1 7).toInt = 2 → ¬ (μ1 1 7).toInt = 3 → (K μ1))))
set_option maxHeartbeats 4000000 in
set_option maxRecDepth 100000 in
theorem c_Co_step (l : Launch) (E : zE) (μ : zM) (K : zM → Prop) (h : f_Co_step μ K) : Met l y_Co_step (Cond.code y_Co_step prog_4_method_7_code 1 none :: zT) { frames := 4, cells := 0, slots := 0, locals := 88 } (va_Pc [.ref (E.2.1 1)] (zR zwC E μ)) (va_Qv K (zR zwC E) (zA E)) 0 0 (zA E) := by
  refine z_head (by decide) (Nat.le_of_ble_eq_true rfl) ?_
  intro p e s m below meth c X hr hlk w ls hl
  have X : zX E p s m _ c prog_4_method_7_code "BeatHeap$Collector" 1 := X
  have hx := X.1
  have hb := X.2.1
  have hl : lv_has ls 1 [(0, .ref (E.2.1 1))] := hl
  unfold f_Co_step at h
  refine lv_aload_n hx hb d_Co_step_0 rfl (lv_at hl 0 rfl) ?_
  refine gt_1_1 X w w_fl_Co_21 d_Co_step_1 ?_
  refine z_cVv (As := []) (rest := []) (q0 := 10) (ci := 1) X w (c_Ck_collectorTick l E μ _ h) rfl rfl rfl w_ml_Co_94 ⟨w_im_Ck_collectorTick, w_se_Ck_collectorTick⟩ w_in_Ck w_co_Ck_collectorTick q_Ck_collectorTick.1 q_Ck_collectorTick.2 rfl ⟨Nat.le_of_ble_eq_true rfl, Nat.le_of_ble_eq_true rfl⟩ ⟨Nat.zero_le _, Nat.zero_le _⟩ hl.1 rfl (Nat.le_of_ble_eq_true rfl) d_Co_step_4 (fun μ1 H locs h w => ?_)
  refine lv_aload_n hx hb d_Co_step_7 rfl (lv_at hl 0 rfl) ?_
  refine gt_1_7 X w w_fl_Co_55 d_Co_step_8 ?_
  by_cases c2 : (μ1 1 7).toInt = 1
  · have h := h.1 c2
    refine lv_tableIn (tgt := 36) hx hb d_Co_step_11 (by omega) (by omega) (off := 25) (by rw [c2]; rfl) (by decide) ?_
    refine lv_aload_n hx hb d_Co_step_36 rfl (lv_at hl 0 rfl) ?_
    refine z_cVv (As := []) (rest := []) (q0 := 1) (ci := 2) X w (c_Co_rootsStep l E μ1 _ h) rfl rfl rfl w_ml_Co_97 ⟨w_im_Co_rootsStep, w_se_Co_rootsStep⟩ w_in_Co w_co_Co_rootsStep q_Co_rootsStep.1 q_Co_rootsStep.2 rfl ⟨Nat.le_of_ble_eq_true rfl, Nat.le_of_ble_eq_true rfl⟩ ⟨Nat.zero_le _, Nat.zero_le _⟩ hl.1 rfl (Nat.le_of_ble_eq_true rfl) d_Co_step_37 (fun μ3 H locs h w => ?_)
    refine lv_goto (tgt := 57) hx hb d_Co_step_40 (by decide) ?_
    exact z_vret X hr hlk w h d_Co_step_57
  by_cases c4 : (μ1 1 7).toInt = 2
  · have h := h.2.1 c4
    refine lv_tableIn (tgt := 43) hx hb d_Co_step_11 (by omega) (by omega) (off := 32) (by rw [c4]; rfl) (by decide) ?_
    refine lv_aload_n hx hb d_Co_step_43 rfl (lv_at hl 0 rfl) ?_
    refine z_cVv (As := []) (rest := []) (q0 := 1) (ci := 2) X w (c_Co_markStep l E μ1 _ h) rfl rfl rfl w_ml_Co_100 ⟨w_im_Co_markStep, w_se_Co_markStep⟩ w_in_Co w_co_Co_markStep q_Co_markStep.1 q_Co_markStep.2 rfl ⟨Nat.le_of_ble_eq_true rfl, Nat.le_of_ble_eq_true rfl⟩ ⟨Nat.zero_le _, Nat.zero_le _⟩ hl.1 rfl (Nat.le_of_ble_eq_true rfl) d_Co_step_44 (fun μ5 H locs h w => ?_)
    refine lv_goto (tgt := 57) hx hb d_Co_step_47 (by decide) ?_
    exact z_vret X hr hlk w h d_Co_step_57
  by_cases c6 : (μ1 1 7).toInt = 3
  · have h := h.2.2.1 c6
    refine lv_tableIn (tgt := 50) hx hb d_Co_step_11 (by omega) (by omega) (off := 39) (by rw [c6]; rfl) (by decide) ?_
    refine lv_aload_n hx hb d_Co_step_50 rfl (lv_at hl 0 rfl) ?_
    refine z_cVv (As := []) (rest := []) (q0 := 1) (ci := 2) X w (c_Co_sweepStep l E μ1 _ h) rfl rfl rfl w_ml_Co_103 ⟨w_im_Co_sweepStep, w_se_Co_sweepStep⟩ w_in_Co w_co_Co_sweepStep q_Co_sweepStep.1 q_Co_sweepStep.2 rfl ⟨Nat.le_of_ble_eq_true rfl, Nat.le_of_ble_eq_true rfl⟩ ⟨Nat.zero_le _, Nat.zero_le _⟩ hl.1 rfl (Nat.le_of_ble_eq_true rfl) d_Co_step_51 (fun μ7 H locs h w => ?_)
    refine lv_goto (tgt := 57) hx hb d_Co_step_54 (by decide) ?_
    exact z_vret X hr hlk w h d_Co_step_57
  have h := h.2.2.2 c2 c4 c6
  refine lv_tableOut (tgt := 57) hx hb d_Co_step_11 (by omega) (by decide) ?_
  exact z_vret X hr hlk w h d_Co_step_57
