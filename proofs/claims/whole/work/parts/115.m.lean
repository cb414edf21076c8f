theorem q_Mo_root : (y_Mo_root.cls ≠ "java/lang/invoke/MethodHandle" ∧ y_Mo_root.cls ≠ "java/lang/invoke/VarHandle") ∧ (parseMethodDescriptor y_Mo_root.desc).map (fun d => d.parameters.length) = some 2 := by decide +kernel
theorem d_Mo_root_0 : decode prog_8_method_35_code 0 = .ok (.iload_n 1, 1) := by decide +kernel
theorem d_Mo_root_1 : decode prog_8_method_35_code 1 = .ok (.invokestatic 134, 3) := by decide +kernel
theorem d_Mo_root_4 : decode prog_8_method_35_code 4 = .ok (.ifCond .eq 12, 3) := by decide +kernel
theorem d_Mo_root_7 : decode prog_8_method_35_code 7 = .ok (.aload_n 0, 1) := by decide +kernel
theorem d_Mo_root_8 : decode prog_8_method_35_code 8 = .ok (.getfield 29, 3) := by decide +kernel
theorem d_Mo_root_11 : decode prog_8_method_35_code 11 = .ok (.iload_n 1, 1) := by decide +kernel
theorem d_Mo_root_12 : decode prog_8_method_35_code 12 = .ok (.iaload, 1) := by decide +kernel
theorem d_Mo_root_13 : decode prog_8_method_35_code 13 = .ok (.goto 4, 3) := by decide +kernel
theorem d_Mo_root_16 : decode prog_8_method_35_code 16 = .ok (.iconst (-1), 1) := by decide +kernel
theorem d_Mo_root_17 : decode prog_8_method_35_code 17 = .ok (.istore_n 3, 1) := by decide +kernel
theorem d_Mo_root_18 : decode prog_8_method_35_code 18 = .ok (.iload_n 3, 1) := by decide +kernel
theorem d_Mo_root_19 : decode prog_8_method_35_code 19 = .ok (.iconst (-1), 1) := by decide +kernel
theorem d_Mo_root_20 : decode prog_8_method_35_code 20 = .ok (.if_icmp .ne 5, 3) := by decide +kernel
theorem d_Mo_root_23 : decode prog_8_method_35_code 23 = .ok (.iconst (-1), 1) := by decide +kernel
theorem d_Mo_root_24 : decode prog_8_method_35_code 24 = .ok (.ireturn, 1) := by decide +kernel
theorem d_Mo_root_25 : decode prog_8_method_35_code 25 = .ok (.iload_n 2, 1) := by decide +kernel
theorem d_Mo_root_26 : decode prog_8_method_35_code 26 = .ok (.tableswitch 81 0 4 #[34, 36, 43, 50, 65], 34) := by decide +kernel
theorem d_Mo_root_60 : decode prog_8_method_35_code 60 = .ok (.iload_n 3, 1) := by decide +kernel
theorem d_Mo_root_61 : decode prog_8_method_35_code 61 = .ok (.ireturn, 1) := by decide +kernel
theorem d_Mo_root_62 : decode prog_8_method_35_code 62 = .ok (.aload_n 0, 1) := by decide +kernel
theorem d_Mo_root_63 : decode prog_8_method_35_code 63 = .ok (.getfield 23, 3) := by decide +kernel
theorem d_Mo_root_66 : decode prog_8_method_35_code 66 = .ok (.iload_n 3, 1) := by decide +kernel
theorem d_Mo_root_67 : decode prog_8_method_35_code 67 = .ok (.iaload, 1) := by decide +kernel
theorem d_Mo_root_68 : decode prog_8_method_35_code 68 = .ok (.ireturn, 1) := by decide +kernel
theorem d_Mo_root_69 : decode prog_8_method_35_code 69 = .ok (.aload_n 0, 1) := by decide +kernel
theorem d_Mo_root_70 : decode prog_8_method_35_code 70 = .ok (.getfield 26, 3) := by decide +kernel
theorem d_Mo_root_73 : decode prog_8_method_35_code 73 = .ok (.iload_n 3, 1) := by decide +kernel
theorem d_Mo_root_74 : decode prog_8_method_35_code 74 = .ok (.iaload, 1) := by decide +kernel
theorem d_Mo_root_75 : decode prog_8_method_35_code 75 = .ok (.ireturn, 1) := by decide +kernel
theorem d_Mo_root_76 : decode prog_8_method_35_code 76 = .ok (.aload_n 0, 1) := by decide +kernel
theorem d_Mo_root_77 : decode prog_8_method_35_code 77 = .ok (.getfield 19, 3) := by decide +kernel
theorem d_Mo_root_80 : decode prog_8_method_35_code 80 = .ok (.iload_n 3, 1) := by decide +kernel
theorem d_Mo_root_81 : decode prog_8_method_35_code 81 = .ok (.baload, 1) := by decide +kernel
theorem d_Mo_root_82 : decode prog_8_method_35_code 82 = .ok (.ifCond .eq 7, 3) := by decide +kernel
theorem d_Mo_root_85 : decode prog_8_method_35_code 85 = .ok (.iconst 1, 1) := by decide +kernel
theorem d_Mo_root_86 : decode prog_8_method_35_code 86 = .ok (.goto 4, 3) := by decide +kernel
theorem d_Mo_root_89 : decode prog_8_method_35_code 89 = .ok (.iconst 0, 1) := by decide +kernel
theorem d_Mo_root_90 : decode prog_8_method_35_code 90 = .ok (.ireturn, 1) := by decide +kernel
theorem d_Mo_root_91 : decode prog_8_method_35_code 91 = .ok (.aload_n 0, 1) := by decide +kernel
theorem d_Mo_root_92 : decode prog_8_method_35_code 92 = .ok (.getfield 16, 3) := by decide +kernel
theorem d_Mo_root_95 : decode prog_8_method_35_code 95 = .ok (.iload_n 3, 1) := by decide +kernel
theorem d_Mo_root_96 : decode prog_8_method_35_code 96 = .ok (.iaload, 1) := by decide +kernel
theorem d_Mo_root_97 : decode prog_8_method_35_code 97 = .ok (.iconst 2, 1) := by decide +kernel
theorem d_Mo_root_98 : decode prog_8_method_35_code 98 = .ok (.if_icmp .ne 7, 3) := by decide +kernel
theorem d_Mo_root_101 : decode prog_8_method_35_code 101 = .ok (.iconst 1, 1) := by decide +kernel
theorem d_Mo_root_102 : decode prog_8_method_35_code 102 = .ok (.goto 4, 3) := by decide +kernel
theorem d_Mo_root_105 : decode prog_8_method_35_code 105 = .ok (.iconst 0, 1) := by decide +kernel
theorem d_Mo_root_106 : decode prog_8_method_35_code 106 = .ok (.ireturn, 1) := by decide +kernel
theorem d_Mo_root_107 : decode prog_8_method_35_code 107 = .ok (.iconst (-1), 1) := by decide +kernel
theorem d_Mo_root_108 : decode prog_8_method_35_code 108 = .ok (.ireturn, 1) := by decide +kernel
def f_Mo_root (μ : zM) (a1 a2 : Int32) (K : Int32 → zM → Prop) : Prop := f_Mo_isRoot μ a1 (fun r2 μ1 => ((r2 = 0 → ((¬ (-1 : Int32) = (-1 : Int32) → ((a2.toInt = 0 → (K (-1 : Int32) μ1)) ∧ (a2.toInt = 1 → (vp_in (-1 : Int32) 4096 ∧ (K (μ1 24 (-1 : Int32).toNatClampNeg) μ1))) ∧ (a2.toInt = 2 → (vp_in (-1 : Int32) 4096 ∧ (K (μ1 25 (-1 : Int32).toNatClampNeg) μ1))) ∧ (a2.toInt = 3 → (vp_in (-1 : Int32) 4096 ∧ (((μ1 23 (-1 : Int32).toNatClampNeg) = 0 → (K (0 : Int32) μ1)) ∧ (¬ (μ1 23 (-1 : Int32).toNatClampNeg) = 0 → (K (1 : Int32) μ1))))) ∧ (a2.toInt = 4 → (vp_in (-1 : Int32) 4096 ∧ ((¬ (μ1 22 (-1 : Int32).toNatClampNeg) = (2 : Int32) → (K (0 : Int32) μ1)) ∧ ((μ1 22 (-1 : Int32).toNatClampNeg) = (2 : Int32) → (K (1 : Int32) μ1))))) ∧ (¬ a2.toInt = 0 → ¬ a2.toInt = 1 → ¬ a2.toInt = 2 → ¬ a2.toInt = 3 → ¬ a2.toInt = 4 → (K (-1 : Int32) μ1)))) ∧ ((-1 : Int32) = (-1 : Int32) → (K (-1 : Int32) μ1)))) ∧ (¬ r2 = 0 → (vp_in a1 16 ∧ (∀ x17 : Int32, x17 = (μ1 26 a1.toNatClampNeg) → ((¬ x17 = (-1 : Int32) → ((a2.toInt = 0 → (K x17 μ1)) ∧ (a2.toInt = 1 → (vp_in x17 4096 ∧ (K (μ1 24 x17.toNatClampNeg) μ1))) ∧ (a2.toInt = 2 → (vp_in x17 4096 ∧ (K (μ1 25 x17.toNatClampNeg) μ1))) ∧ (a2.toInt = 3 → (vp_in x17 4096 ∧ (((μ1 23 x17.toNatClampNeg) = 0 → (K (0 : Int32) μ1)) ∧ (¬ (μ1 23 x17.toNatClampNeg) = 0 → (K (1 : Int32) μ1))))) ∧ (a2.toInt = 4 → (vp_in x17 4096 ∧ ((¬ (μ1 22 x17.toNatClampNeg) = (2 : Int32) → (K (0 : Int32) μ1)) ∧ ((μ1 22 x17.toNatClampNeg) = (2 : Int32) → (K (1 : Int32) μ1))))) ∧ (¬ a2.toInt = 0 → ¬ a2.toInt = 1 → ¬ a2.toInt = 2 → ¬ a2.toInt = 3 → ¬ a2.toInt = 4 → (K (-1 : Int32) μ1)))) ∧ (x17 = (-1 : Int32) → (K (-1 : Int32) μ1))))))))
set_option maxHeartbeats 4000000 in
set_option maxRecDepth 100000 in
theorem c_Mo_root (l : Launch) (E : zE) (μ : zM) (a1 a2 : Int32) (K : Int32 → zM → Prop) (h : f_Mo_root μ a1 a2 K) : Met l y_Mo_root (Cond.code y_Mo_root prog_8_method_35_code 4 (some .int) :: zT) { frames := 1, cells := 0, slots := 0, locals := 20 } (va_Pc [.ref (E.2.1 19), .int a1, .int a2] (zR zwM E μ)) (va_Qi K (zR zwM E) (zA E)) 0 0 (zA E) := by
  refine z_head (by decide) (Nat.le_of_ble_eq_true rfl) ?_
  intro p e s m below meth c X hr hlk w ls hl
  have X : zX E p s m _ c prog_8_method_35_code "BeatHeapModel" 4 := X
  have hx := X.1
  have hb := X.2.1
  have hl : lv_has ls 4 [(0, .ref (E.2.1 19)), (1, .int a1), (2, .int a2)] := hl
  unfold f_Mo_root at h
  refine lv_iload_n hx hb d_Mo_root_0 rfl (lv_at hl 1 rfl) ?_
  refine z_cSi (As := [.int a1]) (rest := []) X w (c_Mo_isRoot l E μ a1 _ h) w_ml_Mo_134 w_st_Mo_isRoot w_in_Mo w_co_Mo_isRoot q_Mo_isRoot.1 q_Mo_isRoot.2 rfl ⟨Nat.le_of_ble_eq_true rfl, Nat.le_of_ble_eq_true rfl⟩ ⟨Nat.zero_le _, Nat.zero_le _⟩ hl.1 rfl (Nat.le_of_ble_eq_true rfl) d_Mo_root_1 (fun r2 μ1 H locs h w => ?_)
  refine lv_if_eq (tgt := 16) hx hb d_Mo_root_4 (by decide) (fun c3 => ?_) (fun c3 => ?_)
  · have h := h.1 c3
    refine lv_iconst (v := (-1)) hx hb d_Mo_root_16 (by decide) ?_
    refine lv_istore_n (lv' := [(3, .int (-1 : Int32)), (0, .ref (E.2.1 19)), (1, .int a1), (2, .int a2)]) hx hb d_Mo_root_17 rfl hl (by decide) rfl (fun ls hl => ?_)
    refine lv_iload_n hx hb d_Mo_root_18 rfl (lv_at hl 0 rfl) ?_
    refine lv_iconst (v := (-1)) hx hb d_Mo_root_19 (by decide) ?_
    refine lv_icmp_ne (tgt := 25) hx hb d_Mo_root_20 (by decide) (fun c4 => ?_) (fun c4 => ?_)
    · have h := h.1 c4
      refine lv_iload_n hx hb d_Mo_root_25 rfl (lv_at hl 3 rfl) ?_
      by_cases c5 : a2.toInt = 0
      · have h := h.1 c5
        refine lv_tableIn (tgt := 60) hx hb d_Mo_root_26 (by omega) (by omega) (off := 34) (by rw [c5]; rfl) (by decide) ?_
        refine lv_iload_n hx hb d_Mo_root_60 rfl (lv_at hl 0 rfl) ?_
        exact z_iret X hr hlk w h d_Mo_root_61
      by_cases c6 : a2.toInt = 1
      · have h := h.2.1 c6
        refine lv_tableIn (tgt := 62) hx hb d_Mo_root_26 (by omega) (by omega) (off := 36) (by rw [c6]; rfl) (by decide) ?_
        refine lv_aload_n hx hb d_Mo_root_62 rfl (lv_at hl 1 rfl) ?_
        refine gt_19_8 X w w_fl_Mo_23 d_Mo_root_63 ?_
        refine lv_iload_n hx hb d_Mo_root_66 rfl (lv_at hl 0 rfl) ?_
        obtain ⟨hi7, h⟩ := h
        refine al_24 X w hi7 d_Mo_root_67 ?_
        exact z_iret X hr hlk w h d_Mo_root_68
      by_cases c8 : a2.toInt = 2
      · have h := h.2.2.1 c8
        refine lv_tableIn (tgt := 69) hx hb d_Mo_root_26 (by omega) (by omega) (off := 43) (by rw [c8]; rfl) (by decide) ?_
        refine lv_aload_n hx hb d_Mo_root_69 rfl (lv_at hl 1 rfl) ?_
        refine gt_19_9 X w w_fl_Mo_26 d_Mo_root_70 ?_
        refine lv_iload_n hx hb d_Mo_root_73 rfl (lv_at hl 0 rfl) ?_
        obtain ⟨hi9, h⟩ := h
        refine al_25 X w hi9 d_Mo_root_74 ?_
        exact z_iret X hr hlk w h d_Mo_root_75
      by_cases c10 : a2.toInt = 3
      · have h := h.2.2.2.1 c10
        refine lv_tableIn (tgt := 76) hx hb d_Mo_root_26 (by omega) (by omega) (off := 50) (by rw [c10]; rfl) (by decide) ?_
        refine lv_aload_n hx hb d_Mo_root_76 rfl (lv_at hl 1 rfl) ?_
        refine gt_19_7 X w w_fl_Mo_19 d_Mo_root_77 ?_
        refine lv_iload_n hx hb d_Mo_root_80 rfl (lv_at hl 0 rfl) ?_
        obtain ⟨hi11, h⟩ := h
        refine al_23 X w hi11 d_Mo_root_81 ?_
        refine lv_if_eq (tgt := 89) hx hb d_Mo_root_82 (by decide) (fun c12 => ?_) (fun c12 => ?_)
        · have h := h.1 c12
          refine lv_iconst (v := 0) hx hb d_Mo_root_89 (by decide) ?_
          exact z_iret X hr hlk w h d_Mo_root_90
        · have h := h.2 c12
          refine lv_iconst (v := 1) hx hb d_Mo_root_85 (by decide) ?_
          refine lv_goto (tgt := 90) hx hb d_Mo_root_86 (by decide) ?_
          exact z_iret X hr hlk w h d_Mo_root_90
      by_cases c13 : a2.toInt = 4
      · have h := h.2.2.2.2.1 c13
        refine lv_tableIn (tgt := 91) hx hb d_Mo_root_26 (by omega) (by omega) (off := 65) (by rw [c13]; rfl) (by decide) ?_
        refine lv_aload_n hx hb d_Mo_root_91 rfl (lv_at hl 1 rfl) ?_
        refine gt_19_6 X w w_fl_Mo_16 d_Mo_root_92 ?_
        refine lv_iload_n hx hb d_Mo_root_95 rfl (lv_at hl 0 rfl) ?_
        obtain ⟨hi14, h⟩ := h
        refine al_22 X w hi14 d_Mo_root_96 ?_
        refine lv_iconst (v := 2) hx hb d_Mo_root_97 (by decide) ?_
        refine lv_icmp_ne (tgt := 105) hx hb d_Mo_root_98 (by decide) (fun c15 => ?_) (fun c15 => ?_)
        · have h := h.1 c15
          refine lv_iconst (v := 0) hx hb d_Mo_root_105 (by decide) ?_
          exact z_iret X hr hlk w h d_Mo_root_106
        · have h := h.2 c15
          refine lv_iconst (v := 1) hx hb d_Mo_root_101 (by decide) ?_
          refine lv_goto (tgt := 106) hx hb d_Mo_root_102 (by decide) ?_
          exact z_iret X hr hlk w h d_Mo_root_106
      have h := h.2.2.2.2.2 c5 c6 c8 c10 c13
      refine lv_tableOut (tgt := 107) hx hb d_Mo_root_26 (by omega) (by decide) ?_
      refine lv_iconst (v := (-1)) hx hb d_Mo_root_107 (by decide) ?_
      exact z_iret X hr hlk w h d_Mo_root_108
    · have h := h.2 c4
      refine lv_iconst (v := (-1)) hx hb d_Mo_root_23 (by decide) ?_
      exact z_iret X hr hlk w h d_Mo_root_24
  · have h := h.2 c3
    refine lv_aload_n hx hb d_Mo_root_7 rfl (lv_at hl 0 rfl) ?_
    refine gt_19_10 X w w_fl_Mo_29 d_Mo_root_8 ?_
    refine lv_iload_n hx hb d_Mo_root_11 rfl (lv_at hl 1 rfl) ?_
    obtain ⟨hi16, h⟩ := h
    refine al_26 X w hi16 d_Mo_root_12 ?_
    refine lv_goto (tgt := 17) hx hb d_Mo_root_13 (by decide) ?_
    refine lv_topi (fun x17 ex17 => ?_)
    have h := h x17 ex17
    refine lv_istore_n (lv' := [(3, .int x17), (0, .ref (E.2.1 19)), (1, .int a1), (2, .int a2)]) hx hb d_Mo_root_17 rfl hl (by decide) rfl (fun ls hl => ?_)
    refine lv_iload_n hx hb d_Mo_root_18 rfl (lv_at hl 0 rfl) ?_
    refine lv_iconst (v := (-1)) hx hb d_Mo_root_19 (by decide) ?_
    refine lv_icmp_ne (tgt := 25) hx hb d_Mo_root_20 (by decide) (fun c18 => ?_) (fun c18 => ?_)
    · have h := h.1 c18
      refine lv_iload_n hx hb d_Mo_root_25 rfl (lv_at hl 3 rfl) ?_
      by_cases c19 : a2.toInt = 0
      · have h := h.1 c19
        refine lv_tableIn (tgt := 60) hx hb d_Mo_root_26 (by omega) (by omega) (off := 34) (by rw [c19]; rfl) (by decide) ?_
        refine lv_iload_n hx hb d_Mo_root_60 rfl (lv_at hl 0 rfl) ?_
        exact z_iret X hr hlk w h d_Mo_root_61
      by_cases c20 : a2.toInt = 1
      · have h := h.2.1 c20
        refine lv_tableIn (tgt := 62) hx hb d_Mo_root_26 (by omega) (by omega) (off := 36) (by rw [c20]; rfl) (by decide) ?_
        refine lv_aload_n hx hb d_Mo_root_62 rfl (lv_at hl 1 rfl) ?_
        refine gt_19_8 X w w_fl_Mo_23 d_Mo_root_63 ?_
        refine lv_iload_n hx hb d_Mo_root_66 rfl (lv_at hl 0 rfl) ?_
        obtain ⟨hi21, h⟩ := h
        refine al_24 X w hi21 d_Mo_root_67 ?_
        exact z_iret X hr hlk w h d_Mo_root_68
      by_cases c22 : a2.toInt = 2
      · have h := h.2.2.1 c22
        refine lv_tableIn (tgt := 69) hx hb d_Mo_root_26 (by omega) (by omega) (off := 43) (by rw [c22]; rfl) (by decide) ?_
        refine lv_aload_n hx hb d_Mo_root_69 rfl (lv_at hl 1 rfl) ?_
        refine gt_19_9 X w w_fl_Mo_26 d_Mo_root_70 ?_
        refine lv_iload_n hx hb d_Mo_root_73 rfl (lv_at hl 0 rfl) ?_
        obtain ⟨hi23, h⟩ := h
        refine al_25 X w hi23 d_Mo_root_74 ?_
        exact z_iret X hr hlk w h d_Mo_root_75
      by_cases c24 : a2.toInt = 3
      · have h := h.2.2.2.1 c24
        refine lv_tableIn (tgt := 76) hx hb d_Mo_root_26 (by omega) (by omega) (off := 50) (by rw [c24]; rfl) (by decide) ?_
        refine lv_aload_n hx hb d_Mo_root_76 rfl (lv_at hl 1 rfl) ?_
        refine gt_19_7 X w w_fl_Mo_19 d_Mo_root_77 ?_
        refine lv_iload_n hx hb d_Mo_root_80 rfl (lv_at hl 0 rfl) ?_
        obtain ⟨hi25, h⟩ := h
        refine al_23 X w hi25 d_Mo_root_81 ?_
        refine lv_if_eq (tgt := 89) hx hb d_Mo_root_82 (by decide) (fun c26 => ?_) (fun c26 => ?_)
        · have h := h.1 c26
          refine lv_iconst (v := 0) hx hb d_Mo_root_89 (by decide) ?_
          exact z_iret X hr hlk w h d_Mo_root_90
        · have h := h.2 c26
          refine lv_iconst (v := 1) hx hb d_Mo_root_85 (by decide) ?_
          refine lv_goto (tgt := 90) hx hb d_Mo_root_86 (by decide) ?_
          exact z_iret X hr hlk w h d_Mo_root_90
      by_cases c27 : a2.toInt = 4
      · have h := h.2.2.2.2.1 c27
        refine lv_tableIn (tgt := 91) hx hb d_Mo_root_26 (by omega) (by omega) (off := 65) (by rw [c27]; rfl) (by decide) ?_
        refine lv_aload_n hx hb d_Mo_root_91 rfl (lv_at hl 1 rfl) ?_
        refine gt_19_6 X w w_fl_Mo_16 d_Mo_root_92 ?_
        refine lv_iload_n hx hb d_Mo_root_95 rfl (lv_at hl 0 rfl) ?_
        obtain ⟨hi28, h⟩ := h
        refine al_22 X w hi28 d_Mo_root_96 ?_
        refine lv_iconst (v := 2) hx hb d_Mo_root_97 (by decide) ?_
        refine lv_icmp_ne (tgt := 105) hx hb d_Mo_root_98 (by decide) (fun c29 => ?_) (fun c29 => ?_)
        · have h := h.1 c29
          refine lv_iconst (v := 0) hx hb d_Mo_root_105 (by decide) ?_
          exact z_iret X hr hlk w h d_Mo_root_106
        · have h := h.2 c29
          refine lv_iconst (v := 1) hx hb d_Mo_root_101 (by decide) ?_
          refine lv_goto (tgt := 106) hx hb d_Mo_root_102 (by decide) ?_
          exact z_iret X hr hlk w h d_Mo_root_106
      have h := h.2.2.2.2.2 c19 c20 c22 c24 c27
      refine lv_tableOut (tgt := 107) hx hb d_Mo_root_26 (by omega) (by decide) ?_
      refine lv_iconst (v := (-1)) hx hb d_Mo_root_107 (by decide) ?_
      exact z_iret X hr hlk w h d_Mo_root_108
    · have h := h.2 c18
      refine lv_iconst (v := (-1)) hx hb d_Mo_root_23 (by decide) ?_
      exact z_iret X hr hlk w h d_Mo_root_24
theorem q_Mo_word : (y_Mo_word.cls ≠ "java/lang/invoke/MethodHandle" ∧ y_Mo_word.cls ≠ "java/lang/invoke/VarHandle") ∧ (parseMethodDescriptor y_Mo_word.desc).map (fun d => d.parameters.length) = some 1 := by decide +kernel
theorem d_Mo_word_0 : decode prog_8_method_36_code 0 = .ok (.iload_n 1, 1) := by decide +kernel
theorem d_Mo_word_1 : decode prog_8_method_36_code 1 = .ok (.ifCond .lt 23, 3) := by decide +kernel
theorem d_Mo_word_4 : decode prog_8_method_36_code 4 = .ok (.iload_n 1, 1) := by decide +kernel
theorem d_Mo_word_5 : decode prog_8_method_36_code 5 = .ok (.bipush 64, 2) := by decide +kernel
theorem d_Mo_word_7 : decode prog_8_method_36_code 7 = .ok (.aload_n 0, 1) := by decide +kernel
theorem d_Mo_word_8 : decode prog_8_method_36_code 8 = .ok (.getfield 45, 3) := by decide +kernel
theorem d_Mo_word_11 : decode prog_8_method_36_code 11 = .ok (.imul, 1) := by decide +kernel
theorem d_Mo_word_12 : decode prog_8_method_36_code 12 = .ok (.if_icmp .ge 12, 3) := by decide +kernel
theorem d_Mo_word_15 : decode prog_8_method_36_code 15 = .ok (.aload_n 0, 1) := by decide +kernel
theorem d_Mo_word_16 : decode prog_8_method_36_code 16 = .ok (.getfield 7, 3) := by decide +kernel
theorem d_Mo_word_19 : decode prog_8_method_36_code 19 = .ok (.iload_n 1, 1) := by decide +kernel
theorem d_Mo_word_20 : decode prog_8_method_36_code 20 = .ok (.iaload, 1) := by decide +kernel
theorem d_Mo_word_21 : decode prog_8_method_36_code 21 = .ok (.goto 4, 3) := by decide +kernel
theorem d_Mo_word_24 : decode prog_8_method_36_code 24 = .ok (.iconst (-1), 1) := by decide +kernel
theorem d_Mo_word_25 : decode prog_8_method_36_code 25 = .ok (.ireturn, 1) := by decide +kernel
def f_Mo_word (μ : zM) (a1 : Int32) (K : Int32 → zM → Prop) : Prop := (a1 < 0 → (K (-1 : Int32) μ)) ∧ (¬ a1 < 0 → ((((64 : Int32) * (μ 19 0)) ≤ a1 → (K (-1 : Int32) μ)) ∧ (¬ ((64 : Int32) * (μ 19 0)) ≤ a1 → (vp_in a1 4096 ∧ (K (μ 20 a1.toNatClampNeg) μ)))))
set_option maxHeartbeats 4000000 in
set_option maxRecDepth 100000 in
theorem c_Mo_word (l : Launch) (E : zE) (μ : zM) (a1 : Int32) (K : Int32 → zM → Prop) (h : f_Mo_word μ a1 K) : Met l y_Mo_word (Cond.code y_Mo_word prog_8_method_36_code 2 (some .int) :: zT) { frames := 0, cells := 0, slots := 0, locals := 0 } (va_Pc [.ref (E.2.1 19), .int a1] (zR zwM E μ)) (va_Qi K (zR zwM E) (zA E)) 0 0 (zA E) := by
  refine z_head (by decide) (Nat.le_of_ble_eq_true rfl) ?_
  intro p e s m below meth c X hr hlk w ls hl
  have X : zX E p s m _ c prog_8_method_36_code "BeatHeapModel" 2 := X
  have hx := X.1
  have hb := X.2.1
  have hl : lv_has ls 2 [(0, .ref (E.2.1 19)), (1, .int a1)] := hl
  unfold f_Mo_word at h
  refine lv_iload_n hx hb d_Mo_word_0 rfl (lv_at hl 1 rfl) ?_
  refine lv_if_lt (tgt := 24) hx hb d_Mo_word_1 (by decide) (fun c1 => ?_) (fun c1 => ?_)
  · have h := h.1 c1
    refine lv_iconst (v := (-1)) hx hb d_Mo_word_24 (by decide) ?_
    exact z_iret X hr hlk w h d_Mo_word_25
  · have h := h.2 c1
    refine lv_iload_n hx hb d_Mo_word_4 rfl (lv_at hl 1 rfl) ?_
    refine lv_bipush (v := 64) hx hb d_Mo_word_5 (by decide) ?_
    refine lv_aload_n hx hb d_Mo_word_7 rfl (lv_at hl 0 rfl) ?_
    refine gt_19_0 X w w_fl_Mo_45 d_Mo_word_8 ?_
    refine lv_imul hx hb d_Mo_word_11 ?_
    refine lv_icmp_ge (tgt := 24) hx hb d_Mo_word_12 (by decide) (fun c2 => ?_) (fun c2 => ?_)
    · have h := h.1 c2
      refine lv_iconst (v := (-1)) hx hb d_Mo_word_24 (by decide) ?_
      exact z_iret X hr hlk w h d_Mo_word_25
    · have h := h.2 c2
      refine lv_aload_n hx hb d_Mo_word_15 rfl (lv_at hl 0 rfl) ?_
      refine gt_19_4 X w w_fl_Mo_7 d_Mo_word_16 ?_
      refine lv_iload_n hx hb d_Mo_word_19 rfl (lv_at hl 1 rfl) ?_
      obtain ⟨hi3, h⟩ := h
      refine al_20 X w hi3 d_Mo_word_20 ?_
      refine lv_goto (tgt := 25) hx hb d_Mo_word_21 (by decide) ?_
      exact z_iret X hr hlk w h d_Mo_word_25
theorem q_Mo_page : (y_Mo_page.cls ≠ "java/lang/invoke/MethodHandle" ∧ y_Mo_page.cls ≠ "java/lang/invoke/VarHandle") ∧ (parseMethodDescriptor y_Mo_page.desc).map (fun d => d.parameters.length) = some 2 := by decide +kernel
theorem d_Mo_page_0 : decode prog_8_method_37_code 0 = .ok (.iload_n 1, 1) := by decide +kernel
theorem d_Mo_page_1 : decode prog_8_method_37_code 1 = .ok (.ifCond .lt 20, 3) := by decide +kernel
theorem d_Mo_page_4 : decode prog_8_method_37_code 4 = .ok (.iload_n 1, 1) := by decide +kernel
theorem d_Mo_page_5 : decode prog_8_method_37_code 5 = .ok (.aload_n 0, 1) := by decide +kernel
theorem d_Mo_page_6 : decode prog_8_method_37_code 6 = .ok (.getfield 45, 3) := by decide +kernel
theorem d_Mo_page_9 : decode prog_8_method_37_code 9 = .ok (.if_icmp .ge 12, 3) := by decide +kernel
theorem d_Mo_page_12 : decode prog_8_method_37_code 12 = .ok (.iload_n 2, 1) := by decide +kernel
theorem d_Mo_page_13 : decode prog_8_method_37_code 13 = .ok (.ifCond .lt 8, 3) := by decide +kernel
theorem d_Mo_page_16 : decode prog_8_method_37_code 16 = .ok (.iload_n 2, 1) := by decide +kernel
theorem d_Mo_page_17 : decode prog_8_method_37_code 17 = .ok (.iconst 2, 1) := by decide +kernel
theorem d_Mo_page_18 : decode prog_8_method_37_code 18 = .ok (.if_icmp .le 5, 3) := by decide +kernel
theorem d_Mo_page_21 : decode prog_8_method_37_code 21 = .ok (.iconst (-1), 1) := by decide +kernel
theorem d_Mo_page_22 : decode prog_8_method_37_code 22 = .ok (.ireturn, 1) := by decide +kernel
theorem d_Mo_page_23 : decode prog_8_method_37_code 23 = .ok (.iload_n 2, 1) := by decide +kernel
theorem d_Mo_page_24 : decode prog_8_method_37_code 24 = .ok (.ifCond .ne 10, 3) := by decide +kernel
theorem d_Mo_page_27 : decode prog_8_method_37_code 27 = .ok (.aload_n 0, 1) := by decide +kernel
theorem d_Mo_page_28 : decode prog_8_method_37_code 28 = .ok (.getfield 13, 3) := by decide +kernel
theorem d_Mo_page_31 : decode prog_8_method_37_code 31 = .ok (.iload_n 1, 1) := by decide +kernel
theorem d_Mo_page_32 : decode prog_8_method_37_code 32 = .ok (.iaload, 1) := by decide +kernel
theorem d_Mo_page_33 : decode prog_8_method_37_code 33 = .ok (.ireturn, 1) := by decide +kernel
theorem d_Mo_page_34 : decode prog_8_method_37_code 34 = .ok (.iconst 0, 1) := by decide +kernel
theorem d_Mo_page_35 : decode prog_8_method_37_code 35 = .ok (.istore_n 3, 1) := by decide +kernel
theorem d_Mo_page_36 : decode prog_8_method_37_code 36 = .ok (.bipush 64, 2) := by decide +kernel
theorem d_Mo_page_38 : decode prog_8_method_37_code 38 = .ok (.iload_n 1, 1) := by decide +kernel
theorem d_Mo_page_39 : decode prog_8_method_37_code 39 = .ok (.imul, 1) := by decide +kernel
theorem d_Mo_page_40 : decode prog_8_method_37_code 40 = .ok (.istore 4, 2) := by decide +kernel
theorem d_Mo_page_42 : decode prog_8_method_37_code 42 = .ok (.iload 4, 2) := by decide +kernel
theorem d_Mo_page_44 : decode prog_8_method_37_code 44 = .ok (.bipush 64, 2) := by decide +kernel
theorem d_Mo_page_46 : decode prog_8_method_37_code 46 = .ok (.iload_n 1, 1) := by decide +kernel
theorem d_Mo_page_47 : decode prog_8_method_37_code 47 = .ok (.iconst 1, 1) := by decide +kernel
theorem d_Mo_page_48 : decode prog_8_method_37_code 48 = .ok (.iadd, 1) := by decide +kernel
theorem d_Mo_page_49 : decode prog_8_method_37_code 49 = .ok (.imul, 1) := by decide +kernel
theorem d_Mo_page_50 : decode prog_8_method_37_code 50 = .ok (.if_icmp .ge 42, 3) := by decide +kernel
theorem d_Mo_page_53 : decode prog_8_method_37_code 53 = .ok (.iload_n 3, 1) := by decide +kernel
theorem d_Mo_page_54 : decode prog_8_method_37_code 54 = .ok (.aload_n 0, 1) := by decide +kernel
theorem d_Mo_page_55 : decode prog_8_method_37_code 55 = .ok (.getfield 16, 3) := by decide +kernel
theorem d_Mo_page_58 : decode prog_8_method_37_code 58 = .ok (.iload 4, 2) := by decide +kernel
theorem d_Mo_page_60 : decode prog_8_method_37_code 60 = .ok (.iaload, 1) := by decide +kernel
theorem d_Mo_page_61 : decode prog_8_method_37_code 61 = .ok (.ifCond .eq 22, 3) := by decide +kernel
theorem d_Mo_page_64 : decode prog_8_method_37_code 64 = .ok (.iload_n 2, 1) := by decide +kernel
theorem d_Mo_page_65 : decode prog_8_method_37_code 65 = .ok (.iconst 1, 1) := by decide +kernel
theorem d_Mo_page_66 : decode prog_8_method_37_code 66 = .ok (.if_icmp .eq 13, 3) := by decide +kernel
theorem d_Mo_page_69 : decode prog_8_method_37_code 69 = .ok (.aload_n 0, 1) := by decide +kernel
theorem d_Mo_page_70 : decode prog_8_method_37_code 70 = .ok (.getfield 19, 3) := by decide +kernel
theorem d_Mo_page_73 : decode prog_8_method_37_code 73 = .ok (.iload 4, 2) := by decide +kernel
theorem d_Mo_page_75 : decode prog_8_method_37_code 75 = .ok (.baload, 1) := by decide +kernel
theorem d_Mo_page_76 : decode prog_8_method_37_code 76 = .ok (.ifCond .eq 7, 3) := by decide +kernel
theorem d_Mo_page_79 : decode prog_8_method_37_code 79 = .ok (.iconst 1, 1) := by decide +kernel
theorem d_Mo_page_80 : decode prog_8_method_37_code 80 = .ok (.goto 4, 3) := by decide +kernel
theorem d_Mo_page_83 : decode prog_8_method_37_code 83 = .ok (.iconst 0, 1) := by decide +kernel
theorem d_Mo_page_84 : decode prog_8_method_37_code 84 = .ok (.iadd, 1) := by decide +kernel
theorem d_Mo_page_85 : decode prog_8_method_37_code 85 = .ok (.istore_n 3, 1) := by decide +kernel
theorem d_Mo_page_86 : decode prog_8_method_37_code 86 = .ok (.iinc 4 1, 3) := by decide +kernel
theorem d_Mo_page_89 : decode prog_8_method_37_code 89 = .ok (.goto (-47), 3) := by decide +kernel
theorem d_Mo_page_92 : decode prog_8_method_37_code 92 = .ok (.iload_n 3, 1) := by decide +kernel
theorem d_Mo_page_93 : decode prog_8_method_37_code 93 = .ok (.ireturn, 1) := by decide +kernel
noncomputable def F_Mo_page_42 (K : Int32 → zM → Prop) (n : Nat) : Int32 → Int32 → Int32 → Int32 → zM → Prop := Nat.rec (motive := fun _ => Int32 → Int32 → Int32 → Int32 → zM → Prop) (fun _ _ _ _ _ => False) (fun _ ih x1 x2 x3 x4 μ => (((64 : Int32) * (x1 + (1 : Int32))) ≤ x4 → (K x3 μ)) ∧ (¬ ((64 : Int32) * (x1 + (1 : Int32))) ≤ x4 → (vp_in x4 4096 ∧ (((μ 22 x4.toNatClampNeg) = 0 → (∀ x10 : Int32, x10 = (x3 + (0 : Int32)) → (∀ x11 : Int32, x11 = x4 + 1 → (ih x1 x2 x10 x11 μ)))) ∧ (¬ (μ 22 x4.toNatClampNeg) = 0 → ((x2 = (1 : Int32) → (∀ x13 : Int32, x13 = (x3 + (1 : Int32)) → (∀ x14 : Int32, x14 = x4 + 1 → (ih x1 x2 x13 x14 μ)))) ∧ (¬ x2 = (1 : Int32) → (vp_in x4 4096 ∧ (((μ 23 x4.toNatClampNeg) = 0 → (∀ x17 : Int32, x17 = (x3 + (0 : Int32)) → (∀ x18 : Int32, x18 = x4 + 1 → (ih x1 x2 x17 x18 μ)))) ∧ (¬ (μ 23 x4.toNatClampNeg) = 0 → (∀ x19 : Int32, x19 = (x3 + (1 : Int32)) → (∀ x20 : Int32, x20 = x4 + 1 → (ih x1 x2 x19 x20 μ))))))))))))) n
def f_Mo_page (μ : zM) (a1 a2 : Int32) (K : Int32 → zM → Prop) : Prop := (a1 < 0 → (K (-1 : Int32) μ)) ∧ (¬ a1 < 0 → (((μ 19 0) ≤ a1 → (K (-1 : Int32) μ)) ∧ (¬ (μ 19 0) ≤ a1 → ((a2 < 0 → (K (-1 : Int32) μ)) ∧ (¬ a2 < 0 → ((a2 ≤ (2 : Int32) → ((¬ a2 = 0 → (∀ x6 : Int32, x6 = ((64 : Int32) * a1) → (∃ n : Nat, F_Mo_page_42 K n a1 a2 (0 : Int32) x6 μ))) ∧ (a2 = 0 → (vp_in a1 64 ∧ (K (μ 21 a1.toNatClampNeg) μ))))) ∧ (¬ a2 ≤ (2 : Int32) → (K (-1 : Int32) μ))))))))
set_option maxHeartbeats 4000000 in
set_option maxRecDepth 100000 in
theorem L_Mo_page_42 {p : Program} {l : Launch} {e : Env} {s : State} {m : MethodId} {args : Array Value} {below : List Frame} {meth : Method} {c : Code} {E : zE} (X : zX E p s m args c prog_8_method_37_code "BeatHeapModel" 5) (hr : meth.sig.returnType = (some .int)) (hlk : meth.locks = false) (K : Int32 → zM → Prop) : ∀ (n : Nat) (x1 x2 x3 x4 : Int32) (μ : zM) (H : Heap) (locs : List Loc) (ls : Array Slot), F_Mo_page_42 K n x1 x2 x3 x4 μ → zW zwM E s μ H locs → lv_has ls 5 [(0, .ref (E.2.1 19)), (1, .int x1), (2, .int x2), (3, .int x3), (4, .int x4)] → W p l e { frames := 0, cells := 0, slots := 0, locals := 0 } s m args below meth c H locs 0 0 (MQ below (va_Qi K (zR zwM E) (zA E)) args s 0 0 (zA E)) (F0 m 42 ls []) := by
  have hx := X.1
  have hb := X.2.1
  intro n
  induction n with
  | zero => intro x1 x2 x3 x4 μ H locs ls h; exact False.elim h
  | succ n ih =>
    intro x1 x2 x3 x4 μ H locs ls h w hl
    refine lv_iload hx hb d_Mo_page_42 (lv_at hl 4 rfl) ?_
    refine lv_bipush (v := 64) hx hb d_Mo_page_44 (by decide) ?_
    refine lv_iload_n hx hb d_Mo_page_46 rfl (lv_at hl 1 rfl) ?_
    refine lv_iconst (v := 1) hx hb d_Mo_page_47 (by decide) ?_
    refine lv_iadd hx hb d_Mo_page_48 ?_
    refine lv_imul hx hb d_Mo_page_49 ?_
    refine lv_icmp_ge (tgt := 92) hx hb d_Mo_page_50 (by decide) (fun c7 => ?_) (fun c7 => ?_)
    · have h := h.1 c7
      refine lv_iload_n hx hb d_Mo_page_92 rfl (lv_at hl 3 rfl) ?_
      exact z_iret X hr hlk w h d_Mo_page_93
    · have h := h.2 c7
      refine lv_iload_n hx hb d_Mo_page_53 rfl (lv_at hl 3 rfl) ?_
      refine lv_aload_n hx hb d_Mo_page_54 rfl (lv_at hl 0 rfl) ?_
      refine gt_19_6 X w w_fl_Mo_16 d_Mo_page_55 ?_
      refine lv_iload hx hb d_Mo_page_58 (lv_at hl 4 rfl) ?_
      obtain ⟨hi8, h⟩ := h
      refine al_22 X w hi8 d_Mo_page_60 ?_
      refine lv_if_eq (tgt := 83) hx hb d_Mo_page_61 (by decide) (fun c9 => ?_) (fun c9 => ?_)
      · have h := h.1 c9
        refine lv_iconst (v := 0) hx hb d_Mo_page_83 (by decide) ?_
        refine lv_iadd hx hb d_Mo_page_84 ?_
        refine lv_topi (fun x10 ex10 => ?_)
        have h := h x10 ex10
        refine lv_istore_n (lv' := [(3, .int x10), (0, .ref (E.2.1 19)), (1, .int x1), (2, .int x2), (4, .int x4)]) hx hb d_Mo_page_85 rfl hl (by decide) rfl (fun ls hl => ?_)
        obtain ⟨x11, ex11⟩ : ∃ y : Int32, y = x4 + 1 := ⟨_, rfl⟩
        have h := h x11 ex11
        refine lv_iinc (v := x11) (lv' := [(4, .int x11), (3, .int x10), (0, .ref (E.2.1 19)), (1, .int x1), (2, .int x2)]) hx hb d_Mo_page_86 hl (k := 4) rfl (by rw [ex11]; rfl) (by decide) rfl (fun ls hl => ?_)
        refine lv_goto (tgt := 42) hx hb d_Mo_page_89 (by decide) ?_
        exact ih x1 x2 x10 x11 μ _ _ _ h w (lv_sub hl [2, 3, 4, 1, 0] rfl)
      · have h := h.2 c9
        refine lv_iload_n hx hb d_Mo_page_64 rfl (lv_at hl 2 rfl) ?_
        refine lv_iconst (v := 1) hx hb d_Mo_page_65 (by decide) ?_
        refine lv_icmp_eq (tgt := 79) hx hb d_Mo_page_66 (by decide) (fun c12 => ?_) (fun c12 => ?_)
        · have h := h.1 c12
          refine lv_iconst (v := 1) hx hb d_Mo_page_79 (by decide) ?_
          refine lv_goto (tgt := 84) hx hb d_Mo_page_80 (by decide) ?_
          refine lv_iadd hx hb d_Mo_page_84 ?_
          refine lv_topi (fun x13 ex13 => ?_)
          have h := h x13 ex13
          refine lv_istore_n (lv' := [(3, .int x13), (0, .ref (E.2.1 19)), (1, .int x1), (2, .int x2), (4, .int x4)]) hx hb d_Mo_page_85 rfl hl (by decide) rfl (fun ls hl => ?_)
          obtain ⟨x14, ex14⟩ : ∃ y : Int32, y = x4 + 1 := ⟨_, rfl⟩
          have h := h x14 ex14
          refine lv_iinc (v := x14) (lv' := [(4, .int x14), (3, .int x13), (0, .ref (E.2.1 19)), (1, .int x1), (2, .int x2)]) hx hb d_Mo_page_86 hl (k := 4) rfl (by rw [ex14]; rfl) (by decide) rfl (fun ls hl => ?_)
          refine lv_goto (tgt := 42) hx hb d_Mo_page_89 (by decide) ?_
          exact ih x1 x2 x13 x14 μ _ _ _ h w (lv_sub hl [2, 3, 4, 1, 0] rfl)
        · have h := h.2 c12
          refine lv_aload_n hx hb d_Mo_page_69 rfl (lv_at hl 0 rfl) ?_
          refine gt_19_7 X w w_fl_Mo_19 d_Mo_page_70 ?_
          refine lv_iload hx hb d_Mo_page_73 (lv_at hl 4 rfl) ?_
          obtain ⟨hi15, h⟩ := h
          refine al_23 X w hi15 d_Mo_page_75 ?_
          refine lv_if_eq (tgt := 83) hx hb d_Mo_page_76 (by decide) (fun c16 => ?_) (fun c16 => ?_)
          · have h := h.1 c16
            refine lv_iconst (v := 0) hx hb d_Mo_page_83 (by decide) ?_
            refine lv_iadd hx hb d_Mo_page_84 ?_
            refine lv_topi (fun x17 ex17 => ?_)
            have h := h x17 ex17
            refine lv_istore_n (lv' := [(3, .int x17), (0, .ref (E.2.1 19)), (1, .int x1), (2, .int x2), (4, .int x4)]) hx hb d_Mo_page_85 rfl hl (by decide) rfl (fun ls hl => ?_)
            obtain ⟨x18, ex18⟩ : ∃ y : Int32, y = x4 + 1 := ⟨_, rfl⟩
            have h := h x18 ex18
            refine lv_iinc (v := x18) (lv' := [(4, .int x18), (3, .int x17), (0, .ref (E.2.1 19)), (1, .int x1), (2, .int x2)]) hx hb d_Mo_page_86 hl (k := 4) rfl (by rw [ex18]; rfl) (by decide) rfl (fun ls hl => ?_)
            refine lv_goto (tgt := 42) hx hb d_Mo_page_89 (by decide) ?_
            exact ih x1 x2 x17 x18 μ _ _ _ h w (lv_sub hl [2, 3, 4, 1, 0] rfl)
          · have h := h.2 c16
            refine lv_iconst (v := 1) hx hb d_Mo_page_79 (by decide) ?_
            refine lv_goto (tgt := 84) hx hb d_Mo_page_80 (by decide) ?_
            refine lv_iadd hx hb d_Mo_page_84 ?_
            refine lv_topi (fun x19 ex19 => ?_)
            have h := h x19 ex19
            refine lv_istore_n (lv' := [(3, .int x19), (0, .ref (E.2.1 19)), (1, .int x1), (2, .int x2), (4, .int x4)]) hx hb d_Mo_page_85 rfl hl (by decide) rfl (fun ls hl => ?_)
            obtain ⟨x20, ex20⟩ : ∃ y : Int32, y = x4 + 1 := ⟨_, rfl⟩
            have h := h x20 ex20
            refine lv_iinc (v := x20) (lv' := [(4, .int x20), (3, .int x19), (0, .ref (E.2.1 19)), (1, .int x1), (2, .int x2)]) hx hb d_Mo_page_86 hl (k := 4) rfl (by rw [ex20]; rfl) (by decide) rfl (fun ls hl => ?_)
            refine lv_goto (tgt := 42) hx hb d_Mo_page_89 (by decide) ?_
            exact ih x1 x2 x19 x20 μ _ _ _ h w (lv_sub hl [2, 3, 4, 1, 0] rfl)

set_option maxHeartbeats 4000000 in
set_option maxRecDepth 100000 in
theorem c_Mo_page (l : Launch) (E : zE) (μ : zM) (a1 a2 : Int32) (K : Int32 → zM → Prop) (h : f_Mo_page μ a1 a2 K) : Met l y_Mo_page (Cond.code y_Mo_page prog_8_method_37_code 5 (some .int) :: zT) { frames := 0, cells := 0, slots := 0, locals := 0 } (va_Pc [.ref (E.2.1 19), .int a1, .int a2] (zR zwM E μ)) (va_Qi K (zR zwM E) (zA E)) 0 0 (zA E) := by
  refine z_head (by decide) (Nat.le_of_ble_eq_true rfl) ?_
  intro p e s m below meth c X hr hlk w ls hl
  have X : zX E p s m _ c prog_8_method_37_code "BeatHeapModel" 5 := X
  have hx := X.1
  have hb := X.2.1
  have hl : lv_has ls 5 [(0, .ref (E.2.1 19)), (1, .int a1), (2, .int a2)] := hl
  unfold f_Mo_page at h
  refine lv_iload_n hx hb d_Mo_page_0 rfl (lv_at hl 1 rfl) ?_
  refine lv_if_lt (tgt := 21) hx hb d_Mo_page_1 (by decide) (fun c1 => ?_) (fun c1 => ?_)
  · have h := h.1 c1
    refine lv_iconst (v := (-1)) hx hb d_Mo_page_21 (by decide) ?_
    exact z_iret X hr hlk w h d_Mo_page_22
  · have h := h.2 c1
    refine lv_iload_n hx hb d_Mo_page_4 rfl (lv_at hl 1 rfl) ?_
    refine lv_aload_n hx hb d_Mo_page_5 rfl (lv_at hl 0 rfl) ?_
    refine gt_19_0 X w w_fl_Mo_45 d_Mo_page_6 ?_
    refine lv_icmp_ge (tgt := 21) hx hb d_Mo_page_9 (by decide) (fun c2 => ?_) (fun c2 => ?_)
    · have h := h.1 c2
      refine lv_iconst (v := (-1)) hx hb d_Mo_page_21 (by decide) ?_
      exact z_iret X hr hlk w h d_Mo_page_22
    · have h := h.2 c2
      refine lv_iload_n hx hb d_Mo_page_12 rfl (lv_at hl 2 rfl) ?_
      refine lv_if_lt (tgt := 21) hx hb d_Mo_page_13 (by decide) (fun c3 => ?_) (fun c3 => ?_)
      · have h := h.1 c3
        refine lv_iconst (v := (-1)) hx hb d_Mo_page_21 (by decide) ?_
        exact z_iret X hr hlk w h d_Mo_page_22
      · have h := h.2 c3
        refine lv_iload_n hx hb d_Mo_page_16 rfl (lv_at hl 2 rfl) ?_
        refine lv_iconst (v := 2) hx hb d_Mo_page_17 (by decide) ?_
        refine lv_icmp_le (tgt := 23) hx hb d_Mo_page_18 (by decide) (fun c4 => ?_) (fun c4 => ?_)
        · have h := h.1 c4
          refine lv_iload_n hx hb d_Mo_page_23 rfl (lv_at hl 2 rfl) ?_
          refine lv_if_ne (tgt := 34) hx hb d_Mo_page_24 (by decide) (fun c5 => ?_) (fun c5 => ?_)
          · have h := h.1 c5
            refine lv_iconst (v := 0) hx hb d_Mo_page_34 (by decide) ?_
            refine lv_istore_n (lv' := [(3, .int (0 : Int32)), (0, .ref (E.2.1 19)), (1, .int a1), (2, .int a2)]) hx hb d_Mo_page_35 rfl hl (by decide) rfl (fun ls hl => ?_)
            refine lv_bipush (v := 64) hx hb d_Mo_page_36 (by decide) ?_
            refine lv_iload_n hx hb d_Mo_page_38 rfl (lv_at hl 2 rfl) ?_
            refine lv_imul hx hb d_Mo_page_39 ?_
            refine lv_topi (fun x6 ex6 => ?_)
            have h := h x6 ex6
            refine lv_istore (lv' := [(4, .int x6), (3, .int (0 : Int32)), (0, .ref (E.2.1 19)), (1, .int a1), (2, .int a2)]) hx hb d_Mo_page_40 hl (by decide) rfl (fun ls hl => ?_)
            obtain ⟨n, h⟩ := h
            exact L_Mo_page_42 X hr hlk K n a1 a2 (0 : Int32) x6 μ _ _ _ h w (lv_sub hl [2, 3, 4, 1, 0] rfl)
          · have h := h.2 c5
            refine lv_aload_n hx hb d_Mo_page_27 rfl (lv_at hl 0 rfl) ?_
            refine gt_19_5 X w w_fl_Mo_13 d_Mo_page_28 ?_
            refine lv_iload_n hx hb d_Mo_page_31 rfl (lv_at hl 1 rfl) ?_
            obtain ⟨hi21, h⟩ := h
            refine al_21 X w hi21 d_Mo_page_32 ?_
            exact z_iret X hr hlk w h d_Mo_page_33
        · have h := h.2 c4
          refine lv_iconst (v := (-1)) hx hb d_Mo_page_21 (by decide) ?_
          exact z_iret X hr hlk w h d_Mo_page_22
theorem q_Mo_count : (y_Mo_count.cls ≠ "java/lang/invoke/MethodHandle" ∧ y_Mo_count.cls ≠ "java/lang/invoke/VarHandle") ∧ (parseMethodDescriptor y_Mo_count.desc).map (fun d => d.parameters.length) = some 1 := by decide +kernel
theorem d_Mo_count_0 : decode prog_8_method_38_code 0 = .ok (.iload_n 1, 1) := by decide +kernel
theorem d_Mo_count_1 : decode prog_8_method_38_code 1 = .ok (.tableswitch 206 0 12 #[67, 77, 82, 87, 92, 97, 113, 118, 146, 162, 167, 172, 189], 67) := by decide +kernel
theorem d_Mo_count_68 : decode prog_8_method_38_code 68 = .ok (.aload_n 0, 1) := by decide +kernel
theorem d_Mo_count_69 : decode prog_8_method_38_code 69 = .ok (.getfield 82, 3) := by decide +kernel
theorem d_Mo_count_72 : decode prog_8_method_38_code 72 = .ok (.aload_n 0, 1) := by decide +kernel
theorem d_Mo_count_73 : decode prog_8_method_38_code 73 = .ok (.getfield 85, 3) := by decide +kernel
theorem d_Mo_count_76 : decode prog_8_method_38_code 76 = .ok (.iadd, 1) := by decide +kernel
theorem d_Mo_count_77 : decode prog_8_method_38_code 77 = .ok (.ireturn, 1) := by decide +kernel
theorem d_Mo_count_78 : decode prog_8_method_38_code 78 = .ok (.aload_n 0, 1) := by decide +kernel
theorem d_Mo_count_79 : decode prog_8_method_38_code 79 = .ok (.getfield 82, 3) := by decide +kernel
theorem d_Mo_count_82 : decode prog_8_method_38_code 82 = .ok (.ireturn, 1) := by decide +kernel
theorem d_Mo_count_83 : decode prog_8_method_38_code 83 = .ok (.aload_n 0, 1) := by decide +kernel
theorem d_Mo_count_84 : decode prog_8_method_38_code 84 = .ok (.getfield 85, 3) := by decide +kernel
theorem d_Mo_count_87 : decode prog_8_method_38_code 87 = .ok (.ireturn, 1) := by decide +kernel
theorem d_Mo_count_88 : decode prog_8_method_38_code 88 = .ok (.aload_n 0, 1) := by decide +kernel
theorem d_Mo_count_89 : decode prog_8_method_38_code 89 = .ok (.getfield 61, 3) := by decide +kernel
theorem d_Mo_count_92 : decode prog_8_method_38_code 92 = .ok (.ireturn, 1) := by decide +kernel
theorem d_Mo_count_93 : decode prog_8_method_38_code 93 = .ok (.aload_n 0, 1) := by decide +kernel
theorem d_Mo_count_94 : decode prog_8_method_38_code 94 = .ok (.getfield 73, 3) := by decide +kernel
theorem d_Mo_count_97 : decode prog_8_method_38_code 97 = .ok (.ireturn, 1) := by decide +kernel
theorem d_Mo_count_98 : decode prog_8_method_38_code 98 = .ok (.aload_n 0, 1) := by decide +kernel
theorem d_Mo_count_99 : decode prog_8_method_38_code 99 = .ok (.getfield 61, 3) := by decide +kernel
theorem d_Mo_count_102 : decode prog_8_method_38_code 102 = .ok (.ifCond .ne 7, 3) := by decide +kernel
theorem d_Mo_count_105 : decode prog_8_method_38_code 105 = .ok (.iconst 0, 1) := by decide +kernel
theorem d_Mo_count_106 : decode prog_8_method_38_code 106 = .ok (.goto 7, 3) := by decide +kernel
theorem d_Mo_count_109 : decode prog_8_method_38_code 109 = .ok (.aload_n 0, 1) := by decide +kernel
theorem d_Mo_count_110 : decode prog_8_method_38_code 110 = .ok (.getfield 70, 3) := by decide +kernel
theorem d_Mo_count_113 : decode prog_8_method_38_code 113 = .ok (.ireturn, 1) := by decide +kernel
theorem d_Mo_count_114 : decode prog_8_method_38_code 114 = .ok (.aload_n 0, 1) := by decide +kernel
theorem d_Mo_count_115 : decode prog_8_method_38_code 115 = .ok (.invokevirtual 102, 3) := by decide +kernel
theorem d_Mo_count_118 : decode prog_8_method_38_code 118 = .ok (.ireturn, 1) := by decide +kernel
theorem d_Mo_count_119 : decode prog_8_method_38_code 119 = .ok (.iconst 0, 1) := by decide +kernel
theorem d_Mo_count_120 : decode prog_8_method_38_code 120 = .ok (.istore_n 2, 1) := by decide +kernel
theorem d_Mo_count_121 : decode prog_8_method_38_code 121 = .ok (.iconst 0, 1) := by decide +kernel
theorem d_Mo_count_122 : decode prog_8_method_38_code 122 = .ok (.istore_n 3, 1) := by decide +kernel
theorem d_Mo_count_123 : decode prog_8_method_38_code 123 = .ok (.iload_n 3, 1) := by decide +kernel
theorem d_Mo_count_124 : decode prog_8_method_38_code 124 = .ok (.aload_n 0, 1) := by decide +kernel
theorem d_Mo_count_125 : decode prog_8_method_38_code 125 = .ok (.getfield 45, 3) := by decide +kernel
theorem d_Mo_count_128 : decode prog_8_method_38_code 128 = .ok (.if_icmp .ge 17, 3) := by decide +kernel
theorem d_Mo_count_131 : decode prog_8_method_38_code 131 = .ok (.iload_n 2, 1) := by decide +kernel
theorem d_Mo_count_132 : decode prog_8_method_38_code 132 = .ok (.aload_n 0, 1) := by decide +kernel
theorem d_Mo_count_133 : decode prog_8_method_38_code 133 = .ok (.iload_n 3, 1) := by decide +kernel
theorem d_Mo_count_134 : decode prog_8_method_38_code 134 = .ok (.invokevirtual 128, 3) := by decide +kernel
theorem d_Mo_count_137 : decode prog_8_method_38_code 137 = .ok (.iadd, 1) := by decide +kernel
theorem d_Mo_count_138 : decode prog_8_method_38_code 138 = .ok (.istore_n 2, 1) := by decide +kernel
theorem d_Mo_count_139 : decode prog_8_method_38_code 139 = .ok (.iinc 3 1, 3) := by decide +kernel
theorem d_Mo_count_142 : decode prog_8_method_38_code 142 = .ok (.goto (-19), 3) := by decide +kernel
theorem d_Mo_count_145 : decode prog_8_method_38_code 145 = .ok (.iload_n 2, 1) := by decide +kernel
theorem d_Mo_count_146 : decode prog_8_method_38_code 146 = .ok (.ireturn, 1) := by decide +kernel
theorem d_Mo_count_147 : decode prog_8_method_38_code 147 = .ok (.aload_n 0, 1) := by decide +kernel
theorem d_Mo_count_148 : decode prog_8_method_38_code 148 = .ok (.getfield 61, 3) := by decide +kernel
theorem d_Mo_count_151 : decode prog_8_method_38_code 151 = .ok (.ifCond .ne 7, 3) := by decide +kernel
theorem d_Mo_count_154 : decode prog_8_method_38_code 154 = .ok (.iconst 0, 1) := by decide +kernel
theorem d_Mo_count_155 : decode prog_8_method_38_code 155 = .ok (.goto 7, 3) := by decide +kernel
theorem d_Mo_count_158 : decode prog_8_method_38_code 158 = .ok (.aload_n 0, 1) := by decide +kernel
theorem d_Mo_count_159 : decode prog_8_method_38_code 159 = .ok (.getfield 58, 3) := by decide +kernel
theorem d_Mo_count_162 : decode prog_8_method_38_code 162 = .ok (.ireturn, 1) := by decide +kernel
theorem d_Mo_count_163 : decode prog_8_method_38_code 163 = .ok (.aload_n 0, 1) := by decide +kernel
theorem d_Mo_count_164 : decode prog_8_method_38_code 164 = .ok (.getfield 76, 3) := by decide +kernel
theorem d_Mo_count_167 : decode prog_8_method_38_code 167 = .ok (.ireturn, 1) := by decide +kernel
theorem d_Mo_count_168 : decode prog_8_method_38_code 168 = .ok (.aload_n 0, 1) := by decide +kernel
theorem d_Mo_count_169 : decode prog_8_method_38_code 169 = .ok (.getfield 79, 3) := by decide +kernel
theorem d_Mo_count_172 : decode prog_8_method_38_code 172 = .ok (.ireturn, 1) := by decide +kernel
theorem d_Mo_count_173 : decode prog_8_method_38_code 173 = .ok (.aload_n 0, 1) := by decide +kernel
theorem d_Mo_count_174 : decode prog_8_method_38_code 174 = .ok (.getfield 61, 3) := by decide +kernel
theorem d_Mo_count_177 : decode prog_8_method_38_code 177 = .ok (.iconst 2, 1) := by decide +kernel
theorem d_Mo_count_178 : decode prog_8_method_38_code 178 = .ok (.if_icmp .ne 10, 3) := by decide +kernel
theorem d_Mo_count_181 : decode prog_8_method_38_code 181 = .ok (.aload_n 0, 1) := by decide +kernel
theorem d_Mo_count_182 : decode prog_8_method_38_code 182 = .ok (.getfield 64, 3) := by decide +kernel
theorem d_Mo_count_185 : decode prog_8_method_38_code 185 = .ok (.goto 4, 3) := by decide +kernel
theorem d_Mo_count_188 : decode prog_8_method_38_code 188 = .ok (.iconst (-1), 1) := by decide +kernel
theorem d_Mo_count_189 : decode prog_8_method_38_code 189 = .ok (.ireturn, 1) := by decide +kernel
theorem d_Mo_count_190 : decode prog_8_method_38_code 190 = .ok (.aload_n 0, 1) := by decide +kernel
theorem d_Mo_count_191 : decode prog_8_method_38_code 191 = .ok (.getfield 61, 3) := by decide +kernel
theorem d_Mo_count_194 : decode prog_8_method_38_code 194 = .ok (.iconst 3, 1) := by decide +kernel
theorem d_Mo_count_195 : decode prog_8_method_38_code 195 = .ok (.if_icmp .ne 10, 3) := by decide +kernel
theorem d_Mo_count_198 : decode prog_8_method_38_code 198 = .ok (.aload_n 0, 1) := by decide +kernel
theorem d_Mo_count_199 : decode prog_8_method_38_code 199 = .ok (.invokevirtual 119, 3) := by decide +kernel
theorem d_Mo_count_202 : decode prog_8_method_38_code 202 = .ok (.goto 4, 3) := by decide +kernel
theorem d_Mo_count_205 : decode prog_8_method_38_code 205 = .ok (.iconst (-1), 1) := by decide +kernel
theorem d_Mo_count_206 : decode prog_8_method_38_code 206 = .ok (.ireturn, 1) := by decide +kernel
theorem d_Mo_count_207 : decode prog_8_method_38_code 207 = .ok (.iconst (-1), 1) := by decide +kernel
theorem d_Mo_count_208 : decode prog_8_method_38_code 208 = .ok (.ireturn, 1) := by decide +kernel
noncomputable def F_Mo_count_123 (K : Int32 → zM → Prop) (n : Nat) : Int32 → Int32 → zM → Prop := Nat.rec (motive := fun _ => Int32 → Int32 → zM → Prop) (fun _ _ _ => False) (fun _ ih x2 x3 μ => ((μ 19 0) ≤ x3 → (K x2 μ)) ∧ (¬ (μ 19 0) ≤ x3 → (f_Mo_holding μ x3 (fun r14 μ13 => (∀ x15 : Int32, x15 = (x2 + r14) → (∀ x16 : Int32, x16 = x3 + 1 → (ih x15 x16 μ13))))))) n
def f_Mo_count (μ : zM) (a1 : Int32) (K : Int32 → zM → Prop) : Prop := (a1.toInt = 0 → (K ((μ 19 22) + (μ 19 23)) μ)) ∧ (a1.toInt = 1 → (K (μ 19 22) μ)) ∧ (a1.toInt = 2 → (K (μ 19 23) μ)) ∧ (a1.toInt = 3 → (K (μ 19 13) μ)) ∧ (a1.toInt = 4 → (K (μ 19 19) μ)) ∧ (a1.toInt = 5 → ((¬ (μ 19 13) = 0 → (K (μ 19 18) μ)) ∧ ((μ 19 13) = 0 → (K (0 : Int32) μ)))) ∧ (a1.toInt = 6 → (f_Mo_freePages μ (fun r10 μ9 => (K r10 μ9)))) ∧ (a1.toInt = 7 → (∃ n : Nat, F_Mo_count_123 K n (0 : Int32) (0 : Int32) μ)) ∧ (a1.toInt = 8 → ((¬ (μ 19 13) = 0 → (K (μ 19 12) μ)) ∧ ((μ 19 13) = 0 → (K (0 : Int32) μ)))) ∧ (a1.toInt = 9 → (K (μ 19 20) μ)) ∧ (a1.toInt = 10 → (K (μ 19 21) μ)) ∧ (a1.toInt = 11 → ((¬ (μ 19 13) = (2 : Int32) → (K (-1 : Int32) μ)) ∧ ((μ 19 13) = (2 : Int32) → (K (μ 19 15) μ)))) ∧ (a1.toInt = 12 → ((¬ (μ 19 13) = (3 : Int32) → (K (-1 : Int32) μ)) ∧ ((μ 19 13) = (3 : Int32) → (f_Mo_nextBlock μ (fun r26 μ25 => (K r26 μ25)))))) ∧ (¬ a1.toInt = 0 → ¬ a1.toInt = 1 → ¬ a1.toInt = 2 → ¬ a1.toInt = 3 → ¬ a1.toInt = 4 → ¬ a1.toInt = 5 → ¬ a1.toInt = 6 → ¬ a1.toInt = 7 → ¬ a1.toInt = 8 → ¬ a1.toInt = 9 → ¬ a1.toInt = 10 → ¬ a1.toInt = 11 → ¬ a1.toInt = 12 → (K (-1 : Int32) μ))
set_option maxHeartbeats 4000000 in
set_option maxRecDepth 100000 in
theorem L_Mo_count_123 {p : Program} {l : Launch} {e : Env} {s : State} {m : MethodId} {args : Array Value} {below : List Frame} {meth : Method} {c : Code} {E : zE} (X : zX E p s m args c prog_8_method_38_code "BeatHeapModel" 4) (hr : meth.sig.returnType = (some .int)) (hlk : meth.locks = false) (K : Int32 → zM → Prop) : ∀ (n : Nat) (x2 x3 : Int32) (μ : zM) (H : Heap) (locs : List Loc) (ls : Array Slot), F_Mo_count_123 K n x2 x3 μ → zW zwM E s μ H locs → lv_has ls 4 [(0, .ref (E.2.1 19)), (2, .int x2), (3, .int x3)] → W p l e { frames := 1, cells := 0, slots := 0, locals := 23 } s m args below meth c H locs 0 0 (MQ below (va_Qi K (zR zwM E) (zA E)) args s 0 0 (zA E)) (F0 m 123 ls []) := by
  have hx := X.1
  have hb := X.2.1
  intro n
  induction n with
  | zero => intro x2 x3 μ H locs ls h; exact False.elim h
  | succ n ih =>
    intro x2 x3 μ H locs ls h w hl
    refine lv_iload_n hx hb d_Mo_count_123 rfl (lv_at hl 2 rfl) ?_
    refine lv_aload_n hx hb d_Mo_count_124 rfl (lv_at hl 0 rfl) ?_
    refine gt_19_0 X w w_fl_Mo_45 d_Mo_count_125 ?_
    refine lv_icmp_ge (tgt := 145) hx hb d_Mo_count_128 (by decide) (fun c12 => ?_) (fun c12 => ?_)
    · have h := h.1 c12
      refine lv_iload_n hx hb d_Mo_count_145 rfl (lv_at hl 1 rfl) ?_
      exact z_iret X hr hlk w h d_Mo_count_146
    · have h := h.2 c12
      refine lv_iload_n hx hb d_Mo_count_131 rfl (lv_at hl 1 rfl) ?_
      refine lv_aload_n hx hb d_Mo_count_132 rfl (lv_at hl 0 rfl) ?_
      refine lv_iload_n hx hb d_Mo_count_133 rfl (lv_at hl 2 rfl) ?_
      refine z_cVi (As := [.int x3]) (rest := [.int x2]) (q0 := 0) (ci := 6) X w (c_Mo_holding l E μ x3 _ h) rfl rfl rfl w_ml_Mo_128 ⟨w_im_Mo_holding, w_se_Mo_holding⟩ w_in_Mo w_co_Mo_holding q_Mo_holding.1 q_Mo_holding.2 rfl ⟨Nat.le_of_ble_eq_true rfl, Nat.le_of_ble_eq_true rfl⟩ ⟨Nat.zero_le _, Nat.zero_le _⟩ hl.1 rfl (Nat.le_of_ble_eq_true rfl) d_Mo_count_134 (fun r14 μ13 H locs h w => ?_)
      refine lv_iadd hx hb d_Mo_count_137 ?_
      refine lv_topi (fun x15 ex15 => ?_)
      have h := h x15 ex15
      refine lv_istore_n (lv' := [(2, .int x15), (0, .ref (E.2.1 19)), (3, .int x3)]) hx hb d_Mo_count_138 rfl hl (by decide) rfl (fun ls hl => ?_)
      obtain ⟨x16, ex16⟩ : ∃ y : Int32, y = x3 + 1 := ⟨_, rfl⟩
      have h := h x16 ex16
      refine lv_iinc (v := x16) (lv' := [(3, .int x16), (2, .int x15), (0, .ref (E.2.1 19))]) hx hb d_Mo_count_139 hl (k := 2) rfl (by rw [ex16]; rfl) (by decide) rfl (fun ls hl => ?_)
      refine lv_goto (tgt := 123) hx hb d_Mo_count_142 (by decide) ?_
      exact ih x15 x16 μ13 _ _ _ h w (lv_sub hl [2, 1, 0] rfl)

set_option maxHeartbeats 4000000 in
set_option maxRecDepth 100000 in
theorem c_Mo_count (l : Launch) (E : zE) (μ : zM) (a1 : Int32) (K : Int32 → zM → Prop) (h : f_Mo_count μ a1 K) : Met l y_Mo_count (Cond.code y_Mo_count prog_8_method_38_code 4 (some .int) :: zT) { frames := 1, cells := 0, slots := 0, locals := 23 } (va_Pc [.ref (E.2.1 19), .int a1] (zR zwM E μ)) (va_Qi K (zR zwM E) (zA E)) 0 0 (zA E) := by
  refine z_head (by decide) (Nat.le_of_ble_eq_true rfl) ?_
  intro p e s m below meth c X hr hlk w ls hl
  have X : zX E p s m _ c prog_8_method_38_code "BeatHeapModel" 4 := X
  have hx := X.1
  have hb := X.2.1
  have hl : lv_has ls 4 [(0, .ref (E.2.1 19)), (1, .int a1)] := hl
  unfold f_Mo_count at h
  refine lv_iload_n hx hb d_Mo_count_0 rfl (lv_at hl 1 rfl) ?_
  by_cases c1 : a1.toInt = 0
  · have h := h.1 c1
    refine lv_tableIn (tgt := 68) hx hb d_Mo_count_1 (by omega) (by omega) (off := 67) (by rw [c1]; rfl) (by decide) ?_
    refine lv_aload_n hx hb d_Mo_count_68 rfl (lv_at hl 0 rfl) ?_
    refine gt_19_22 X w w_fl_Mo_82 d_Mo_count_69 ?_
    refine lv_aload_n hx hb d_Mo_count_72 rfl (lv_at hl 0 rfl) ?_
    refine gt_19_23 X w w_fl_Mo_85 d_Mo_count_73 ?_
    refine lv_iadd hx hb d_Mo_count_76 ?_
    exact z_iret X hr hlk w h d_Mo_count_77
  by_cases c2 : a1.toInt = 1
  · have h := h.2.1 c2
    refine lv_tableIn (tgt := 78) hx hb d_Mo_count_1 (by omega) (by omega) (off := 77) (by rw [c2]; rfl) (by decide) ?_
    refine lv_aload_n hx hb d_Mo_count_78 rfl (lv_at hl 0 rfl) ?_
    refine gt_19_22 X w w_fl_Mo_82 d_Mo_count_79 ?_
    exact z_iret X hr hlk w h d_Mo_count_82
  by_cases c3 : a1.toInt = 2
  · have h := h.2.2.1 c3
    refine lv_tableIn (tgt := 83) hx hb d_Mo_count_1 (by omega) (by omega) (off := 82) (by rw [c3]; rfl) (by decide) ?_
    refine lv_aload_n hx hb d_Mo_count_83 rfl (lv_at hl 0 rfl) ?_
    refine gt_19_23 X w w_fl_Mo_85 d_Mo_count_84 ?_
    exact z_iret X hr hlk w h d_Mo_count_87
  by_cases c4 : a1.toInt = 3
  · have h := h.2.2.2.1 c4
    refine lv_tableIn (tgt := 88) hx hb d_Mo_count_1 (by omega) (by omega) (off := 87) (by rw [c4]; rfl) (by decide) ?_
    refine lv_aload_n hx hb d_Mo_count_88 rfl (lv_at hl 0 rfl) ?_
    refine gt_19_13 X w w_fl_Mo_61 d_Mo_count_89 ?_
    exact z_iret X hr hlk w h d_Mo_count_92
  by_cases c5 : a1.toInt = 4
  · have h := h.2.2.2.2.1 c5
    refine lv_tableIn (tgt := 93) hx hb d_Mo_count_1 (by omega) (by omega) (off := 92) (by rw [c5]; rfl) (by decide) ?_
    refine lv_aload_n hx hb d_Mo_count_93 rfl (lv_at hl 0 rfl) ?_
    refine gt_19_19 X w w_fl_Mo_73 d_Mo_count_94 ?_
    exact z_iret X hr hlk w h d_Mo_count_97
  by_cases c6 : a1.toInt = 5
  · have h := h.2.2.2.2.2.1 c6
    refine lv_tableIn (tgt := 98) hx hb d_Mo_count_1 (by omega) (by omega) (off := 97) (by rw [c6]; rfl) (by decide) ?_
    refine lv_aload_n hx hb d_Mo_count_98 rfl (lv_at hl 0 rfl) ?_
    refine gt_19_13 X w w_fl_Mo_61 d_Mo_count_99 ?_
    refine lv_if_ne (tgt := 109) hx hb d_Mo_count_102 (by decide) (fun c7 => ?_) (fun c7 => ?_)
    · have h := h.1 c7
      refine lv_aload_n hx hb d_Mo_count_109 rfl (lv_at hl 0 rfl) ?_
      refine gt_19_18 X w w_fl_Mo_70 d_Mo_count_110 ?_
      exact z_iret X hr hlk w h d_Mo_count_113
    · have h := h.2 c7
      refine lv_iconst (v := 0) hx hb d_Mo_count_105 (by decide) ?_
      refine lv_goto (tgt := 113) hx hb d_Mo_count_106 (by decide) ?_
      exact z_iret X hr hlk w h d_Mo_count_113
  by_cases c8 : a1.toInt = 6
  · have h := h.2.2.2.2.2.2.1 c8
    refine lv_tableIn (tgt := 114) hx hb d_Mo_count_1 (by omega) (by omega) (off := 113) (by rw [c8]; rfl) (by decide) ?_
    refine lv_aload_n hx hb d_Mo_count_114 rfl (lv_at hl 0 rfl) ?_
    refine z_cVi (As := []) (rest := []) (q0 := 0) (ci := 6) X w (c_Mo_freePages l E μ _ h) rfl rfl rfl w_ml_Mo_102 ⟨w_im_Mo_freePages, w_se_Mo_freePages⟩ w_in_Mo w_co_Mo_freePages q_Mo_freePages.1 q_Mo_freePages.2 rfl ⟨Nat.le_of_ble_eq_true rfl, Nat.le_of_ble_eq_true rfl⟩ ⟨Nat.zero_le _, Nat.zero_le _⟩ hl.1 rfl (Nat.le_of_ble_eq_true rfl) d_Mo_count_115 (fun r10 μ9 H locs h w => ?_)
    exact z_iret X hr hlk w h d_Mo_count_118
  by_cases c11 : a1.toInt = 7
  · have h := h.2.2.2.2.2.2.2.1 c11
    refine lv_tableIn (tgt := 119) hx hb d_Mo_count_1 (by omega) (by omega) (off := 118) (by rw [c11]; rfl) (by decide) ?_
    refine lv_iconst (v := 0) hx hb d_Mo_count_119 (by decide) ?_
    refine lv_istore_n (lv' := [(2, .int (0 : Int32)), (0, .ref (E.2.1 19)), (1, .int a1)]) hx hb d_Mo_count_120 rfl hl (by decide) rfl (fun ls hl => ?_)
    refine lv_iconst (v := 0) hx hb d_Mo_count_121 (by decide) ?_
    refine lv_istore_n (lv' := [(3, .int (0 : Int32)), (2, .int (0 : Int32)), (0, .ref (E.2.1 19)), (1, .int a1)]) hx hb d_Mo_count_122 rfl hl (by decide) rfl (fun ls hl => ?_)
    obtain ⟨n, h⟩ := h
    exact L_Mo_count_123 X hr hlk K n (0 : Int32) (0 : Int32) μ _ _ _ h w (lv_sub hl [2, 1, 0] rfl)
  by_cases c17 : a1.toInt = 8
  · have h := h.2.2.2.2.2.2.2.2.1 c17
    refine lv_tableIn (tgt := 147) hx hb d_Mo_count_1 (by omega) (by omega) (off := 146) (by rw [c17]; rfl) (by decide) ?_
    refine lv_aload_n hx hb d_Mo_count_147 rfl (lv_at hl 0 rfl) ?_
    refine gt_19_13 X w w_fl_Mo_61 d_Mo_count_148 ?_
    refine lv_if_ne (tgt := 158) hx hb d_Mo_count_151 (by decide) (fun c18 => ?_) (fun c18 => ?_)
    · have h := h.1 c18
      refine lv_aload_n hx hb d_Mo_count_158 rfl (lv_at hl 0 rfl) ?_
      refine gt_19_12 X w w_fl_Mo_58 d_Mo_count_159 ?_
      exact z_iret X hr hlk w h d_Mo_count_162
    · have h := h.2 c18
      refine lv_iconst (v := 0) hx hb d_Mo_count_154 (by decide) ?_
      refine lv_goto (tgt := 162) hx hb d_Mo_count_155 (by decide) ?_
      exact z_iret X hr hlk w h d_Mo_count_162
  by_cases c19 : a1.toInt = 9
  · have h := h.2.2.2.2.2.2.2.2.2.1 c19
    refine lv_tableIn (tgt := 163) hx hb d_Mo_count_1 (by omega) (by omega) (off := 162) (by rw [c19]; rfl) (by decide) ?_
    refine lv_aload_n hx hb d_Mo_count_163 rfl (lv_at hl 0 rfl) ?_
    refine gt_19_20 X w w_fl_Mo_76 d_Mo_count_164 ?_
    exact z_iret X hr hlk w h d_Mo_count_167
  by_cases c20 : a1.toInt = 10
  · have h := h.2.2.2.2.2.2.2.2.2.2.1 c20
    refine lv_tableIn (tgt := 168) hx hb d_Mo_count_1 (by omega) (by omega) (off := 167) (by rw [c20]; rfl) (by decide) ?_
    refine lv_aload_n hx hb d_Mo_count_168 rfl (lv_at hl 0 rfl) ?_
    refine gt_19_21 X w w_fl_Mo_79 d_Mo_count_169 ?_
    exact z_iret X hr hlk w h d_Mo_count_172
  by_cases c21 : a1.toInt = 11
  · have h := h.2.2.2.2.2.2.2.2.2.2.2.1 c21
    refine lv_tableIn (tgt := 173) hx hb d_Mo_count_1 (by omega) (by omega) (off := 172) (by rw [c21]; rfl) (by decide) ?_
    refine lv_aload_n hx hb d_Mo_count_173 rfl (lv_at hl 0 rfl) ?_
    refine gt_19_13 X w w_fl_Mo_61 d_Mo_count_174 ?_
    refine lv_iconst (v := 2) hx hb d_Mo_count_177 (by decide) ?_
    refine lv_icmp_ne (tgt := 188) hx hb d_Mo_count_178 (by decide) (fun c22 => ?_) (fun c22 => ?_)
    · have h := h.1 c22
      refine lv_iconst (v := (-1)) hx hb d_Mo_count_188 (by decide) ?_
      exact z_iret X hr hlk w h d_Mo_count_189
    · have h := h.2 c22
      refine lv_aload_n hx hb d_Mo_count_181 rfl (lv_at hl 0 rfl) ?_
      refine gt_19_15 X w w_fl_Mo_64 d_Mo_count_182 ?_
      refine lv_goto (tgt := 189) hx hb d_Mo_count_185 (by decide) ?_
      exact z_iret X hr hlk w h d_Mo_count_189
  by_cases c23 : a1.toInt = 12
  · have h := h.2.2.2.2.2.2.2.2.2.2.2.2.1 c23
    refine lv_tableIn (tgt := 190) hx hb d_Mo_count_1 (by omega) (by omega) (off := 189) (by rw [c23]; rfl) (by decide) ?_
    refine lv_aload_n hx hb d_Mo_count_190 rfl (lv_at hl 0 rfl) ?_
    refine gt_19_13 X w w_fl_Mo_61 d_Mo_count_191 ?_
    refine lv_iconst (v := 3) hx hb d_Mo_count_194 (by decide) ?_
    refine lv_icmp_ne (tgt := 205) hx hb d_Mo_count_195 (by decide) (fun c24 => ?_) (fun c24 => ?_)
    · have h := h.1 c24
      refine lv_iconst (v := (-1)) hx hb d_Mo_count_205 (by decide) ?_
      exact z_iret X hr hlk w h d_Mo_count_206
    · have h := h.2 c24
      refine lv_aload_n hx hb d_Mo_count_198 rfl (lv_at hl 0 rfl) ?_
      refine z_cVi (As := []) (rest := []) (q0 := 0) (ci := 6) X w (c_Mo_nextBlock l E μ _ h) rfl rfl rfl w_ml_Mo_119 ⟨w_im_Mo_nextBlock, w_se_Mo_nextBlock⟩ w_in_Mo w_co_Mo_nextBlock q_Mo_nextBlock.1 q_Mo_nextBlock.2 rfl ⟨Nat.le_of_ble_eq_true rfl, Nat.le_of_ble_eq_true rfl⟩ ⟨Nat.zero_le _, Nat.zero_le _⟩ hl.1 rfl (Nat.le_of_ble_eq_true rfl) d_Mo_count_199 (fun r26 μ25 H locs h w => ?_)
      refine lv_goto (tgt := 206) hx hb d_Mo_count_202 (by decide) ?_
      exact z_iret X hr hlk w h d_Mo_count_206
  have h := h.2.2.2.2.2.2.2.2.2.2.2.2.2 c1 c2 c3 c4 c5 c6 c8 c11 c17 c19 c20 c21 c23
  refine lv_tableOut (tgt := 207) hx hb d_Mo_count_1 (by omega) (by decide) ?_
  refine lv_iconst (v := (-1)) hx hb d_Mo_count_207 (by decide) ?_
  exact z_iret X hr hlk w h d_Mo_count_208
