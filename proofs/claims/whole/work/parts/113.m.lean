theorem q_Mo_make : (y_Mo_make.cls ≠ "java/lang/invoke/MethodHandle" ∧ y_Mo_make.cls ≠ "java/lang/invoke/VarHandle") ∧ (parseMethodDescriptor y_Mo_make.desc).map (fun d => d.parameters.length) = some 3 := by decide +kernel
theorem d_Mo_make_0 : decode prog_8_method_23_code 0 = .ok (.iload_n 1, 1) := by decide +kernel
theorem d_Mo_make_1 : decode prog_8_method_23_code 1 = .ok (.invokestatic 134, 3) := by decide +kernel
theorem d_Mo_make_4 : decode prog_8_method_23_code 4 = .ok (.ifCond .eq 38, 3) := by decide +kernel
theorem d_Mo_make_7 : decode prog_8_method_23_code 7 = .ok (.iload_n 2, 1) := by decide +kernel
theorem d_Mo_make_8 : decode prog_8_method_23_code 8 = .ok (.ifCond .lt 34, 3) := by decide +kernel
theorem d_Mo_make_11 : decode prog_8_method_23_code 11 = .ok (.iload_n 2, 1) := by decide +kernel
theorem d_Mo_make_12 : decode prog_8_method_23_code 12 = .ok (.bipush 31, 2) := by decide +kernel
theorem d_Mo_make_14 : decode prog_8_method_23_code 14 = .ok (.if_icmp .gt 28, 3) := by decide +kernel
theorem d_Mo_make_17 : decode prog_8_method_23_code 17 = .ok (.iload_n 3, 1) := by decide +kernel
theorem d_Mo_make_18 : decode prog_8_method_23_code 18 = .ok (.ifCond .lt 24, 3) := by decide +kernel
theorem d_Mo_make_21 : decode prog_8_method_23_code 21 = .ok (.iload_n 3, 1) := by decide +kernel
theorem d_Mo_make_22 : decode prog_8_method_23_code 22 = .ok (.bipush 31, 2) := by decide +kernel
theorem d_Mo_make_24 : decode prog_8_method_23_code 24 = .ok (.if_icmp .gt 18, 3) := by decide +kernel
theorem d_Mo_make_27 : decode prog_8_method_23_code 27 = .ok (.iload_n 2, 1) := by decide +kernel
theorem d_Mo_make_28 : decode prog_8_method_23_code 28 = .ok (.iload_n 3, 1) := by decide +kernel
theorem d_Mo_make_29 : decode prog_8_method_23_code 29 = .ok (.iadd, 1) := by decide +kernel
theorem d_Mo_make_30 : decode prog_8_method_23_code 30 = .ok (.iconst 1, 1) := by decide +kernel
theorem d_Mo_make_31 : decode prog_8_method_23_code 31 = .ok (.if_icmp .lt 11, 3) := by decide +kernel
theorem d_Mo_make_34 : decode prog_8_method_23_code 34 = .ok (.iload_n 2, 1) := by decide +kernel
theorem d_Mo_make_35 : decode prog_8_method_23_code 35 = .ok (.iload_n 3, 1) := by decide +kernel
theorem d_Mo_make_36 : decode prog_8_method_23_code 36 = .ok (.iadd, 1) := by decide +kernel
theorem d_Mo_make_37 : decode prog_8_method_23_code 37 = .ok (.bipush 31, 2) := by decide +kernel
theorem d_Mo_make_39 : decode prog_8_method_23_code 39 = .ok (.if_icmp .le 5, 3) := by decide +kernel
theorem d_Mo_make_42 : decode prog_8_method_23_code 42 = .ok (.iconst (-1), 1) := by decide +kernel
theorem d_Mo_make_43 : decode prog_8_method_23_code 43 = .ok (.ireturn, 1) := by decide +kernel
theorem d_Mo_make_44 : decode prog_8_method_23_code 44 = .ok (.iload_n 2, 1) := by decide +kernel
theorem d_Mo_make_45 : decode prog_8_method_23_code 45 = .ok (.iload_n 3, 1) := by decide +kernel
theorem d_Mo_make_46 : decode prog_8_method_23_code 46 = .ok (.iadd, 1) := by decide +kernel
theorem d_Mo_make_47 : decode prog_8_method_23_code 47 = .ok (.iconst 1, 1) := by decide +kernel
theorem d_Mo_make_48 : decode prog_8_method_23_code 48 = .ok (.iadd, 1) := by decide +kernel
theorem d_Mo_make_49 : decode prog_8_method_23_code 49 = .ok (.invokestatic 138, 3) := by decide +kernel
theorem d_Mo_make_52 : decode prog_8_method_23_code 52 = .ok (.istore 4, 2) := by decide +kernel
theorem d_Mo_make_54 : decode prog_8_method_23_code 54 = .ok (.aload_n 0, 1) := by decide +kernel
theorem d_Mo_make_55 : decode prog_8_method_23_code 55 = .ok (.iload 4, 2) := by decide +kernel
theorem d_Mo_make_57 : decode prog_8_method_23_code 57 = .ok (.iconst 1, 1) := by decide +kernel
theorem d_Mo_make_58 : decode prog_8_method_23_code 58 = .ok (.invokevirtual 141, 3) := by decide +kernel
theorem d_Mo_make_61 : decode prog_8_method_23_code 61 = .ok (.istore 5, 2) := by decide +kernel
theorem d_Mo_make_63 : decode prog_8_method_23_code 63 = .ok (.iload 5, 2) := by decide +kernel
theorem d_Mo_make_65 : decode prog_8_method_23_code 65 = .ok (.iconst (-1), 1) := by decide +kernel
theorem d_Mo_make_66 : decode prog_8_method_23_code 66 = .ok (.if_icmp .ne 8, 3) := by decide +kernel
theorem d_Mo_make_69 : decode prog_8_method_23_code 69 = .ok (.aload_n 0, 1) := by decide +kernel
theorem d_Mo_make_70 : decode prog_8_method_23_code 70 = .ok (.invokevirtual 145, 3) := by decide +kernel
theorem d_Mo_make_73 : decode prog_8_method_23_code 73 = .ok (.ireturn, 1) := by decide +kernel
theorem d_Mo_make_74 : decode prog_8_method_23_code 74 = .ok (.aload_n 0, 1) := by decide +kernel
theorem d_Mo_make_75 : decode prog_8_method_23_code 75 = .ok (.getfield 23, 3) := by decide +kernel
theorem d_Mo_make_78 : decode prog_8_method_23_code 78 = .ok (.iload 5, 2) := by decide +kernel
theorem d_Mo_make_80 : decode prog_8_method_23_code 80 = .ok (.iload_n 2, 1) := by decide +kernel
theorem d_Mo_make_81 : decode prog_8_method_23_code 81 = .ok (.iastore, 1) := by decide +kernel
theorem d_Mo_make_82 : decode prog_8_method_23_code 82 = .ok (.aload_n 0, 1) := by decide +kernel
theorem d_Mo_make_83 : decode prog_8_method_23_code 83 = .ok (.getfield 26, 3) := by decide +kernel
theorem d_Mo_make_86 : decode prog_8_method_23_code 86 = .ok (.iload 5, 2) := by decide +kernel
theorem d_Mo_make_88 : decode prog_8_method_23_code 88 = .ok (.iload_n 3, 1) := by decide +kernel
theorem d_Mo_make_89 : decode prog_8_method_23_code 89 = .ok (.iastore, 1) := by decide +kernel
theorem d_Mo_make_90 : decode prog_8_method_23_code 90 = .ok (.aload_n 0, 1) := by decide +kernel
theorem d_Mo_make_91 : decode prog_8_method_23_code 91 = .ok (.iload_n 1, 1) := by decide +kernel
theorem d_Mo_make_92 : decode prog_8_method_23_code 92 = .ok (.iload 5, 2) := by decide +kernel
theorem d_Mo_make_94 : decode prog_8_method_23_code 94 = .ok (.invokevirtual 148, 3) := by decide +kernel
theorem d_Mo_make_97 : decode prog_8_method_23_code 97 = .ok (.aload_n 0, 1) := by decide +kernel
theorem d_Mo_make_98 : decode prog_8_method_23_code 98 = .ok (.iload 4, 2) := by decide +kernel
theorem d_Mo_make_100 : decode prog_8_method_23_code 100 = .ok (.invokestatic 152, 3) := by decide +kernel
theorem d_Mo_make_103 : decode prog_8_method_23_code 103 = .ok (.invokevirtual 155, 3) := by decide +kernel
theorem d_Mo_make_106 : decode prog_8_method_23_code 106 = .ok (.iconst 1, 1) := by decide +kernel
theorem d_Mo_make_107 : decode prog_8_method_23_code 107 = .ok (.ireturn, 1) := by decide +kernel
def f_Mo_make (μ : zM) (a1 a2 a3 : Int32) (K : Int32 → zM → Prop) : Prop := f_Mo_isRoot μ a1 (fun r2 μ1 => ((r2 = 0 → (K (-1 : Int32) μ1)) ∧ (¬ r2 = 0 → ((a2 < 0 → (K (-1 : Int32) μ1)) ∧ (¬ a2 < 0 → (((31 : Int32) < a2 → (K (-1 : Int32) μ1)) ∧ (¬ (31 : Int32) < a2 → ((a3 < 0 → (K (-1 : Int32) μ1)) ∧ (¬ a3 < 0 → (((31 : Int32) < a3 → (K (-1 : Int32) μ1)) ∧ (¬ (31 : Int32) < a3 → (((a2 + a3) < (1 : Int32) → (K (-1 : Int32) μ1)) ∧ (¬ (a2 + a3) < (1 : Int32) → (((a2 + a3) ≤ (31 : Int32) → (f_Mo_classFor μ1 ((a2 + a3) + (1 : Int32)) (fun r11 μ10 => (f_Mo_take μ10 r11 (1 : Int32) (fun r13 μ12 => ((¬ r13 = (-1 : Int32) → (vp_in r13 4096 ∧ ∀ μ16 : zM, μ16 = zp μ12 24 r13.toNatClampNeg a2 → (vp_in r13 4096 ∧ ∀ μ18 : zM, μ18 = zp μ16 25 r13.toNatClampNeg a3 → (f_Mo_setRoot μ18 a1 r13 (fun μ19 => (f_Mo_ticksOf μ19 r11 (fun r21 μ20 => (f_Mo_did μ20 r21 (fun μ22 => (K (1 : Int32) μ22)))))))))) ∧ (r13 = (-1 : Int32) → (f_Mo_failed μ12 (fun r24 μ23 => (K r24 μ23)))))))))) ∧ (¬ (a2 + a3) ≤ (31 : Int32) → (K (-1 : Int32) μ1))))))))))))))))
set_option maxHeartbeats 4000000 in
set_option maxRecDepth 100000 in
theorem c_Mo_make (l : Launch) (E : zE) (μ : zM) (a1 a2 a3 : Int32) (K : Int32 → zM → Prop) (h : f_Mo_make μ a1 a2 a3 K) : Met l y_Mo_make (Cond.code y_Mo_make prog_8_method_23_code 6 (some .int) :: zT) { frames := 5, cells := 0, slots := 0, locals := 106 } (va_Pc [.ref (E.2.1 19), .int a1, .int a2, .int a3] (zR zwM E μ)) (va_Qi K (zR zwM E) (zA E)) 0 0 (zA E) := by
  refine z_head (by decide) (Nat.le_of_ble_eq_true rfl) ?_
  intro p e s m below meth c X hr hlk w ls hl
  have X : zX E p s m _ c prog_8_method_23_code "BeatHeapModel" 6 := X
  have hx := X.1
  have hb := X.2.1
  have hl : lv_has ls 6 [(0, .ref (E.2.1 19)), (1, .int a1), (2, .int a2), (3, .int a3)] := hl
  unfold f_Mo_make at h
  refine lv_iload_n hx hb d_Mo_make_0 rfl (lv_at hl 1 rfl) ?_
  refine z_cSi (As := [.int a1]) (rest := []) X w (c_Mo_isRoot l E μ a1 _ h) w_ml_Mo_134 w_st_Mo_isRoot w_in_Mo w_co_Mo_isRoot q_Mo_isRoot.1 q_Mo_isRoot.2 rfl ⟨Nat.le_of_ble_eq_true rfl, Nat.le_of_ble_eq_true rfl⟩ ⟨Nat.zero_le _, Nat.zero_le _⟩ hl.1 rfl (Nat.le_of_ble_eq_true rfl) d_Mo_make_1 (fun r2 μ1 H locs h w => ?_)
  refine lv_if_eq (tgt := 42) hx hb d_Mo_make_4 (by decide) (fun c3 => ?_) (fun c3 => ?_)
  · have h := h.1 c3
    refine lv_iconst (v := (-1)) hx hb d_Mo_make_42 (by decide) ?_
    exact z_iret X hr hlk w h d_Mo_make_43
  · have h := h.2 c3
    refine lv_iload_n hx hb d_Mo_make_7 rfl (lv_at hl 2 rfl) ?_
    refine lv_if_lt (tgt := 42) hx hb d_Mo_make_8 (by decide) (fun c4 => ?_) (fun c4 => ?_)
    · have h := h.1 c4
      refine lv_iconst (v := (-1)) hx hb d_Mo_make_42 (by decide) ?_
      exact z_iret X hr hlk w h d_Mo_make_43
    · have h := h.2 c4
      refine lv_iload_n hx hb d_Mo_make_11 rfl (lv_at hl 2 rfl) ?_
      refine lv_bipush (v := 31) hx hb d_Mo_make_12 (by decide) ?_
      refine lv_icmp_gt (tgt := 42) hx hb d_Mo_make_14 (by decide) (fun c5 => ?_) (fun c5 => ?_)
      · have h := h.1 c5
        refine lv_iconst (v := (-1)) hx hb d_Mo_make_42 (by decide) ?_
        exact z_iret X hr hlk w h d_Mo_make_43
      · have h := h.2 c5
        refine lv_iload_n hx hb d_Mo_make_17 rfl (lv_at hl 3 rfl) ?_
        refine lv_if_lt (tgt := 42) hx hb d_Mo_make_18 (by decide) (fun c6 => ?_) (fun c6 => ?_)
        · have h := h.1 c6
          refine lv_iconst (v := (-1)) hx hb d_Mo_make_42 (by decide) ?_
          exact z_iret X hr hlk w h d_Mo_make_43
        · have h := h.2 c6
          refine lv_iload_n hx hb d_Mo_make_21 rfl (lv_at hl 3 rfl) ?_
          refine lv_bipush (v := 31) hx hb d_Mo_make_22 (by decide) ?_
          refine lv_icmp_gt (tgt := 42) hx hb d_Mo_make_24 (by decide) (fun c7 => ?_) (fun c7 => ?_)
          · have h := h.1 c7
            refine lv_iconst (v := (-1)) hx hb d_Mo_make_42 (by decide) ?_
            exact z_iret X hr hlk w h d_Mo_make_43
          · have h := h.2 c7
            refine lv_iload_n hx hb d_Mo_make_27 rfl (lv_at hl 2 rfl) ?_
            refine lv_iload_n hx hb d_Mo_make_28 rfl (lv_at hl 3 rfl) ?_
            refine lv_iadd hx hb d_Mo_make_29 ?_
            refine lv_iconst (v := 1) hx hb d_Mo_make_30 (by decide) ?_
            refine lv_icmp_lt (tgt := 42) hx hb d_Mo_make_31 (by decide) (fun c8 => ?_) (fun c8 => ?_)
            · have h := h.1 c8
              refine lv_iconst (v := (-1)) hx hb d_Mo_make_42 (by decide) ?_
              exact z_iret X hr hlk w h d_Mo_make_43
            · have h := h.2 c8
              refine lv_iload_n hx hb d_Mo_make_34 rfl (lv_at hl 2 rfl) ?_
              refine lv_iload_n hx hb d_Mo_make_35 rfl (lv_at hl 3 rfl) ?_
              refine lv_iadd hx hb d_Mo_make_36 ?_
              refine lv_bipush (v := 31) hx hb d_Mo_make_37 (by decide) ?_
              refine lv_icmp_le (tgt := 44) hx hb d_Mo_make_39 (by decide) (fun c9 => ?_) (fun c9 => ?_)
              · have h := h.1 c9
                refine lv_iload_n hx hb d_Mo_make_44 rfl (lv_at hl 2 rfl) ?_
                refine lv_iload_n hx hb d_Mo_make_45 rfl (lv_at hl 3 rfl) ?_
                refine lv_iadd hx hb d_Mo_make_46 ?_
                refine lv_iconst (v := 1) hx hb d_Mo_make_47 (by decide) ?_
                refine lv_iadd hx hb d_Mo_make_48 ?_
                refine z_cSi (As := [.int ((a2 + a3) + (1 : Int32))]) (rest := []) X w (c_Mo_classFor l E μ1 ((a2 + a3) + (1 : Int32)) _ h) w_ml_Mo_138 w_st_Mo_classFor w_in_Mo w_co_Mo_classFor q_Mo_classFor.1 q_Mo_classFor.2 rfl ⟨Nat.le_of_ble_eq_true rfl, Nat.le_of_ble_eq_true rfl⟩ ⟨Nat.zero_le _, Nat.zero_le _⟩ hl.1 rfl (Nat.le_of_ble_eq_true rfl) d_Mo_make_49 (fun r11 μ10 H locs h w => ?_)
                refine lv_istore (lv' := [(4, .int r11), (0, .ref (E.2.1 19)), (1, .int a1), (2, .int a2), (3, .int a3)]) hx hb d_Mo_make_52 hl (by decide) rfl (fun ls hl => ?_)
                refine lv_aload_n hx hb d_Mo_make_54 rfl (lv_at hl 1 rfl) ?_
                refine lv_iload hx hb d_Mo_make_55 (lv_at hl 0 rfl) ?_
                refine lv_iconst (v := 1) hx hb d_Mo_make_57 (by decide) ?_
                refine z_cVi (As := [.int r11, .int (1 : Int32)]) (rest := []) (q0 := 0) (ci := 6) X w (c_Mo_take l E μ10 r11 (1 : Int32) _ h) rfl rfl rfl w_ml_Mo_141 ⟨w_im_Mo_take, w_se_Mo_take⟩ w_in_Mo w_co_Mo_take q_Mo_take.1 q_Mo_take.2 rfl ⟨Nat.le_of_ble_eq_true rfl, Nat.le_of_ble_eq_true rfl⟩ ⟨Nat.zero_le _, Nat.zero_le _⟩ hl.1 rfl (Nat.le_of_ble_eq_true rfl) d_Mo_make_58 (fun r13 μ12 H locs h w => ?_)
                refine lv_istore (lv' := [(5, .int r13), (4, .int r11), (0, .ref (E.2.1 19)), (1, .int a1), (2, .int a2), (3, .int a3)]) hx hb d_Mo_make_61 hl (by decide) rfl (fun ls hl => ?_)
                refine lv_iload hx hb d_Mo_make_63 (lv_at hl 0 rfl) ?_
                refine lv_iconst (v := (-1)) hx hb d_Mo_make_65 (by decide) ?_
                refine lv_icmp_ne (tgt := 74) hx hb d_Mo_make_66 (by decide) (fun c14 => ?_) (fun c14 => ?_)
                · have h := h.1 c14
                  refine lv_aload_n hx hb d_Mo_make_74 rfl (lv_at hl 2 rfl) ?_
                  refine gt_19_8 X w w_fl_Mo_23 d_Mo_make_75 ?_
                  refine lv_iload hx hb d_Mo_make_78 (lv_at hl 0 rfl) ?_
                  refine lv_iload_n hx hb d_Mo_make_80 rfl (lv_at hl 4 rfl) ?_
                  obtain ⟨hi15, h⟩ := h
                  refine as_24 X w hi15 d_Mo_make_81 (fun μ16 H locs eμ16 w => ?_)
                  have h := h μ16 eμ16
                  refine lv_aload_n hx hb d_Mo_make_82 rfl (lv_at hl 2 rfl) ?_
                  refine gt_19_9 X w w_fl_Mo_26 d_Mo_make_83 ?_
                  refine lv_iload hx hb d_Mo_make_86 (lv_at hl 0 rfl) ?_
                  refine lv_iload_n hx hb d_Mo_make_88 rfl (lv_at hl 5 rfl) ?_
                  obtain ⟨hi17, h⟩ := h
                  refine as_25 X w hi17 d_Mo_make_89 (fun μ18 H locs eμ18 w => ?_)
                  have h := h μ18 eμ18
                  refine lv_aload_n hx hb d_Mo_make_90 rfl (lv_at hl 2 rfl) ?_
                  refine lv_iload_n hx hb d_Mo_make_91 rfl (lv_at hl 3 rfl) ?_
                  refine lv_iload hx hb d_Mo_make_92 (lv_at hl 0 rfl) ?_
                  refine z_cVv (As := [.int a1, .int r13]) (rest := []) (q0 := 0) (ci := 6) X w (c_Mo_setRoot l E μ18 a1 r13 _ h) rfl rfl rfl w_ml_Mo_148 ⟨w_im_Mo_setRoot, w_se_Mo_setRoot⟩ w_in_Mo w_co_Mo_setRoot q_Mo_setRoot.1 q_Mo_setRoot.2 rfl ⟨Nat.le_of_ble_eq_true rfl, Nat.le_of_ble_eq_true rfl⟩ ⟨Nat.zero_le _, Nat.zero_le _⟩ hl.1 rfl (Nat.le_of_ble_eq_true rfl) d_Mo_make_94 (fun μ19 H locs h w => ?_)
                  refine lv_aload_n hx hb d_Mo_make_97 rfl (lv_at hl 2 rfl) ?_
                  refine lv_iload hx hb d_Mo_make_98 (lv_at hl 1 rfl) ?_
                  refine z_cSi (As := [.int r11]) (rest := [.ref (E.2.1 19)]) X w (c_Mo_ticksOf l E μ19 r11 _ h) w_ml_Mo_152 w_st_Mo_ticksOf w_in_Mo w_co_Mo_ticksOf q_Mo_ticksOf.1 q_Mo_ticksOf.2 rfl ⟨Nat.le_of_ble_eq_true rfl, Nat.le_of_ble_eq_true rfl⟩ ⟨Nat.zero_le _, Nat.zero_le _⟩ hl.1 rfl (Nat.le_of_ble_eq_true rfl) d_Mo_make_100 (fun r21 μ20 H locs h w => ?_)
                  refine z_cVv (As := [.int r21]) (rest := []) (q0 := 0) (ci := 6) X w (c_Mo_did l E μ20 r21 _ h) rfl rfl rfl w_ml_Mo_155 ⟨w_im_Mo_did, w_se_Mo_did⟩ w_in_Mo w_co_Mo_did q_Mo_did.1 q_Mo_did.2 rfl ⟨Nat.le_of_ble_eq_true rfl, Nat.le_of_ble_eq_true rfl⟩ ⟨Nat.zero_le _, Nat.zero_le _⟩ hl.1 rfl (Nat.le_of_ble_eq_true rfl) d_Mo_make_103 (fun μ22 H locs h w => ?_)
                  refine lv_iconst (v := 1) hx hb d_Mo_make_106 (by decide) ?_
                  exact z_iret X hr hlk w h d_Mo_make_107
                · have h := h.2 c14
                  refine lv_aload_n hx hb d_Mo_make_69 rfl (lv_at hl 2 rfl) ?_
                  refine z_cVi (As := []) (rest := []) (q0 := 0) (ci := 6) X w (c_Mo_failed l E μ12 _ h) rfl rfl rfl w_ml_Mo_145 ⟨w_im_Mo_failed, w_se_Mo_failed⟩ w_in_Mo w_co_Mo_failed q_Mo_failed.1 q_Mo_failed.2 rfl ⟨Nat.le_of_ble_eq_true rfl, Nat.le_of_ble_eq_true rfl⟩ ⟨Nat.zero_le _, Nat.zero_le _⟩ hl.1 rfl (Nat.le_of_ble_eq_true rfl) d_Mo_make_70 (fun r24 μ23 H locs h w => ?_)
                  exact z_iret X hr hlk w h d_Mo_make_73
              · have h := h.2 c9
                refine lv_iconst (v := (-1)) hx hb d_Mo_make_42 (by decide) ?_
                exact z_iret X hr hlk w h d_Mo_make_43
theorem q_Mo_array : (y_Mo_array.cls ≠ "java/lang/invoke/MethodHandle" ∧ y_Mo_array.cls ≠ "java/lang/invoke/VarHandle") ∧ (parseMethodDescriptor y_Mo_array.desc).map (fun d => d.parameters.length) = some 2 := by decide +kernel
theorem d_Mo_array_0 : decode prog_8_method_24_code 0 = .ok (.iload_n 1, 1) := by decide +kernel
theorem d_Mo_array_1 : decode prog_8_method_24_code 1 = .ok (.invokestatic 134, 3) := by decide +kernel
theorem d_Mo_array_4 : decode prog_8_method_24_code 4 = .ok (.ifCond .eq 16, 3) := by decide +kernel
theorem d_Mo_array_7 : decode prog_8_method_24_code 7 = .ok (.iload_n 2, 1) := by decide +kernel
theorem d_Mo_array_8 : decode prog_8_method_24_code 8 = .ok (.bipush 32, 2) := by decide +kernel
theorem d_Mo_array_10 : decode prog_8_method_24_code 10 = .ok (.if_icmp .lt 10, 3) := by decide +kernel
theorem d_Mo_array_13 : decode prog_8_method_24_code 13 = .ok (.iload_n 2, 1) := by decide +kernel
theorem d_Mo_array_14 : decode prog_8_method_24_code 14 = .ok (.sipush 512, 3) := by decide +kernel
theorem d_Mo_array_17 : decode prog_8_method_24_code 17 = .ok (.if_icmp .le 5, 3) := by decide +kernel
theorem d_Mo_array_20 : decode prog_8_method_24_code 20 = .ok (.iconst (-1), 1) := by decide +kernel
theorem d_Mo_array_21 : decode prog_8_method_24_code 21 = .ok (.ireturn, 1) := by decide +kernel
theorem d_Mo_array_22 : decode prog_8_method_24_code 22 = .ok (.iload_n 2, 1) := by decide +kernel
theorem d_Mo_array_23 : decode prog_8_method_24_code 23 = .ok (.bipush 31, 2) := by decide +kernel
theorem d_Mo_array_25 : decode prog_8_method_24_code 25 = .ok (.iadd, 1) := by decide +kernel
theorem d_Mo_array_26 : decode prog_8_method_24_code 26 = .ok (.bipush 32, 2) := by decide +kernel
theorem d_Mo_array_28 : decode prog_8_method_24_code 28 = .ok (.idiv, 1) := by decide +kernel
theorem d_Mo_array_29 : decode prog_8_method_24_code 29 = .ok (.istore_n 3, 1) := by decide +kernel
theorem d_Mo_array_30 : decode prog_8_method_24_code 30 = .ok (.iload_n 3, 1) := by decide +kernel
theorem d_Mo_array_31 : decode prog_8_method_24_code 31 = .ok (.iconst 1, 1) := by decide +kernel
theorem d_Mo_array_32 : decode prog_8_method_24_code 32 = .ok (.iadd, 1) := by decide +kernel
theorem d_Mo_array_33 : decode prog_8_method_24_code 33 = .ok (.invokestatic 138, 3) := by decide +kernel
theorem d_Mo_array_36 : decode prog_8_method_24_code 36 = .ok (.istore 4, 2) := by decide +kernel
theorem d_Mo_array_38 : decode prog_8_method_24_code 38 = .ok (.aload_n 0, 1) := by decide +kernel
theorem d_Mo_array_39 : decode prog_8_method_24_code 39 = .ok (.iload 4, 2) := by decide +kernel
theorem d_Mo_array_41 : decode prog_8_method_24_code 41 = .ok (.iconst 2, 1) := by decide +kernel
theorem d_Mo_array_42 : decode prog_8_method_24_code 42 = .ok (.invokevirtual 141, 3) := by decide +kernel
theorem d_Mo_array_45 : decode prog_8_method_24_code 45 = .ok (.istore 5, 2) := by decide +kernel
theorem d_Mo_array_47 : decode prog_8_method_24_code 47 = .ok (.iload 5, 2) := by decide +kernel
theorem d_Mo_array_49 : decode prog_8_method_24_code 49 = .ok (.iconst (-1), 1) := by decide +kernel
theorem d_Mo_array_50 : decode prog_8_method_24_code 50 = .ok (.if_icmp .ne 8, 3) := by decide +kernel
theorem d_Mo_array_53 : decode prog_8_method_24_code 53 = .ok (.aload_n 0, 1) := by decide +kernel
theorem d_Mo_array_54 : decode prog_8_method_24_code 54 = .ok (.invokevirtual 145, 3) := by decide +kernel
theorem d_Mo_array_57 : decode prog_8_method_24_code 57 = .ok (.ireturn, 1) := by decide +kernel
theorem d_Mo_array_58 : decode prog_8_method_24_code 58 = .ok (.aload_n 0, 1) := by decide +kernel
theorem d_Mo_array_59 : decode prog_8_method_24_code 59 = .ok (.getfield 23, 3) := by decide +kernel
theorem d_Mo_array_62 : decode prog_8_method_24_code 62 = .ok (.iload 5, 2) := by decide +kernel
theorem d_Mo_array_64 : decode prog_8_method_24_code 64 = .ok (.iload_n 3, 1) := by decide +kernel
theorem d_Mo_array_65 : decode prog_8_method_24_code 65 = .ok (.iastore, 1) := by decide +kernel
theorem d_Mo_array_66 : decode prog_8_method_24_code 66 = .ok (.aload_n 0, 1) := by decide +kernel
theorem d_Mo_array_67 : decode prog_8_method_24_code 67 = .ok (.getfield 26, 3) := by decide +kernel
theorem d_Mo_array_70 : decode prog_8_method_24_code 70 = .ok (.iload 5, 2) := by decide +kernel
theorem d_Mo_array_72 : decode prog_8_method_24_code 72 = .ok (.iload_n 2, 1) := by decide +kernel
theorem d_Mo_array_73 : decode prog_8_method_24_code 73 = .ok (.iastore, 1) := by decide +kernel
theorem d_Mo_array_74 : decode prog_8_method_24_code 74 = .ok (.aload_n 0, 1) := by decide +kernel
theorem d_Mo_array_75 : decode prog_8_method_24_code 75 = .ok (.iload_n 1, 1) := by decide +kernel
theorem d_Mo_array_76 : decode prog_8_method_24_code 76 = .ok (.iload 5, 2) := by decide +kernel
theorem d_Mo_array_78 : decode prog_8_method_24_code 78 = .ok (.invokevirtual 148, 3) := by decide +kernel
theorem d_Mo_array_81 : decode prog_8_method_24_code 81 = .ok (.aload_n 0, 1) := by decide +kernel
theorem d_Mo_array_82 : decode prog_8_method_24_code 82 = .ok (.iload 4, 2) := by decide +kernel
theorem d_Mo_array_84 : decode prog_8_method_24_code 84 = .ok (.invokestatic 152, 3) := by decide +kernel
theorem d_Mo_array_87 : decode prog_8_method_24_code 87 = .ok (.invokevirtual 155, 3) := by decide +kernel
theorem d_Mo_array_90 : decode prog_8_method_24_code 90 = .ok (.iconst 1, 1) := by decide +kernel
theorem d_Mo_array_91 : decode prog_8_method_24_code 91 = .ok (.istore 6, 2) := by decide +kernel
theorem d_Mo_array_93 : decode prog_8_method_24_code 93 = .ok (.iload 6, 2) := by decide +kernel
theorem d_Mo_array_95 : decode prog_8_method_24_code 95 = .ok (.iload_n 3, 1) := by decide +kernel
theorem d_Mo_array_96 : decode prog_8_method_24_code 96 = .ok (.if_icmp .gt 54, 3) := by decide +kernel
theorem d_Mo_array_99 : decode prog_8_method_24_code 99 = .ok (.aload_n 0, 1) := by decide +kernel
theorem d_Mo_array_100 : decode prog_8_method_24_code 100 = .ok (.iconst 3, 1) := by decide +kernel
theorem d_Mo_array_101 : decode prog_8_method_24_code 101 = .ok (.iconst 3, 1) := by decide +kernel
theorem d_Mo_array_102 : decode prog_8_method_24_code 102 = .ok (.invokevirtual 141, 3) := by decide +kernel
theorem d_Mo_array_105 : decode prog_8_method_24_code 105 = .ok (.istore 7, 2) := by decide +kernel
theorem d_Mo_array_107 : decode prog_8_method_24_code 107 = .ok (.iload 7, 2) := by decide +kernel
theorem d_Mo_array_109 : decode prog_8_method_24_code 109 = .ok (.iconst (-1), 1) := by decide +kernel
theorem d_Mo_array_110 : decode prog_8_method_24_code 110 = .ok (.if_icmp .ne 14, 3) := by decide +kernel
theorem d_Mo_array_113 : decode prog_8_method_24_code 113 = .ok (.aload_n 0, 1) := by decide +kernel
theorem d_Mo_array_114 : decode prog_8_method_24_code 114 = .ok (.iload_n 1, 1) := by decide +kernel
theorem d_Mo_array_115 : decode prog_8_method_24_code 115 = .ok (.iconst (-1), 1) := by decide +kernel
theorem d_Mo_array_116 : decode prog_8_method_24_code 116 = .ok (.invokevirtual 148, 3) := by decide +kernel
theorem d_Mo_array_119 : decode prog_8_method_24_code 119 = .ok (.aload_n 0, 1) := by decide +kernel
theorem d_Mo_array_120 : decode prog_8_method_24_code 120 = .ok (.invokevirtual 145, 3) := by decide +kernel
theorem d_Mo_array_123 : decode prog_8_method_24_code 123 = .ok (.ireturn, 1) := by decide +kernel
theorem d_Mo_array_124 : decode prog_8_method_24_code 124 = .ok (.aload_n 0, 1) := by decide +kernel
theorem d_Mo_array_125 : decode prog_8_method_24_code 125 = .ok (.getfield 7, 3) := by decide +kernel
theorem d_Mo_array_128 : decode prog_8_method_24_code 128 = .ok (.iload 5, 2) := by decide +kernel
theorem d_Mo_array_130 : decode prog_8_method_24_code 130 = .ok (.iload 6, 2) := by decide +kernel
theorem d_Mo_array_132 : decode prog_8_method_24_code 132 = .ok (.iadd, 1) := by decide +kernel
theorem d_Mo_array_133 : decode prog_8_method_24_code 133 = .ok (.iload 7, 2) := by decide +kernel
theorem d_Mo_array_135 : decode prog_8_method_24_code 135 = .ok (.iconst 1, 1) := by decide +kernel
theorem d_Mo_array_136 : decode prog_8_method_24_code 136 = .ok (.iadd, 1) := by decide +kernel
theorem d_Mo_array_137 : decode prog_8_method_24_code 137 = .ok (.iastore, 1) := by decide +kernel
theorem d_Mo_array_138 : decode prog_8_method_24_code 138 = .ok (.aload_n 0, 1) := by decide +kernel
theorem d_Mo_array_139 : decode prog_8_method_24_code 139 = .ok (.bipush 9, 2) := by decide +kernel
theorem d_Mo_array_141 : decode prog_8_method_24_code 141 = .ok (.invokevirtual 155, 3) := by decide +kernel
theorem d_Mo_array_144 : decode prog_8_method_24_code 144 = .ok (.iinc 6 1, 3) := by decide +kernel
theorem d_Mo_array_147 : decode prog_8_method_24_code 147 = .ok (.goto (-54), 3) := by decide +kernel
theorem d_Mo_array_150 : decode prog_8_method_24_code 150 = .ok (.iconst 1, 1) := by decide +kernel
theorem d_Mo_array_151 : decode prog_8_method_24_code 151 = .ok (.ireturn, 1) := by decide +kernel
noncomputable def F_Mo_array_93 (K : Int32 → zM → Prop) (n : Nat) : Int32 → Int32 → Int32 → Int32 → zM → Prop := Nat.rec (motive := fun _ => Int32 → Int32 → Int32 → Int32 → zM → Prop) (fun _ _ _ _ _ => False) (fun _ ih x1 x3 x5 x6 μ => (x3 < x6 → (K (1 : Int32) μ)) ∧ (¬ x3 < x6 → (f_Mo_take μ (3 : Int32) (3 : Int32) (fun r22 μ21 => ((¬ r22 = (-1 : Int32) → (vp_in (x5 + x6) 4096 ∧ ∀ μ25 : zM, μ25 = zp μ21 20 (x5 + x6).toNatClampNeg (r22 + (1 : Int32)) → (f_Mo_did μ25 (9 : Int32) (fun μ26 => (∀ x27 : Int32, x27 = x6 + 1 → (ih x1 x3 x5 x27 μ26)))))) ∧ (r22 = (-1 : Int32) → (f_Mo_setRoot μ21 x1 (-1 : Int32) (fun μ28 => (f_Mo_failed μ28 (fun r30 μ29 => (K r30 μ29))))))))))) n
def f_Mo_array (μ : zM) (a1 a2 : Int32) (K : Int32 → zM → Prop) : Prop := f_Mo_isRoot μ a1 (fun r2 μ1 => ((r2 = 0 → (K (-1 : Int32) μ1)) ∧ (¬ r2 = 0 → ((a2 < (32 : Int32) → (K (-1 : Int32) μ1)) ∧ (¬ a2 < (32 : Int32) → ((a2 ≤ (512 : Int32) → (∀ x6 : Int32, x6 = ((a2 + (31 : Int32)) / (32 : Int32)) → (f_Mo_classFor μ1 (x6 + (1 : Int32)) (fun r8 μ7 => (f_Mo_take μ7 r8 (2 : Int32) (fun r10 μ9 => ((¬ r10 = (-1 : Int32) → (vp_in r10 4096 ∧ ∀ μ13 : zM, μ13 = zp μ9 24 r10.toNatClampNeg x6 → (vp_in r10 4096 ∧ ∀ μ15 : zM, μ15 = zp μ13 25 r10.toNatClampNeg a2 → (f_Mo_setRoot μ15 a1 r10 (fun μ16 => (f_Mo_ticksOf μ16 r8 (fun r18 μ17 => (f_Mo_did μ17 r18 (fun μ19 => (∃ n : Nat, F_Mo_array_93 K n a1 x6 r10 (1 : Int32) μ19)))))))))) ∧ (r10 = (-1 : Int32) → (f_Mo_failed μ9 (fun r32 μ31 => (K r32 μ31))))))))))) ∧ (¬ a2 ≤ (512 : Int32) → (K (-1 : Int32) μ1))))))))
set_option maxHeartbeats 4000000 in
set_option maxRecDepth 100000 in
theorem L_Mo_array_93 {p : Program} {l : Launch} {e : Env} {s : State} {m : MethodId} {args : Array Value} {below : List Frame} {meth : Method} {c : Code} {E : zE} (X : zX E p s m args c prog_8_method_24_code "BeatHeapModel" 8) (hr : meth.sig.returnType = (some .int)) (hlk : meth.locks = false) (K : Int32 → zM → Prop) : ∀ (n : Nat) (x1 x3 x5 x6 : Int32) (μ : zM) (H : Heap) (locs : List Loc) (ls : Array Slot), F_Mo_array_93 K n x1 x3 x5 x6 μ → zW zwM E s μ H locs → lv_has ls 8 [(0, .ref (E.2.1 19)), (1, .int x1), (3, .int x3), (5, .int x5), (6, .int x6)] → W p l e { frames := 5, cells := 0, slots := 0, locals := 106 } s m args below meth c H locs 0 0 (MQ below (va_Qi K (zR zwM E) (zA E)) args s 0 0 (zA E)) (F0 m 93 ls []) := by
  have hx := X.1
  have hb := X.2.1
  intro n
  induction n with
  | zero => intro x1 x3 x5 x6 μ H locs ls h; exact False.elim h
  | succ n ih =>
    intro x1 x3 x5 x6 μ H locs ls h w hl
    refine lv_iload hx hb d_Mo_array_93 (lv_at hl 4 rfl) ?_
    refine lv_iload_n hx hb d_Mo_array_95 rfl (lv_at hl 2 rfl) ?_
    refine lv_icmp_gt (tgt := 150) hx hb d_Mo_array_96 (by decide) (fun c20 => ?_) (fun c20 => ?_)
    · have h := h.1 c20
      refine lv_iconst (v := 1) hx hb d_Mo_array_150 (by decide) ?_
      exact z_iret X hr hlk w h d_Mo_array_151
    · have h := h.2 c20
      refine lv_aload_n hx hb d_Mo_array_99 rfl (lv_at hl 0 rfl) ?_
      refine lv_iconst (v := 3) hx hb d_Mo_array_100 (by decide) ?_
      refine lv_iconst (v := 3) hx hb d_Mo_array_101 (by decide) ?_
      refine z_cVi (As := [.int (3 : Int32), .int (3 : Int32)]) (rest := []) (q0 := 0) (ci := 6) X w (c_Mo_take l E μ (3 : Int32) (3 : Int32) _ h) rfl rfl rfl w_ml_Mo_141 ⟨w_im_Mo_take, w_se_Mo_take⟩ w_in_Mo w_co_Mo_take q_Mo_take.1 q_Mo_take.2 rfl ⟨Nat.le_of_ble_eq_true rfl, Nat.le_of_ble_eq_true rfl⟩ ⟨Nat.zero_le _, Nat.zero_le _⟩ hl.1 rfl (Nat.le_of_ble_eq_true rfl) d_Mo_array_102 (fun r22 μ21 H locs h w => ?_)
      refine lv_istore (lv' := [(7, .int r22), (0, .ref (E.2.1 19)), (1, .int x1), (3, .int x3), (5, .int x5), (6, .int x6)]) hx hb d_Mo_array_105 hl (by decide) rfl (fun ls hl => ?_)
      refine lv_iload hx hb d_Mo_array_107 (lv_at hl 0 rfl) ?_
      refine lv_iconst (v := (-1)) hx hb d_Mo_array_109 (by decide) ?_
      refine lv_icmp_ne (tgt := 124) hx hb d_Mo_array_110 (by decide) (fun c23 => ?_) (fun c23 => ?_)
      · have h := h.1 c23
        refine lv_aload_n hx hb d_Mo_array_124 rfl (lv_at hl 1 rfl) ?_
        refine gt_19_4 X w w_fl_Mo_7 d_Mo_array_125 ?_
        refine lv_iload hx hb d_Mo_array_128 (lv_at hl 4 rfl) ?_
        refine lv_iload hx hb d_Mo_array_130 (lv_at hl 5 rfl) ?_
        refine lv_iadd hx hb d_Mo_array_132 ?_
        refine lv_iload hx hb d_Mo_array_133 (lv_at hl 0 rfl) ?_
        refine lv_iconst (v := 1) hx hb d_Mo_array_135 (by decide) ?_
        refine lv_iadd hx hb d_Mo_array_136 ?_
        obtain ⟨hi24, h⟩ := h
        refine as_20 X w hi24 d_Mo_array_137 (fun μ25 H locs eμ25 w => ?_)
        have h := h μ25 eμ25
        refine lv_aload_n hx hb d_Mo_array_138 rfl (lv_at hl 1 rfl) ?_
        refine lv_bipush (v := 9) hx hb d_Mo_array_139 (by decide) ?_
        refine z_cVv (As := [.int (9 : Int32)]) (rest := []) (q0 := 0) (ci := 6) X w (c_Mo_did l E μ25 (9 : Int32) _ h) rfl rfl rfl w_ml_Mo_155 ⟨w_im_Mo_did, w_se_Mo_did⟩ w_in_Mo w_co_Mo_did q_Mo_did.1 q_Mo_did.2 rfl ⟨Nat.le_of_ble_eq_true rfl, Nat.le_of_ble_eq_true rfl⟩ ⟨Nat.zero_le _, Nat.zero_le _⟩ hl.1 rfl (Nat.le_of_ble_eq_true rfl) d_Mo_array_141 (fun μ26 H locs h w => ?_)
        obtain ⟨x27, ex27⟩ : ∃ y : Int32, y = x6 + 1 := ⟨_, rfl⟩
        have h := h x27 ex27
        refine lv_iinc (v := x27) (lv' := [(6, .int x27), (7, .int r22), (0, .ref (E.2.1 19)), (1, .int x1), (3, .int x3), (5, .int x5)]) hx hb d_Mo_array_144 hl (k := 5) rfl (by rw [ex27]; rfl) (by decide) rfl (fun ls hl => ?_)
        refine lv_goto (tgt := 93) hx hb d_Mo_array_147 (by decide) ?_
        exact ih x1 x3 x5 x27 μ26 _ _ _ h w (lv_sub hl [2, 3, 4, 5, 0] rfl)
      · have h := h.2 c23
        refine lv_aload_n hx hb d_Mo_array_113 rfl (lv_at hl 1 rfl) ?_
        refine lv_iload_n hx hb d_Mo_array_114 rfl (lv_at hl 2 rfl) ?_
        refine lv_iconst (v := (-1)) hx hb d_Mo_array_115 (by decide) ?_
        refine z_cVv (As := [.int x1, .int (-1 : Int32)]) (rest := []) (q0 := 0) (ci := 6) X w (c_Mo_setRoot l E μ21 x1 (-1 : Int32) _ h) rfl rfl rfl w_ml_Mo_148 ⟨w_im_Mo_setRoot, w_se_Mo_setRoot⟩ w_in_Mo w_co_Mo_setRoot q_Mo_setRoot.1 q_Mo_setRoot.2 rfl ⟨Nat.le_of_ble_eq_true rfl, Nat.le_of_ble_eq_true rfl⟩ ⟨Nat.zero_le _, Nat.zero_le _⟩ hl.1 rfl (Nat.le_of_ble_eq_true rfl) d_Mo_array_116 (fun μ28 H locs h w => ?_)
        refine lv_aload_n hx hb d_Mo_array_119 rfl (lv_at hl 1 rfl) ?_
        refine z_cVi (As := []) (rest := []) (q0 := 0) (ci := 6) X w (c_Mo_failed l E μ28 _ h) rfl rfl rfl w_ml_Mo_145 ⟨w_im_Mo_failed, w_se_Mo_failed⟩ w_in_Mo w_co_Mo_failed q_Mo_failed.1 q_Mo_failed.2 rfl ⟨Nat.le_of_ble_eq_true rfl, Nat.le_of_ble_eq_true rfl⟩ ⟨Nat.zero_le _, Nat.zero_le _⟩ hl.1 rfl (Nat.le_of_ble_eq_true rfl) d_Mo_array_120 (fun r30 μ29 H locs h w => ?_)
        exact z_iret X hr hlk w h d_Mo_array_123

set_option maxHeartbeats 4000000 in
set_option maxRecDepth 100000 in
theorem c_Mo_array (l : Launch) (E : zE) (μ : zM) (a1 a2 : Int32) (K : Int32 → zM → Prop) (h : f_Mo_array μ a1 a2 K) : Met l y_Mo_array (Cond.code y_Mo_array prog_8_method_24_code 8 (some .int) :: zT) { frames := 5, cells := 0, slots := 0, locals := 106 } (va_Pc [.ref (E.2.1 19), .int a1, .int a2] (zR zwM E μ)) (va_Qi K (zR zwM E) (zA E)) 0 0 (zA E) := by
  refine z_head (by decide) (Nat.le_of_ble_eq_true rfl) ?_
  intro p e s m below meth c X hr hlk w ls hl
  have X : zX E p s m _ c prog_8_method_24_code "BeatHeapModel" 8 := X
  have hx := X.1
  have hb := X.2.1
  have hl : lv_has ls 8 [(0, .ref (E.2.1 19)), (1, .int a1), (2, .int a2)] := hl
  unfold f_Mo_array at h
  refine lv_iload_n hx hb d_Mo_array_0 rfl (lv_at hl 1 rfl) ?_
  refine z_cSi (As := [.int a1]) (rest := []) X w (c_Mo_isRoot l E μ a1 _ h) w_ml_Mo_134 w_st_Mo_isRoot w_in_Mo w_co_Mo_isRoot q_Mo_isRoot.1 q_Mo_isRoot.2 rfl ⟨Nat.le_of_ble_eq_true rfl, Nat.le_of_ble_eq_true rfl⟩ ⟨Nat.zero_le _, Nat.zero_le _⟩ hl.1 rfl (Nat.le_of_ble_eq_true rfl) d_Mo_array_1 (fun r2 μ1 H locs h w => ?_)
  refine lv_if_eq (tgt := 20) hx hb d_Mo_array_4 (by decide) (fun c3 => ?_) (fun c3 => ?_)
  · have h := h.1 c3
    refine lv_iconst (v := (-1)) hx hb d_Mo_array_20 (by decide) ?_
    exact z_iret X hr hlk w h d_Mo_array_21
  · have h := h.2 c3
    refine lv_iload_n hx hb d_Mo_array_7 rfl (lv_at hl 2 rfl) ?_
    refine lv_bipush (v := 32) hx hb d_Mo_array_8 (by decide) ?_
    refine lv_icmp_lt (tgt := 20) hx hb d_Mo_array_10 (by decide) (fun c4 => ?_) (fun c4 => ?_)
    · have h := h.1 c4
      refine lv_iconst (v := (-1)) hx hb d_Mo_array_20 (by decide) ?_
      exact z_iret X hr hlk w h d_Mo_array_21
    · have h := h.2 c4
      refine lv_iload_n hx hb d_Mo_array_13 rfl (lv_at hl 2 rfl) ?_
      refine lv_sipush (v := 512) hx hb d_Mo_array_14 (by decide) ?_
      refine lv_icmp_le (tgt := 22) hx hb d_Mo_array_17 (by decide) (fun c5 => ?_) (fun c5 => ?_)
      · have h := h.1 c5
        refine lv_iload_n hx hb d_Mo_array_22 rfl (lv_at hl 2 rfl) ?_
        refine lv_bipush (v := 31) hx hb d_Mo_array_23 (by decide) ?_
        refine lv_iadd hx hb d_Mo_array_25 ?_
        refine lv_bipush (v := 32) hx hb d_Mo_array_26 (by decide) ?_
        refine lv_idiv hx hb d_Mo_array_28 (by decide) ?_
        refine lv_topi (fun x6 ex6 => ?_)
        have h := h x6 ex6
        refine lv_istore_n (lv' := [(3, .int x6), (0, .ref (E.2.1 19)), (1, .int a1), (2, .int a2)]) hx hb d_Mo_array_29 rfl hl (by decide) rfl (fun ls hl => ?_)
        refine lv_iload_n hx hb d_Mo_array_30 rfl (lv_at hl 0 rfl) ?_
        refine lv_iconst (v := 1) hx hb d_Mo_array_31 (by decide) ?_
        refine lv_iadd hx hb d_Mo_array_32 ?_
        refine z_cSi (As := [.int (x6 + (1 : Int32))]) (rest := []) X w (c_Mo_classFor l E μ1 (x6 + (1 : Int32)) _ h) w_ml_Mo_138 w_st_Mo_classFor w_in_Mo w_co_Mo_classFor q_Mo_classFor.1 q_Mo_classFor.2 rfl ⟨Nat.le_of_ble_eq_true rfl, Nat.le_of_ble_eq_true rfl⟩ ⟨Nat.zero_le _, Nat.zero_le _⟩ hl.1 rfl (Nat.le_of_ble_eq_true rfl) d_Mo_array_33 (fun r8 μ7 H locs h w => ?_)
        refine lv_istore (lv' := [(4, .int r8), (3, .int x6), (0, .ref (E.2.1 19)), (1, .int a1), (2, .int a2)]) hx hb d_Mo_array_36 hl (by decide) rfl (fun ls hl => ?_)
        refine lv_aload_n hx hb d_Mo_array_38 rfl (lv_at hl 2 rfl) ?_
        refine lv_iload hx hb d_Mo_array_39 (lv_at hl 0 rfl) ?_
        refine lv_iconst (v := 2) hx hb d_Mo_array_41 (by decide) ?_
        refine z_cVi (As := [.int r8, .int (2 : Int32)]) (rest := []) (q0 := 0) (ci := 6) X w (c_Mo_take l E μ7 r8 (2 : Int32) _ h) rfl rfl rfl w_ml_Mo_141 ⟨w_im_Mo_take, w_se_Mo_take⟩ w_in_Mo w_co_Mo_take q_Mo_take.1 q_Mo_take.2 rfl ⟨Nat.le_of_ble_eq_true rfl, Nat.le_of_ble_eq_true rfl⟩ ⟨Nat.zero_le _, Nat.zero_le _⟩ hl.1 rfl (Nat.le_of_ble_eq_true rfl) d_Mo_array_42 (fun r10 μ9 H locs h w => ?_)
        refine lv_istore (lv' := [(5, .int r10), (4, .int r8), (3, .int x6), (0, .ref (E.2.1 19)), (1, .int a1), (2, .int a2)]) hx hb d_Mo_array_45 hl (by decide) rfl (fun ls hl => ?_)
        refine lv_iload hx hb d_Mo_array_47 (lv_at hl 0 rfl) ?_
        refine lv_iconst (v := (-1)) hx hb d_Mo_array_49 (by decide) ?_
        refine lv_icmp_ne (tgt := 58) hx hb d_Mo_array_50 (by decide) (fun c11 => ?_) (fun c11 => ?_)
        · have h := h.1 c11
          refine lv_aload_n hx hb d_Mo_array_58 rfl (lv_at hl 3 rfl) ?_
          refine gt_19_8 X w w_fl_Mo_23 d_Mo_array_59 ?_
          refine lv_iload hx hb d_Mo_array_62 (lv_at hl 0 rfl) ?_
          refine lv_iload_n hx hb d_Mo_array_64 rfl (lv_at hl 2 rfl) ?_
          obtain ⟨hi12, h⟩ := h
          refine as_24 X w hi12 d_Mo_array_65 (fun μ13 H locs eμ13 w => ?_)
          have h := h μ13 eμ13
          refine lv_aload_n hx hb d_Mo_array_66 rfl (lv_at hl 3 rfl) ?_
          refine gt_19_9 X w w_fl_Mo_26 d_Mo_array_67 ?_
          refine lv_iload hx hb d_Mo_array_70 (lv_at hl 0 rfl) ?_
          refine lv_iload_n hx hb d_Mo_array_72 rfl (lv_at hl 5 rfl) ?_
          obtain ⟨hi14, h⟩ := h
          refine as_25 X w hi14 d_Mo_array_73 (fun μ15 H locs eμ15 w => ?_)
          have h := h μ15 eμ15
          refine lv_aload_n hx hb d_Mo_array_74 rfl (lv_at hl 3 rfl) ?_
          refine lv_iload_n hx hb d_Mo_array_75 rfl (lv_at hl 4 rfl) ?_
          refine lv_iload hx hb d_Mo_array_76 (lv_at hl 0 rfl) ?_
          refine z_cVv (As := [.int a1, .int r10]) (rest := []) (q0 := 0) (ci := 6) X w (c_Mo_setRoot l E μ15 a1 r10 _ h) rfl rfl rfl w_ml_Mo_148 ⟨w_im_Mo_setRoot, w_se_Mo_setRoot⟩ w_in_Mo w_co_Mo_setRoot q_Mo_setRoot.1 q_Mo_setRoot.2 rfl ⟨Nat.le_of_ble_eq_true rfl, Nat.le_of_ble_eq_true rfl⟩ ⟨Nat.zero_le _, Nat.zero_le _⟩ hl.1 rfl (Nat.le_of_ble_eq_true rfl) d_Mo_array_78 (fun μ16 H locs h w => ?_)
          refine lv_aload_n hx hb d_Mo_array_81 rfl (lv_at hl 3 rfl) ?_
          refine lv_iload hx hb d_Mo_array_82 (lv_at hl 1 rfl) ?_
          refine z_cSi (As := [.int r8]) (rest := [.ref (E.2.1 19)]) X w (c_Mo_ticksOf l E μ16 r8 _ h) w_ml_Mo_152 w_st_Mo_ticksOf w_in_Mo w_co_Mo_ticksOf q_Mo_ticksOf.1 q_Mo_ticksOf.2 rfl ⟨Nat.le_of_ble_eq_true rfl, Nat.le_of_ble_eq_true rfl⟩ ⟨Nat.zero_le _, Nat.zero_le _⟩ hl.1 rfl (Nat.le_of_ble_eq_true rfl) d_Mo_array_84 (fun r18 μ17 H locs h w => ?_)
          refine z_cVv (As := [.int r18]) (rest := []) (q0 := 0) (ci := 6) X w (c_Mo_did l E μ17 r18 _ h) rfl rfl rfl w_ml_Mo_155 ⟨w_im_Mo_did, w_se_Mo_did⟩ w_in_Mo w_co_Mo_did q_Mo_did.1 q_Mo_did.2 rfl ⟨Nat.le_of_ble_eq_true rfl, Nat.le_of_ble_eq_true rfl⟩ ⟨Nat.zero_le _, Nat.zero_le _⟩ hl.1 rfl (Nat.le_of_ble_eq_true rfl) d_Mo_array_87 (fun μ19 H locs h w => ?_)
          refine lv_iconst (v := 1) hx hb d_Mo_array_90 (by decide) ?_
          refine lv_istore (lv' := [(6, .int (1 : Int32)), (5, .int r10), (4, .int r8), (3, .int x6), (0, .ref (E.2.1 19)), (1, .int a1), (2, .int a2)]) hx hb d_Mo_array_91 hl (by decide) rfl (fun ls hl => ?_)
          obtain ⟨n, h⟩ := h
          exact L_Mo_array_93 X hr hlk K n a1 x6 r10 (1 : Int32) μ19 _ _ _ h w (lv_sub hl [4, 5, 3, 1, 0] rfl)
        · have h := h.2 c11
          refine lv_aload_n hx hb d_Mo_array_53 rfl (lv_at hl 3 rfl) ?_
          refine z_cVi (As := []) (rest := []) (q0 := 0) (ci := 6) X w (c_Mo_failed l E μ9 _ h) rfl rfl rfl w_ml_Mo_145 ⟨w_im_Mo_failed, w_se_Mo_failed⟩ w_in_Mo w_co_Mo_failed q_Mo_failed.1 q_Mo_failed.2 rfl ⟨Nat.le_of_ble_eq_true rfl, Nat.le_of_ble_eq_true rfl⟩ ⟨Nat.zero_le _, Nat.zero_le _⟩ hl.1 rfl (Nat.le_of_ble_eq_true rfl) d_Mo_array_54 (fun r32 μ31 H locs h w => ?_)
          exact z_iret X hr hlk w h d_Mo_array_57
      · have h := h.2 c5
        refine lv_iconst (v := (-1)) hx hb d_Mo_array_20 (by decide) ?_
        exact z_iret X hr hlk w h d_Mo_array_21
theorem q_Mo_numberAt : (y_Mo_numberAt.cls ≠ "java/lang/invoke/MethodHandle" ∧ y_Mo_numberAt.cls ≠ "java/lang/invoke/VarHandle") ∧ (parseMethodDescriptor y_Mo_numberAt.desc).map (fun d => d.parameters.length) = some 2 := by decide +kernel
theorem d_Mo_numberAt_0 : decode prog_8_method_25_code 0 = .ok (.iload_n 1, 1) := by decide +kernel
theorem d_Mo_numberAt_1 : decode prog_8_method_25_code 1 = .ok (.invokestatic 134, 3) := by decide +kernel
theorem d_Mo_numberAt_4 : decode prog_8_method_25_code 4 = .ok (.ifCond .eq 12, 3) := by decide +kernel
theorem d_Mo_numberAt_7 : decode prog_8_method_25_code 7 = .ok (.aload_n 0, 1) := by decide +kernel
theorem d_Mo_numberAt_8 : decode prog_8_method_25_code 8 = .ok (.getfield 29, 3) := by decide +kernel
theorem d_Mo_numberAt_11 : decode prog_8_method_25_code 11 = .ok (.iload_n 1, 1) := by decide +kernel
theorem d_Mo_numberAt_12 : decode prog_8_method_25_code 12 = .ok (.iaload, 1) := by decide +kernel
theorem d_Mo_numberAt_13 : decode prog_8_method_25_code 13 = .ok (.goto 4, 3) := by decide +kernel
theorem d_Mo_numberAt_16 : decode prog_8_method_25_code 16 = .ok (.iconst (-1), 1) := by decide +kernel
theorem d_Mo_numberAt_17 : decode prog_8_method_25_code 17 = .ok (.istore_n 3, 1) := by decide +kernel
theorem d_Mo_numberAt_18 : decode prog_8_method_25_code 18 = .ok (.iload_n 3, 1) := by decide +kernel
theorem d_Mo_numberAt_19 : decode prog_8_method_25_code 19 = .ok (.iconst (-1), 1) := by decide +kernel
theorem d_Mo_numberAt_20 : decode prog_8_method_25_code 20 = .ok (.if_icmp .eq 17, 3) := by decide +kernel
theorem d_Mo_numberAt_23 : decode prog_8_method_25_code 23 = .ok (.iload_n 2, 1) := by decide +kernel
theorem d_Mo_numberAt_24 : decode prog_8_method_25_code 24 = .ok (.ifCond .lt 13, 3) := by decide +kernel
theorem d_Mo_numberAt_27 : decode prog_8_method_25_code 27 = .ok (.iload_n 2, 1) := by decide +kernel
theorem d_Mo_numberAt_28 : decode prog_8_method_25_code 28 = .ok (.aload_n 0, 1) := by decide +kernel
theorem d_Mo_numberAt_29 : decode prog_8_method_25_code 29 = .ok (.getfield 26, 3) := by decide +kernel
theorem d_Mo_numberAt_32 : decode prog_8_method_25_code 32 = .ok (.iload_n 3, 1) := by decide +kernel
theorem d_Mo_numberAt_33 : decode prog_8_method_25_code 33 = .ok (.iaload, 1) := by decide +kernel
theorem d_Mo_numberAt_34 : decode prog_8_method_25_code 34 = .ok (.if_icmp .lt 5, 3) := by decide +kernel
theorem d_Mo_numberAt_37 : decode prog_8_method_25_code 37 = .ok (.iconst (-1), 1) := by decide +kernel
theorem d_Mo_numberAt_38 : decode prog_8_method_25_code 38 = .ok (.ireturn, 1) := by decide +kernel
theorem d_Mo_numberAt_39 : decode prog_8_method_25_code 39 = .ok (.aload_n 0, 1) := by decide +kernel
theorem d_Mo_numberAt_40 : decode prog_8_method_25_code 40 = .ok (.getfield 16, 3) := by decide +kernel
theorem d_Mo_numberAt_43 : decode prog_8_method_25_code 43 = .ok (.iload_n 3, 1) := by decide +kernel
theorem d_Mo_numberAt_44 : decode prog_8_method_25_code 44 = .ok (.iaload, 1) := by decide +kernel
theorem d_Mo_numberAt_45 : decode prog_8_method_25_code 45 = .ok (.iconst 2, 1) := by decide +kernel
theorem d_Mo_numberAt_46 : decode prog_8_method_25_code 46 = .ok (.if_icmp .ne 26, 3) := by decide +kernel
theorem d_Mo_numberAt_49 : decode prog_8_method_25_code 49 = .ok (.aload_n 0, 1) := by decide +kernel
theorem d_Mo_numberAt_50 : decode prog_8_method_25_code 50 = .ok (.getfield 7, 3) := by decide +kernel
theorem d_Mo_numberAt_53 : decode prog_8_method_25_code 53 = .ok (.iload_n 3, 1) := by decide +kernel
theorem d_Mo_numberAt_54 : decode prog_8_method_25_code 54 = .ok (.iconst 1, 1) := by decide +kernel
theorem d_Mo_numberAt_55 : decode prog_8_method_25_code 55 = .ok (.iadd, 1) := by decide +kernel
theorem d_Mo_numberAt_56 : decode prog_8_method_25_code 56 = .ok (.iload_n 2, 1) := by decide +kernel
theorem d_Mo_numberAt_57 : decode prog_8_method_25_code 57 = .ok (.bipush 32, 2) := by decide +kernel
theorem d_Mo_numberAt_59 : decode prog_8_method_25_code 59 = .ok (.idiv, 1) := by decide +kernel
theorem d_Mo_numberAt_60 : decode prog_8_method_25_code 60 = .ok (.iadd, 1) := by decide +kernel
theorem d_Mo_numberAt_61 : decode prog_8_method_25_code 61 = .ok (.iaload, 1) := by decide +kernel
theorem d_Mo_numberAt_62 : decode prog_8_method_25_code 62 = .ok (.iconst 1, 1) := by decide +kernel
theorem d_Mo_numberAt_63 : decode prog_8_method_25_code 63 = .ok (.isub, 1) := by decide +kernel
theorem d_Mo_numberAt_64 : decode prog_8_method_25_code 64 = .ok (.iload_n 2, 1) := by decide +kernel
theorem d_Mo_numberAt_65 : decode prog_8_method_25_code 65 = .ok (.bipush 32, 2) := by decide +kernel
theorem d_Mo_numberAt_67 : decode prog_8_method_25_code 67 = .ok (.irem, 1) := by decide +kernel
theorem d_Mo_numberAt_68 : decode prog_8_method_25_code 68 = .ok (.iadd, 1) := by decide +kernel
theorem d_Mo_numberAt_69 : decode prog_8_method_25_code 69 = .ok (.goto 15, 3) := by decide +kernel
theorem d_Mo_numberAt_72 : decode prog_8_method_25_code 72 = .ok (.iload_n 3, 1) := by decide +kernel
theorem d_Mo_numberAt_73 : decode prog_8_method_25_code 73 = .ok (.iconst 1, 1) := by decide +kernel
theorem d_Mo_numberAt_74 : decode prog_8_method_25_code 74 = .ok (.iadd, 1) := by decide +kernel
theorem d_Mo_numberAt_75 : decode prog_8_method_25_code 75 = .ok (.aload_n 0, 1) := by decide +kernel
theorem d_Mo_numberAt_76 : decode prog_8_method_25_code 76 = .ok (.getfield 23, 3) := by decide +kernel
theorem d_Mo_numberAt_79 : decode prog_8_method_25_code 79 = .ok (.iload_n 3, 1) := by decide +kernel
theorem d_Mo_numberAt_80 : decode prog_8_method_25_code 80 = .ok (.iaload, 1) := by decide +kernel
theorem d_Mo_numberAt_81 : decode prog_8_method_25_code 81 = .ok (.iadd, 1) := by decide +kernel
theorem d_Mo_numberAt_82 : decode prog_8_method_25_code 82 = .ok (.iload_n 2, 1) := by decide +kernel
theorem d_Mo_numberAt_83 : decode prog_8_method_25_code 83 = .ok (.iadd, 1) := by decide +kernel
theorem d_Mo_numberAt_84 : decode prog_8_method_25_code 84 = .ok (.ireturn, 1) := by decide +kernel
def f_Mo_numberAt (μ : zM) (a1 a2 : Int32) (K : Int32 → zM → Prop) : Prop := f_Mo_isRoot μ a1 (fun r2 μ1 => ((r2 = 0 → (((-1 : Int32) = (-1 : Int32) → (K (-1 : Int32) μ1)) ∧ (¬ (-1 : Int32) = (-1 : Int32) → ((a2 < 0 → (K (-1 : Int32) μ1)) ∧ (¬ a2 < 0 → (vp_in (-1 : Int32) 4096 ∧ ((a2 < (μ1 25 (-1 : Int32).toNatClampNeg) → (vp_in (-1 : Int32) 4096 ∧ ((¬ (μ1 22 (-1 : Int32).toNatClampNeg) = (2 : Int32) → (vp_in (-1 : Int32) 4096 ∧ (K ((((-1 : Int32) + (1 : Int32)) + (μ1 24 (-1 : Int32).toNatClampNeg)) + a2) μ1))) ∧ ((μ1 22 (-1 : Int32).toNatClampNeg) = (2 : Int32) → (vp_in (((-1 : Int32) + (1 : Int32)) + (a2 / (32 : Int32))) 4096 ∧ (K (((μ1 20 (((-1 : Int32) + (1 : Int32)) + (a2 / (32 : Int32))).toNatClampNeg) - (1 : Int32)) + (a2 - a2 / (32 : Int32) * (32 : Int32))) μ1)))))) ∧ (¬ a2 < (μ1 25 (-1 : Int32).toNatClampNeg) → (K (-1 : Int32) μ1))))))))) ∧ (¬ r2 = 0 → (vp_in a1 16 ∧ (∀ x13 : Int32, x13 = (μ1 26 a1.toNatClampNeg) → ((x13 = (-1 : Int32) → (K (-1 : Int32) μ1)) ∧ (¬ x13 = (-1 : Int32) → ((a2 < 0 → (K (-1 : Int32) μ1)) ∧ (¬ a2 < 0 → (vp_in x13 4096 ∧ ((a2 < (μ1 25 x13.toNatClampNeg) → (vp_in x13 4096 ∧ ((¬ (μ1 22 x13.toNatClampNeg) = (2 : Int32) → (vp_in x13 4096 ∧ (K (((x13 + (1 : Int32)) + (μ1 24 x13.toNatClampNeg)) + a2) μ1))) ∧ ((μ1 22 x13.toNatClampNeg) = (2 : Int32) → (vp_in ((x13 + (1 : Int32)) + (a2 / (32 : Int32))) 4096 ∧ (K (((μ1 20 ((x13 + (1 : Int32)) + (a2 / (32 : Int32))).toNatClampNeg) - (1 : Int32)) + (a2 - a2 / (32 : Int32) * (32 : Int32))) μ1)))))) ∧ (¬ a2 < (μ1 25 x13.toNatClampNeg) → (K (-1 : Int32) μ1)))))))))))))
set_option maxHeartbeats 4000000 in
set_option maxRecDepth 100000 in
theorem c_Mo_numberAt (l : Launch) (E : zE) (μ : zM) (a1 a2 : Int32) (K : Int32 → zM → Prop) (h : f_Mo_numberAt μ a1 a2 K) : Met l y_Mo_numberAt (Cond.code y_Mo_numberAt prog_8_method_25_code 4 (some .int) :: zT) { frames := 1, cells := 0, slots := 0, locals := 20 } (va_Pc [.ref (E.2.1 19), .int a1, .int a2] (zR zwM E μ)) (va_Qi K (zR zwM E) (zA E)) 0 0 (zA E) := by
  refine z_head (by decide) (Nat.le_of_ble_eq_true rfl) ?_
  intro p e s m below meth c X hr hlk w ls hl
  have X : zX E p s m _ c prog_8_method_25_code "BeatHeapModel" 4 := X
  have hx := X.1
  have hb := X.2.1
  have hl : lv_has ls 4 [(0, .ref (E.2.1 19)), (1, .int a1), (2, .int a2)] := hl
  unfold f_Mo_numberAt at h
  refine lv_iload_n hx hb d_Mo_numberAt_0 rfl (lv_at hl 1 rfl) ?_
  refine z_cSi (As := [.int a1]) (rest := []) X w (c_Mo_isRoot l E μ a1 _ h) w_ml_Mo_134 w_st_Mo_isRoot w_in_Mo w_co_Mo_isRoot q_Mo_isRoot.1 q_Mo_isRoot.2 rfl ⟨Nat.le_of_ble_eq_true rfl, Nat.le_of_ble_eq_true rfl⟩ ⟨Nat.zero_le _, Nat.zero_le _⟩ hl.1 rfl (Nat.le_of_ble_eq_true rfl) d_Mo_numberAt_1 (fun r2 μ1 H locs h w => ?_)
  refine lv_if_eq (tgt := 16) hx hb d_Mo_numberAt_4 (by decide) (fun c3 => ?_) (fun c3 => ?_)
  · have h := h.1 c3
    refine lv_iconst (v := (-1)) hx hb d_Mo_numberAt_16 (by decide) ?_
    refine lv_istore_n (lv' := [(3, .int (-1 : Int32)), (0, .ref (E.2.1 19)), (1, .int a1), (2, .int a2)]) hx hb d_Mo_numberAt_17 rfl hl (by decide) rfl (fun ls hl => ?_)
    refine lv_iload_n hx hb d_Mo_numberAt_18 rfl (lv_at hl 0 rfl) ?_
    refine lv_iconst (v := (-1)) hx hb d_Mo_numberAt_19 (by decide) ?_
    refine lv_icmp_eq (tgt := 37) hx hb d_Mo_numberAt_20 (by decide) (fun c4 => ?_) (fun c4 => ?_)
    · have h := h.1 c4
      refine lv_iconst (v := (-1)) hx hb d_Mo_numberAt_37 (by decide) ?_
      exact z_iret X hr hlk w h d_Mo_numberAt_38
    · have h := h.2 c4
      refine lv_iload_n hx hb d_Mo_numberAt_23 rfl (lv_at hl 3 rfl) ?_
      refine lv_if_lt (tgt := 37) hx hb d_Mo_numberAt_24 (by decide) (fun c5 => ?_) (fun c5 => ?_)
      · have h := h.1 c5
        refine lv_iconst (v := (-1)) hx hb d_Mo_numberAt_37 (by decide) ?_
        exact z_iret X hr hlk w h d_Mo_numberAt_38
      · have h := h.2 c5
        refine lv_iload_n hx hb d_Mo_numberAt_27 rfl (lv_at hl 3 rfl) ?_
        refine lv_aload_n hx hb d_Mo_numberAt_28 rfl (lv_at hl 1 rfl) ?_
        refine gt_19_9 X w w_fl_Mo_26 d_Mo_numberAt_29 ?_
        refine lv_iload_n hx hb d_Mo_numberAt_32 rfl (lv_at hl 0 rfl) ?_
        obtain ⟨hi6, h⟩ := h
        refine al_25 X w hi6 d_Mo_numberAt_33 ?_
        refine lv_icmp_lt (tgt := 39) hx hb d_Mo_numberAt_34 (by decide) (fun c7 => ?_) (fun c7 => ?_)
        · have h := h.1 c7
          refine lv_aload_n hx hb d_Mo_numberAt_39 rfl (lv_at hl 1 rfl) ?_
          refine gt_19_6 X w w_fl_Mo_16 d_Mo_numberAt_40 ?_
          refine lv_iload_n hx hb d_Mo_numberAt_43 rfl (lv_at hl 0 rfl) ?_
          obtain ⟨hi8, h⟩ := h
          refine al_22 X w hi8 d_Mo_numberAt_44 ?_
          refine lv_iconst (v := 2) hx hb d_Mo_numberAt_45 (by decide) ?_
          refine lv_icmp_ne (tgt := 72) hx hb d_Mo_numberAt_46 (by decide) (fun c9 => ?_) (fun c9 => ?_)
          · have h := h.1 c9
            refine lv_iload_n hx hb d_Mo_numberAt_72 rfl (lv_at hl 0 rfl) ?_
            refine lv_iconst (v := 1) hx hb d_Mo_numberAt_73 (by decide) ?_
            refine lv_iadd hx hb d_Mo_numberAt_74 ?_
            refine lv_aload_n hx hb d_Mo_numberAt_75 rfl (lv_at hl 1 rfl) ?_
            refine gt_19_8 X w w_fl_Mo_23 d_Mo_numberAt_76 ?_
            refine lv_iload_n hx hb d_Mo_numberAt_79 rfl (lv_at hl 0 rfl) ?_
            obtain ⟨hi10, h⟩ := h
            refine al_24 X w hi10 d_Mo_numberAt_80 ?_
            refine lv_iadd hx hb d_Mo_numberAt_81 ?_
            refine lv_iload_n hx hb d_Mo_numberAt_82 rfl (lv_at hl 3 rfl) ?_
            refine lv_iadd hx hb d_Mo_numberAt_83 ?_
            exact z_iret X hr hlk w h d_Mo_numberAt_84
          · have h := h.2 c9
            refine lv_aload_n hx hb d_Mo_numberAt_49 rfl (lv_at hl 1 rfl) ?_
            refine gt_19_4 X w w_fl_Mo_7 d_Mo_numberAt_50 ?_
            refine lv_iload_n hx hb d_Mo_numberAt_53 rfl (lv_at hl 0 rfl) ?_
            refine lv_iconst (v := 1) hx hb d_Mo_numberAt_54 (by decide) ?_
            refine lv_iadd hx hb d_Mo_numberAt_55 ?_
            refine lv_iload_n hx hb d_Mo_numberAt_56 rfl (lv_at hl 3 rfl) ?_
            refine lv_bipush (v := 32) hx hb d_Mo_numberAt_57 (by decide) ?_
            refine lv_idiv hx hb d_Mo_numberAt_59 (by decide) ?_
            refine lv_iadd hx hb d_Mo_numberAt_60 ?_
            obtain ⟨hi11, h⟩ := h
            refine al_20 X w hi11 d_Mo_numberAt_61 ?_
            refine lv_iconst (v := 1) hx hb d_Mo_numberAt_62 (by decide) ?_
            refine lv_isub hx hb d_Mo_numberAt_63 ?_
            refine lv_iload_n hx hb d_Mo_numberAt_64 rfl (lv_at hl 3 rfl) ?_
            refine lv_bipush (v := 32) hx hb d_Mo_numberAt_65 (by decide) ?_
            refine lv_irem hx hb d_Mo_numberAt_67 (by decide) ?_
            refine lv_iadd hx hb d_Mo_numberAt_68 ?_
            refine lv_goto (tgt := 84) hx hb d_Mo_numberAt_69 (by decide) ?_
            exact z_iret X hr hlk w h d_Mo_numberAt_84
        · have h := h.2 c7
          refine lv_iconst (v := (-1)) hx hb d_Mo_numberAt_37 (by decide) ?_
          exact z_iret X hr hlk w h d_Mo_numberAt_38
  · have h := h.2 c3
    refine lv_aload_n hx hb d_Mo_numberAt_7 rfl (lv_at hl 0 rfl) ?_
    refine gt_19_10 X w w_fl_Mo_29 d_Mo_numberAt_8 ?_
    refine lv_iload_n hx hb d_Mo_numberAt_11 rfl (lv_at hl 1 rfl) ?_
    obtain ⟨hi12, h⟩ := h
    refine al_26 X w hi12 d_Mo_numberAt_12 ?_
    refine lv_goto (tgt := 17) hx hb d_Mo_numberAt_13 (by decide) ?_
    refine lv_topi (fun x13 ex13 => ?_)
    have h := h x13 ex13
    refine lv_istore_n (lv' := [(3, .int x13), (0, .ref (E.2.1 19)), (1, .int a1), (2, .int a2)]) hx hb d_Mo_numberAt_17 rfl hl (by decide) rfl (fun ls hl => ?_)
    refine lv_iload_n hx hb d_Mo_numberAt_18 rfl (lv_at hl 0 rfl) ?_
    refine lv_iconst (v := (-1)) hx hb d_Mo_numberAt_19 (by decide) ?_
    refine lv_icmp_eq (tgt := 37) hx hb d_Mo_numberAt_20 (by decide) (fun c14 => ?_) (fun c14 => ?_)
    · have h := h.1 c14
      refine lv_iconst (v := (-1)) hx hb d_Mo_numberAt_37 (by decide) ?_
      exact z_iret X hr hlk w h d_Mo_numberAt_38
    · have h := h.2 c14
      refine lv_iload_n hx hb d_Mo_numberAt_23 rfl (lv_at hl 3 rfl) ?_
      refine lv_if_lt (tgt := 37) hx hb d_Mo_numberAt_24 (by decide) (fun c15 => ?_) (fun c15 => ?_)
      · have h := h.1 c15
        refine lv_iconst (v := (-1)) hx hb d_Mo_numberAt_37 (by decide) ?_
        exact z_iret X hr hlk w h d_Mo_numberAt_38
      · have h := h.2 c15
        refine lv_iload_n hx hb d_Mo_numberAt_27 rfl (lv_at hl 3 rfl) ?_
        refine lv_aload_n hx hb d_Mo_numberAt_28 rfl (lv_at hl 1 rfl) ?_
        refine gt_19_9 X w w_fl_Mo_26 d_Mo_numberAt_29 ?_
        refine lv_iload_n hx hb d_Mo_numberAt_32 rfl (lv_at hl 0 rfl) ?_
        obtain ⟨hi16, h⟩ := h
        refine al_25 X w hi16 d_Mo_numberAt_33 ?_
        refine lv_icmp_lt (tgt := 39) hx hb d_Mo_numberAt_34 (by decide) (fun c17 => ?_) (fun c17 => ?_)
        · have h := h.1 c17
          refine lv_aload_n hx hb d_Mo_numberAt_39 rfl (lv_at hl 1 rfl) ?_
          refine gt_19_6 X w w_fl_Mo_16 d_Mo_numberAt_40 ?_
          refine lv_iload_n hx hb d_Mo_numberAt_43 rfl (lv_at hl 0 rfl) ?_
          obtain ⟨hi18, h⟩ := h
          refine al_22 X w hi18 d_Mo_numberAt_44 ?_
          refine lv_iconst (v := 2) hx hb d_Mo_numberAt_45 (by decide) ?_
          refine lv_icmp_ne (tgt := 72) hx hb d_Mo_numberAt_46 (by decide) (fun c19 => ?_) (fun c19 => ?_)
          · have h := h.1 c19
            refine lv_iload_n hx hb d_Mo_numberAt_72 rfl (lv_at hl 0 rfl) ?_
            refine lv_iconst (v := 1) hx hb d_Mo_numberAt_73 (by decide) ?_
            refine lv_iadd hx hb d_Mo_numberAt_74 ?_
            refine lv_aload_n hx hb d_Mo_numberAt_75 rfl (lv_at hl 1 rfl) ?_
            refine gt_19_8 X w w_fl_Mo_23 d_Mo_numberAt_76 ?_
            refine lv_iload_n hx hb d_Mo_numberAt_79 rfl (lv_at hl 0 rfl) ?_
            obtain ⟨hi20, h⟩ := h
            refine al_24 X w hi20 d_Mo_numberAt_80 ?_
            refine lv_iadd hx hb d_Mo_numberAt_81 ?_
            refine lv_iload_n hx hb d_Mo_numberAt_82 rfl (lv_at hl 3 rfl) ?_
            refine lv_iadd hx hb d_Mo_numberAt_83 ?_
            exact z_iret X hr hlk w h d_Mo_numberAt_84
          · have h := h.2 c19
            refine lv_aload_n hx hb d_Mo_numberAt_49 rfl (lv_at hl 1 rfl) ?_
            refine gt_19_4 X w w_fl_Mo_7 d_Mo_numberAt_50 ?_
            refine lv_iload_n hx hb d_Mo_numberAt_53 rfl (lv_at hl 0 rfl) ?_
            refine lv_iconst (v := 1) hx hb d_Mo_numberAt_54 (by decide) ?_
            refine lv_iadd hx hb d_Mo_numberAt_55 ?_
            refine lv_iload_n hx hb d_Mo_numberAt_56 rfl (lv_at hl 3 rfl) ?_
            refine lv_bipush (v := 32) hx hb d_Mo_numberAt_57 (by decide) ?_
            refine lv_idiv hx hb d_Mo_numberAt_59 (by decide) ?_
            refine lv_iadd hx hb d_Mo_numberAt_60 ?_
            obtain ⟨hi21, h⟩ := h
            refine al_20 X w hi21 d_Mo_numberAt_61 ?_
            refine lv_iconst (v := 1) hx hb d_Mo_numberAt_62 (by decide) ?_
            refine lv_isub hx hb d_Mo_numberAt_63 ?_
            refine lv_iload_n hx hb d_Mo_numberAt_64 rfl (lv_at hl 3 rfl) ?_
            refine lv_bipush (v := 32) hx hb d_Mo_numberAt_65 (by decide) ?_
            refine lv_irem hx hb d_Mo_numberAt_67 (by decide) ?_
            refine lv_iadd hx hb d_Mo_numberAt_68 ?_
            refine lv_goto (tgt := 84) hx hb d_Mo_numberAt_69 (by decide) ?_
            exact z_iret X hr hlk w h d_Mo_numberAt_84
        · have h := h.2 c17
          refine lv_iconst (v := (-1)) hx hb d_Mo_numberAt_37 (by decide) ?_
          exact z_iret X hr hlk w h d_Mo_numberAt_38
theorem q_Mo_put : (y_Mo_put.cls ≠ "java/lang/invoke/MethodHandle" ∧ y_Mo_put.cls ≠ "java/lang/invoke/VarHandle") ∧ (parseMethodDescriptor y_Mo_put.desc).map (fun d => d.parameters.length) = some 3 := by decide +kernel
theorem d_Mo_put_0 : decode prog_8_method_26_code 0 = .ok (.aload_n 0, 1) := by decide +kernel
theorem d_Mo_put_1 : decode prog_8_method_26_code 1 = .ok (.iload_n 1, 1) := by decide +kernel
theorem d_Mo_put_2 : decode prog_8_method_26_code 2 = .ok (.iload_n 2, 1) := by decide +kernel
theorem d_Mo_put_3 : decode prog_8_method_26_code 3 = .ok (.invokevirtual 158, 3) := by decide +kernel
theorem d_Mo_put_6 : decode prog_8_method_26_code 6 = .ok (.istore 4, 2) := by decide +kernel
theorem d_Mo_put_8 : decode prog_8_method_26_code 8 = .ok (.iload 4, 2) := by decide +kernel
theorem d_Mo_put_10 : decode prog_8_method_26_code 10 = .ok (.iconst (-1), 1) := by decide +kernel
theorem d_Mo_put_11 : decode prog_8_method_26_code 11 = .ok (.if_icmp .ne 5, 3) := by decide +kernel
theorem d_Mo_put_14 : decode prog_8_method_26_code 14 = .ok (.iconst 0, 1) := by decide +kernel
theorem d_Mo_put_15 : decode prog_8_method_26_code 15 = .ok (.ireturn, 1) := by decide +kernel
theorem d_Mo_put_16 : decode prog_8_method_26_code 16 = .ok (.aload_n 0, 1) := by decide +kernel
theorem d_Mo_put_17 : decode prog_8_method_26_code 17 = .ok (.getfield 7, 3) := by decide +kernel
theorem d_Mo_put_20 : decode prog_8_method_26_code 20 = .ok (.iload 4, 2) := by decide +kernel
theorem d_Mo_put_22 : decode prog_8_method_26_code 22 = .ok (.iload_n 3, 1) := by decide +kernel
theorem d_Mo_put_23 : decode prog_8_method_26_code 23 = .ok (.iastore, 1) := by decide +kernel
theorem d_Mo_put_24 : decode prog_8_method_26_code 24 = .ok (.aload_n 0, 1) := by decide +kernel
theorem d_Mo_put_25 : decode prog_8_method_26_code 25 = .ok (.iconst 1, 1) := by decide +kernel
theorem d_Mo_put_26 : decode prog_8_method_26_code 26 = .ok (.invokevirtual 155, 3) := by decide +kernel
theorem d_Mo_put_29 : decode prog_8_method_26_code 29 = .ok (.iconst 1, 1) := by decide +kernel
theorem d_Mo_put_30 : decode prog_8_method_26_code 30 = .ok (.ireturn, 1) := by decide +kernel
def f_Mo_put (μ : zM) (a1 a2 a3 : Int32) (K : Int32 → zM → Prop) : Prop := f_Mo_numberAt μ a1 a2 (fun r2 μ1 => ((¬ r2 = (-1 : Int32) → (vp_in r2 4096 ∧ ∀ μ5 : zM, μ5 = zp μ1 20 r2.toNatClampNeg a3 → (f_Mo_did μ5 (1 : Int32) (fun μ6 => (K (1 : Int32) μ6))))) ∧ (r2 = (-1 : Int32) → (K (0 : Int32) μ1))))
set_option maxHeartbeats 4000000 in
set_option maxRecDepth 100000 in
theorem c_Mo_put (l : Launch) (E : zE) (μ : zM) (a1 a2 a3 : Int32) (K : Int32 → zM → Prop) (h : f_Mo_put μ a1 a2 a3 K) : Met l y_Mo_put (Cond.code y_Mo_put prog_8_method_26_code 5 (some .boolean) :: zT) { frames := 5, cells := 0, slots := 0, locals := 106 } (va_Pc [.ref (E.2.1 19), .int a1, .int a2, .int a3] (zR zwM E μ)) (va_Qi K (zR zwM E) (zA E)) 0 0 (zA E) := by
  refine z_head (by decide) (Nat.le_of_ble_eq_true rfl) ?_
  intro p e s m below meth c X hr hlk w ls hl
  have X : zX E p s m _ c prog_8_method_26_code "BeatHeapModel" 5 := X
  have hx := X.1
  have hb := X.2.1
  have hl : lv_has ls 5 [(0, .ref (E.2.1 19)), (1, .int a1), (2, .int a2), (3, .int a3)] := hl
  unfold f_Mo_put at h
  refine lv_aload_n hx hb d_Mo_put_0 rfl (lv_at hl 0 rfl) ?_
  refine lv_iload_n hx hb d_Mo_put_1 rfl (lv_at hl 1 rfl) ?_
  refine lv_iload_n hx hb d_Mo_put_2 rfl (lv_at hl 2 rfl) ?_
  refine z_cVi (As := [.int a1, .int a2]) (rest := []) (q0 := 0) (ci := 6) X w (c_Mo_numberAt l E μ a1 a2 _ h) rfl rfl rfl w_ml_Mo_158 ⟨w_im_Mo_numberAt, w_se_Mo_numberAt⟩ w_in_Mo w_co_Mo_numberAt q_Mo_numberAt.1 q_Mo_numberAt.2 rfl ⟨Nat.le_of_ble_eq_true rfl, Nat.le_of_ble_eq_true rfl⟩ ⟨Nat.zero_le _, Nat.zero_le _⟩ hl.1 rfl (Nat.le_of_ble_eq_true rfl) d_Mo_put_3 (fun r2 μ1 H locs h w => ?_)
  refine lv_istore (lv' := [(4, .int r2), (0, .ref (E.2.1 19)), (1, .int a1), (2, .int a2), (3, .int a3)]) hx hb d_Mo_put_6 hl (by decide) rfl (fun ls hl => ?_)
  refine lv_iload hx hb d_Mo_put_8 (lv_at hl 0 rfl) ?_
  refine lv_iconst (v := (-1)) hx hb d_Mo_put_10 (by decide) ?_
  refine lv_icmp_ne (tgt := 16) hx hb d_Mo_put_11 (by decide) (fun c3 => ?_) (fun c3 => ?_)
  · have h := h.1 c3
    refine lv_aload_n hx hb d_Mo_put_16 rfl (lv_at hl 1 rfl) ?_
    refine gt_19_4 X w w_fl_Mo_7 d_Mo_put_17 ?_
    refine lv_iload hx hb d_Mo_put_20 (lv_at hl 0 rfl) ?_
    refine lv_iload_n hx hb d_Mo_put_22 rfl (lv_at hl 4 rfl) ?_
    obtain ⟨hi4, h⟩ := h
    refine as_20 X w hi4 d_Mo_put_23 (fun μ5 H locs eμ5 w => ?_)
    have h := h μ5 eμ5
    refine lv_aload_n hx hb d_Mo_put_24 rfl (lv_at hl 1 rfl) ?_
    refine lv_iconst (v := 1) hx hb d_Mo_put_25 (by decide) ?_
    refine z_cVv (As := [.int (1 : Int32)]) (rest := []) (q0 := 0) (ci := 6) X w (c_Mo_did l E μ5 (1 : Int32) _ h) rfl rfl rfl w_ml_Mo_155 ⟨w_im_Mo_did, w_se_Mo_did⟩ w_in_Mo w_co_Mo_did q_Mo_did.1 q_Mo_did.2 rfl ⟨Nat.le_of_ble_eq_true rfl, Nat.le_of_ble_eq_true rfl⟩ ⟨Nat.zero_le _, Nat.zero_le _⟩ hl.1 rfl (Nat.le_of_ble_eq_true rfl) d_Mo_put_26 (fun μ6 H locs h w => ?_)
    refine lv_iconst (v := 1) hx hb d_Mo_put_29 (by decide) ?_
    exact z_zret X hr hlk w (by decide) h d_Mo_put_30
  · have h := h.2 c3
    refine lv_iconst (v := 0) hx hb d_Mo_put_14 (by decide) ?_
    exact z_zret X hr hlk w (by decide) h d_Mo_put_15
theorem q_Mo_get : (y_Mo_get.cls ≠ "java/lang/invoke/MethodHandle" ∧ y_Mo_get.cls ≠ "java/lang/invoke/VarHandle") ∧ (parseMethodDescriptor y_Mo_get.desc).map (fun d => d.parameters.length) = some 2 := by decide +kernel
theorem d_Mo_get_0 : decode prog_8_method_27_code 0 = .ok (.aload_n 0, 1) := by decide +kernel
theorem d_Mo_get_1 : decode prog_8_method_27_code 1 = .ok (.iload_n 1, 1) := by decide +kernel
theorem d_Mo_get_2 : decode prog_8_method_27_code 2 = .ok (.iload_n 2, 1) := by decide +kernel
theorem d_Mo_get_3 : decode prog_8_method_27_code 3 = .ok (.invokevirtual 158, 3) := by decide +kernel
theorem d_Mo_get_6 : decode prog_8_method_27_code 6 = .ok (.istore_n 3, 1) := by decide +kernel
theorem d_Mo_get_7 : decode prog_8_method_27_code 7 = .ok (.iload_n 3, 1) := by decide +kernel
theorem d_Mo_get_8 : decode prog_8_method_27_code 8 = .ok (.iconst (-1), 1) := by decide +kernel
theorem d_Mo_get_9 : decode prog_8_method_27_code 9 = .ok (.if_icmp .ne 5, 3) := by decide +kernel
theorem d_Mo_get_12 : decode prog_8_method_27_code 12 = .ok (.iconst 0, 1) := by decide +kernel
theorem d_Mo_get_13 : decode prog_8_method_27_code 13 = .ok (.ireturn, 1) := by decide +kernel
theorem d_Mo_get_14 : decode prog_8_method_27_code 14 = .ok (.aload_n 0, 1) := by decide +kernel
theorem d_Mo_get_15 : decode prog_8_method_27_code 15 = .ok (.getfield 7, 3) := by decide +kernel
theorem d_Mo_get_18 : decode prog_8_method_27_code 18 = .ok (.iload_n 3, 1) := by decide +kernel
theorem d_Mo_get_19 : decode prog_8_method_27_code 19 = .ok (.iaload, 1) := by decide +kernel
theorem d_Mo_get_20 : decode prog_8_method_27_code 20 = .ok (.istore 4, 2) := by decide +kernel
theorem d_Mo_get_22 : decode prog_8_method_27_code 22 = .ok (.aload_n 0, 1) := by decide +kernel
theorem d_Mo_get_23 : decode prog_8_method_27_code 23 = .ok (.iconst 1, 1) := by decide +kernel
theorem d_Mo_get_24 : decode prog_8_method_27_code 24 = .ok (.invokevirtual 155, 3) := by decide +kernel
theorem d_Mo_get_27 : decode prog_8_method_27_code 27 = .ok (.iload 4, 2) := by decide +kernel
theorem d_Mo_get_29 : decode prog_8_method_27_code 29 = .ok (.ireturn, 1) := by decide +kernel
def f_Mo_get (μ : zM) (a1 a2 : Int32) (K : Int32 → zM → Prop) : Prop := f_Mo_numberAt μ a1 a2 (fun r2 μ1 => ((¬ r2 = (-1 : Int32) → (vp_in r2 4096 ∧ (∀ x5 : Int32, x5 = (μ1 20 r2.toNatClampNeg) → (f_Mo_did μ1 (1 : Int32) (fun μ6 => (K x5 μ6)))))) ∧ (r2 = (-1 : Int32) → (K (0 : Int32) μ1))))
set_option maxHeartbeats 4000000 in
set_option maxRecDepth 100000 in
theorem c_Mo_get (l : Launch) (E : zE) (μ : zM) (a1 a2 : Int32) (K : Int32 → zM → Prop) (h : f_Mo_get μ a1 a2 K) : Met l y_Mo_get (Cond.code y_Mo_get prog_8_method_27_code 5 (some .int) :: zT) { frames := 5, cells := 0, slots := 0, locals := 106 } (va_Pc [.ref (E.2.1 19), .int a1, .int a2] (zR zwM E μ)) (va_Qi K (zR zwM E) (zA E)) 0 0 (zA E) := by
  refine z_head (by decide) (Nat.le_of_ble_eq_true rfl) ?_
  intro p e s m below meth c X hr hlk w ls hl
  have X : zX E p s m _ c prog_8_method_27_code "BeatHeapModel" 5 := X
  have hx := X.1
  have hb := X.2.1
  have hl : lv_has ls 5 [(0, .ref (E.2.1 19)), (1, .int a1), (2, .int a2)] := hl
  unfold f_Mo_get at h
  refine lv_aload_n hx hb d_Mo_get_0 rfl (lv_at hl 0 rfl) ?_
  refine lv_iload_n hx hb d_Mo_get_1 rfl (lv_at hl 1 rfl) ?_
  refine lv_iload_n hx hb d_Mo_get_2 rfl (lv_at hl 2 rfl) ?_
  refine z_cVi (As := [.int a1, .int a2]) (rest := []) (q0 := 0) (ci := 6) X w (c_Mo_numberAt l E μ a1 a2 _ h) rfl rfl rfl w_ml_Mo_158 ⟨w_im_Mo_numberAt, w_se_Mo_numberAt⟩ w_in_Mo w_co_Mo_numberAt q_Mo_numberAt.1 q_Mo_numberAt.2 rfl ⟨Nat.le_of_ble_eq_true rfl, Nat.le_of_ble_eq_true rfl⟩ ⟨Nat.zero_le _, Nat.zero_le _⟩ hl.1 rfl (Nat.le_of_ble_eq_true rfl) d_Mo_get_3 (fun r2 μ1 H locs h w => ?_)
  refine lv_istore_n (lv' := [(3, .int r2), (0, .ref (E.2.1 19)), (1, .int a1), (2, .int a2)]) hx hb d_Mo_get_6 rfl hl (by decide) rfl (fun ls hl => ?_)
  refine lv_iload_n hx hb d_Mo_get_7 rfl (lv_at hl 0 rfl) ?_
  refine lv_iconst (v := (-1)) hx hb d_Mo_get_8 (by decide) ?_
  refine lv_icmp_ne (tgt := 14) hx hb d_Mo_get_9 (by decide) (fun c3 => ?_) (fun c3 => ?_)
  · have h := h.1 c3
    refine lv_aload_n hx hb d_Mo_get_14 rfl (lv_at hl 1 rfl) ?_
    refine gt_19_4 X w w_fl_Mo_7 d_Mo_get_15 ?_
    refine lv_iload_n hx hb d_Mo_get_18 rfl (lv_at hl 0 rfl) ?_
    obtain ⟨hi4, h⟩ := h
    refine al_20 X w hi4 d_Mo_get_19 ?_
    refine lv_topi (fun x5 ex5 => ?_)
    have h := h x5 ex5
    refine lv_istore (lv' := [(4, .int x5), (3, .int r2), (0, .ref (E.2.1 19)), (1, .int a1), (2, .int a2)]) hx hb d_Mo_get_20 hl (by decide) rfl (fun ls hl => ?_)
    refine lv_aload_n hx hb d_Mo_get_22 rfl (lv_at hl 2 rfl) ?_
    refine lv_iconst (v := 1) hx hb d_Mo_get_23 (by decide) ?_
    refine z_cVv (As := [.int (1 : Int32)]) (rest := []) (q0 := 0) (ci := 6) X w (c_Mo_did l E μ1 (1 : Int32) _ h) rfl rfl rfl w_ml_Mo_155 ⟨w_im_Mo_did, w_se_Mo_did⟩ w_in_Mo w_co_Mo_did q_Mo_did.1 q_Mo_did.2 rfl ⟨Nat.le_of_ble_eq_true rfl, Nat.le_of_ble_eq_true rfl⟩ ⟨Nat.zero_le _, Nat.zero_le _⟩ hl.1 rfl (Nat.le_of_ble_eq_true rfl) d_Mo_get_24 (fun μ6 H locs h w => ?_)
    refine lv_iload hx hb d_Mo_get_27 (lv_at hl 0 rfl) ?_
    exact z_iret X hr hlk w h d_Mo_get_29
  · have h := h.2 c3
    refine lv_iconst (v := 0) hx hb d_Mo_get_12 (by decide) ?_
    exact z_iret X hr hlk w h d_Mo_get_13
