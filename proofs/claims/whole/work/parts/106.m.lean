theorem q_Bh_numberAddress : (y_Bh_numberAddress.cls ≠ "java/lang/invoke/MethodHandle" ∧ y_Bh_numberAddress.cls ≠ "java/lang/invoke/VarHandle") ∧ (parseMethodDescriptor y_Bh_numberAddress.desc).map (fun d => d.parameters.length) = some 2 := by decide +kernel
theorem d_Bh_numberAddress_0 : decode prog_1_method_32_code 0 = .ok (.aload_n 0, 1) := by decide +kernel
theorem d_Bh_numberAddress_1 : decode prog_1_method_32_code 1 = .ok (.iload_n 1, 1) := by decide +kernel
theorem d_Bh_numberAddress_2 : decode prog_1_method_32_code 2 = .ok (.invokevirtual 91, 3) := by decide +kernel
theorem d_Bh_numberAddress_5 : decode prog_1_method_32_code 5 = .ok (.istore_n 3, 1) := by decide +kernel
theorem d_Bh_numberAddress_6 : decode prog_1_method_32_code 6 = .ok (.iload_n 3, 1) := by decide +kernel
theorem d_Bh_numberAddress_7 : decode prog_1_method_32_code 7 = .ok (.iconst (-1), 1) := by decide +kernel
theorem d_Bh_numberAddress_8 : decode prog_1_method_32_code 8 = .ok (.if_icmp .eq 19, 3) := by decide +kernel
theorem d_Bh_numberAddress_11 : decode prog_1_method_32_code 11 = .ok (.iload_n 2, 1) := by decide +kernel
theorem d_Bh_numberAddress_12 : decode prog_1_method_32_code 12 = .ok (.ifCond .lt 15, 3) := by decide +kernel
theorem d_Bh_numberAddress_15 : decode prog_1_method_32_code 15 = .ok (.iload_n 2, 1) := by decide +kernel
theorem d_Bh_numberAddress_16 : decode prog_1_method_32_code 16 = .ok (.aload_n 0, 1) := by decide +kernel
theorem d_Bh_numberAddress_17 : decode prog_1_method_32_code 17 = .ok (.getfield 20, 3) := by decide +kernel
theorem d_Bh_numberAddress_20 : decode prog_1_method_32_code 20 = .ok (.iload_n 3, 1) := by decide +kernel
theorem d_Bh_numberAddress_21 : decode prog_1_method_32_code 21 = .ok (.invokevirtual 107, 3) := by decide +kernel
theorem d_Bh_numberAddress_24 : decode prog_1_method_32_code 24 = .ok (.if_icmp .lt 5, 3) := by decide +kernel
theorem d_Bh_numberAddress_27 : decode prog_1_method_32_code 27 = .ok (.iconst (-1), 1) := by decide +kernel
theorem d_Bh_numberAddress_28 : decode prog_1_method_32_code 28 = .ok (.ireturn, 1) := by decide +kernel
theorem d_Bh_numberAddress_29 : decode prog_1_method_32_code 29 = .ok (.aload_n 0, 1) := by decide +kernel
theorem d_Bh_numberAddress_30 : decode prog_1_method_32_code 30 = .ok (.getfield 20, 3) := by decide +kernel
theorem d_Bh_numberAddress_33 : decode prog_1_method_32_code 33 = .ok (.iload_n 3, 1) := by decide +kernel
theorem d_Bh_numberAddress_34 : decode prog_1_method_32_code 34 = .ok (.invokevirtual 113, 3) := by decide +kernel
theorem d_Bh_numberAddress_37 : decode prog_1_method_32_code 37 = .ok (.iconst 2, 1) := by decide +kernel
theorem d_Bh_numberAddress_38 : decode prog_1_method_32_code 38 = .ok (.if_icmp .eq 18, 3) := by decide +kernel
theorem d_Bh_numberAddress_41 : decode prog_1_method_32_code 41 = .ok (.iload_n 3, 1) := by decide +kernel
theorem d_Bh_numberAddress_42 : decode prog_1_method_32_code 42 = .ok (.iconst 1, 1) := by decide +kernel
theorem d_Bh_numberAddress_43 : decode prog_1_method_32_code 43 = .ok (.iadd, 1) := by decide +kernel
theorem d_Bh_numberAddress_44 : decode prog_1_method_32_code 44 = .ok (.aload_n 0, 1) := by decide +kernel
theorem d_Bh_numberAddress_45 : decode prog_1_method_32_code 45 = .ok (.getfield 20, 3) := by decide +kernel
theorem d_Bh_numberAddress_48 : decode prog_1_method_32_code 48 = .ok (.iload_n 3, 1) := by decide +kernel
theorem d_Bh_numberAddress_49 : decode prog_1_method_32_code 49 = .ok (.invokevirtual 104, 3) := by decide +kernel
theorem d_Bh_numberAddress_52 : decode prog_1_method_32_code 52 = .ok (.iadd, 1) := by decide +kernel
theorem d_Bh_numberAddress_53 : decode prog_1_method_32_code 53 = .ok (.iload_n 2, 1) := by decide +kernel
theorem d_Bh_numberAddress_54 : decode prog_1_method_32_code 54 = .ok (.iadd, 1) := by decide +kernel
theorem d_Bh_numberAddress_55 : decode prog_1_method_32_code 55 = .ok (.ireturn, 1) := by decide +kernel
theorem d_Bh_numberAddress_56 : decode prog_1_method_32_code 56 = .ok (.aload_n 0, 1) := by decide +kernel
theorem d_Bh_numberAddress_57 : decode prog_1_method_32_code 57 = .ok (.getfield 20, 3) := by decide +kernel
theorem d_Bh_numberAddress_60 : decode prog_1_method_32_code 60 = .ok (.iload_n 3, 1) := by decide +kernel
theorem d_Bh_numberAddress_61 : decode prog_1_method_32_code 61 = .ok (.iconst 1, 1) := by decide +kernel
theorem d_Bh_numberAddress_62 : decode prog_1_method_32_code 62 = .ok (.iadd, 1) := by decide +kernel
theorem d_Bh_numberAddress_63 : decode prog_1_method_32_code 63 = .ok (.iload_n 2, 1) := by decide +kernel
theorem d_Bh_numberAddress_64 : decode prog_1_method_32_code 64 = .ok (.bipush 32, 2) := by decide +kernel
theorem d_Bh_numberAddress_66 : decode prog_1_method_32_code 66 = .ok (.idiv, 1) := by decide +kernel
theorem d_Bh_numberAddress_67 : decode prog_1_method_32_code 67 = .ok (.iadd, 1) := by decide +kernel
theorem d_Bh_numberAddress_68 : decode prog_1_method_32_code 68 = .ok (.invokevirtual 85, 3) := by decide +kernel
theorem d_Bh_numberAddress_71 : decode prog_1_method_32_code 71 = .ok (.istore 4, 2) := by decide +kernel
theorem d_Bh_numberAddress_73 : decode prog_1_method_32_code 73 = .ok (.iload 4, 2) := by decide +kernel
theorem d_Bh_numberAddress_75 : decode prog_1_method_32_code 75 = .ok (.iconst (-1), 1) := by decide +kernel
theorem d_Bh_numberAddress_76 : decode prog_1_method_32_code 76 = .ok (.if_icmp .ne 7, 3) := by decide +kernel
theorem d_Bh_numberAddress_79 : decode prog_1_method_32_code 79 = .ok (.iconst (-1), 1) := by decide +kernel
theorem d_Bh_numberAddress_80 : decode prog_1_method_32_code 80 = .ok (.goto 10, 3) := by decide +kernel
theorem d_Bh_numberAddress_83 : decode prog_1_method_32_code 83 = .ok (.iload 4, 2) := by decide +kernel
theorem d_Bh_numberAddress_85 : decode prog_1_method_32_code 85 = .ok (.iload_n 2, 1) := by decide +kernel
theorem d_Bh_numberAddress_86 : decode prog_1_method_32_code 86 = .ok (.bipush 32, 2) := by decide +kernel
theorem d_Bh_numberAddress_88 : decode prog_1_method_32_code 88 = .ok (.irem, 1) := by decide +kernel
theorem d_Bh_numberAddress_89 : decode prog_1_method_32_code 89 = .ok (.iadd, 1) := by decide +kernel
theorem d_Bh_numberAddress_90 : decode prog_1_method_32_code 90 = .ok (.ireturn, 1) := by decide +kernel
def f_Bh_numberAddress (μ : zM) (a1 a2 : Int32) (K : Int32 → zM → Prop) : Prop := f_Bh_rootOrNone μ a1 (fun r2 μ1 => ((r2 = (-1 : Int32) → (K (-1 : Int32) μ1)) ∧ (¬ r2 = (-1 : Int32) → ((a2 < 0 → (K (-1 : Int32) μ1)) ∧ (¬ a2 < 0 → (f_Bk_numbersOf μ1 r2 (fun r6 μ5 => ((a2 < r6 → (f_Bk_kindOf μ5 r2 (fun r9 μ8 => ((r9 = (2 : Int32) → (f_Bk_pointerAt μ8 ((r2 + (1 : Int32)) + (a2 / (32 : Int32))) (fun r12 μ11 => ((¬ r12 = (-1 : Int32) → (K (r12 + (a2 - a2 / (32 : Int32) * (32 : Int32))) μ11)) ∧ (r12 = (-1 : Int32) → (K (-1 : Int32) μ11)))))) ∧ (¬ r9 = (2 : Int32) → (f_Bk_pointersOf μ8 r2 (fun r15 μ14 => (K (((r2 + (1 : Int32)) + r15) + a2) μ14)))))))) ∧ (¬ a2 < r6 → (K (-1 : Int32) μ5))))))))))
set_option maxHeartbeats 4000000 in
set_option maxRecDepth 100000 in
theorem c_Bh_numberAddress (l : Launch) (E : zE) (μ : zM) (a1 a2 : Int32) (K : Int32 → zM → Prop) (h : f_Bh_numberAddress μ a1 a2 K) : Met l y_Bh_numberAddress (Cond.code y_Bh_numberAddress prog_1_method_32_code 5 (some .int) :: zT) { frames := 3, cells := 0, slots := 0, locals := 63 } (va_Pc [.ref (E.2.1 0), .int a1, .int a2] (zR zwC E μ)) (va_Qi K (zR zwC E) (zA E)) 0 0 (zA E) := by
  refine z_head (by decide) (Nat.le_of_ble_eq_true rfl) ?_
  intro p e s m below meth c X hr hlk w ls hl
  have X : zX E p s m _ c prog_1_method_32_code "BeatHeap" 5 := X
  have hx := X.1
  have hb := X.2.1
  have hl : lv_has ls 5 [(0, .ref (E.2.1 0)), (1, .int a1), (2, .int a2)] := hl
  unfold f_Bh_numberAddress at h
  refine lv_aload_n hx hb d_Bh_numberAddress_0 rfl (lv_at hl 0 rfl) ?_
  refine lv_iload_n hx hb d_Bh_numberAddress_1 rfl (lv_at hl 1 rfl) ?_
  refine z_cVi (As := [.int a1]) (rest := []) (q0 := 0) (ci := 5) X w (c_Bh_rootOrNone l E μ a1 _ h) rfl rfl rfl w_ml_Bh_91 ⟨w_im_Bh_rootOrNone, w_se_Bh_rootOrNone⟩ w_in_Bh w_co_Bh_rootOrNone q_Bh_rootOrNone.1 q_Bh_rootOrNone.2 rfl ⟨Nat.le_of_ble_eq_true rfl, Nat.le_of_ble_eq_true rfl⟩ ⟨Nat.zero_le _, Nat.zero_le _⟩ hl.1 rfl (Nat.le_of_ble_eq_true rfl) d_Bh_numberAddress_2 (fun r2 μ1 H locs h w => ?_)
  refine lv_istore_n (lv' := [(3, .int r2), (0, .ref (E.2.1 0)), (1, .int a1), (2, .int a2)]) hx hb d_Bh_numberAddress_5 rfl hl (by decide) rfl (fun ls hl => ?_)
  refine lv_iload_n hx hb d_Bh_numberAddress_6 rfl (lv_at hl 0 rfl) ?_
  refine lv_iconst (v := (-1)) hx hb d_Bh_numberAddress_7 (by decide) ?_
  refine lv_icmp_eq (tgt := 27) hx hb d_Bh_numberAddress_8 (by decide) (fun c3 => ?_) (fun c3 => ?_)
  · have h := h.1 c3
    refine lv_iconst (v := (-1)) hx hb d_Bh_numberAddress_27 (by decide) ?_
    exact z_iret X hr hlk w h d_Bh_numberAddress_28
  · have h := h.2 c3
    refine lv_iload_n hx hb d_Bh_numberAddress_11 rfl (lv_at hl 3 rfl) ?_
    refine lv_if_lt (tgt := 27) hx hb d_Bh_numberAddress_12 (by decide) (fun c4 => ?_) (fun c4 => ?_)
    · have h := h.1 c4
      refine lv_iconst (v := (-1)) hx hb d_Bh_numberAddress_27 (by decide) ?_
      exact z_iret X hr hlk w h d_Bh_numberAddress_28
    · have h := h.2 c4
      refine lv_iload_n hx hb d_Bh_numberAddress_15 rfl (lv_at hl 3 rfl) ?_
      refine lv_aload_n hx hb d_Bh_numberAddress_16 rfl (lv_at hl 1 rfl) ?_
      refine gt_0_1 X w w_fl_Bh_20 d_Bh_numberAddress_17 ?_
      refine lv_iload_n hx hb d_Bh_numberAddress_20 rfl (lv_at hl 0 rfl) ?_
      refine z_cVi (As := [.int r2]) (rest := [.int a2]) (q0 := 2) (ci := 0) X w (c_Bk_numbersOf l E μ1 r2 _ h) rfl rfl rfl w_ml_Bh_107 ⟨w_im_Bk_numbersOf, w_se_Bk_numbersOf⟩ w_in_Bk w_co_Bk_numbersOf q_Bk_numbersOf.1 q_Bk_numbersOf.2 rfl ⟨Nat.le_of_ble_eq_true rfl, Nat.le_of_ble_eq_true rfl⟩ ⟨Nat.zero_le _, Nat.zero_le _⟩ hl.1 rfl (Nat.le_of_ble_eq_true rfl) d_Bh_numberAddress_21 (fun r6 μ5 H locs h w => ?_)
      refine lv_icmp_lt (tgt := 29) hx hb d_Bh_numberAddress_24 (by decide) (fun c7 => ?_) (fun c7 => ?_)
      · have h := h.1 c7
        refine lv_aload_n hx hb d_Bh_numberAddress_29 rfl (lv_at hl 1 rfl) ?_
        refine gt_0_1 X w w_fl_Bh_20 d_Bh_numberAddress_30 ?_
        refine lv_iload_n hx hb d_Bh_numberAddress_33 rfl (lv_at hl 0 rfl) ?_
        refine z_cVi (As := [.int r2]) (rest := []) (q0 := 2) (ci := 0) X w (c_Bk_kindOf l E μ5 r2 _ h) rfl rfl rfl w_ml_Bh_113 ⟨w_im_Bk_kindOf, w_se_Bk_kindOf⟩ w_in_Bk w_co_Bk_kindOf q_Bk_kindOf.1 q_Bk_kindOf.2 rfl ⟨Nat.le_of_ble_eq_true rfl, Nat.le_of_ble_eq_true rfl⟩ ⟨Nat.zero_le _, Nat.zero_le _⟩ hl.1 rfl (Nat.le_of_ble_eq_true rfl) d_Bh_numberAddress_34 (fun r9 μ8 H locs h w => ?_)
        refine lv_iconst (v := 2) hx hb d_Bh_numberAddress_37 (by decide) ?_
        refine lv_icmp_eq (tgt := 56) hx hb d_Bh_numberAddress_38 (by decide) (fun c10 => ?_) (fun c10 => ?_)
        · have h := h.1 c10
          refine lv_aload_n hx hb d_Bh_numberAddress_56 rfl (lv_at hl 1 rfl) ?_
          refine gt_0_1 X w w_fl_Bh_20 d_Bh_numberAddress_57 ?_
          refine lv_iload_n hx hb d_Bh_numberAddress_60 rfl (lv_at hl 0 rfl) ?_
          refine lv_iconst (v := 1) hx hb d_Bh_numberAddress_61 (by decide) ?_
          refine lv_iadd hx hb d_Bh_numberAddress_62 ?_
          refine lv_iload_n hx hb d_Bh_numberAddress_63 rfl (lv_at hl 3 rfl) ?_
          refine lv_bipush (v := 32) hx hb d_Bh_numberAddress_64 (by decide) ?_
          refine lv_idiv hx hb d_Bh_numberAddress_66 (by decide) ?_
          refine lv_iadd hx hb d_Bh_numberAddress_67 ?_
          refine z_cVi (As := [.int ((r2 + (1 : Int32)) + (a2 / (32 : Int32)))]) (rest := []) (q0 := 2) (ci := 0) X w (c_Bk_pointerAt l E μ8 ((r2 + (1 : Int32)) + (a2 / (32 : Int32))) _ h) rfl rfl rfl w_ml_Bh_85 ⟨w_im_Bk_pointerAt, w_se_Bk_pointerAt⟩ w_in_Bk w_co_Bk_pointerAt q_Bk_pointerAt.1 q_Bk_pointerAt.2 rfl ⟨Nat.le_of_ble_eq_true rfl, Nat.le_of_ble_eq_true rfl⟩ ⟨Nat.zero_le _, Nat.zero_le _⟩ hl.1 rfl (Nat.le_of_ble_eq_true rfl) d_Bh_numberAddress_68 (fun r12 μ11 H locs h w => ?_)
          refine lv_istore (lv' := [(4, .int r12), (3, .int r2), (0, .ref (E.2.1 0)), (1, .int a1), (2, .int a2)]) hx hb d_Bh_numberAddress_71 hl (by decide) rfl (fun ls hl => ?_)
          refine lv_iload hx hb d_Bh_numberAddress_73 (lv_at hl 0 rfl) ?_
          refine lv_iconst (v := (-1)) hx hb d_Bh_numberAddress_75 (by decide) ?_
          refine lv_icmp_ne (tgt := 83) hx hb d_Bh_numberAddress_76 (by decide) (fun c13 => ?_) (fun c13 => ?_)
          · have h := h.1 c13
            refine lv_iload hx hb d_Bh_numberAddress_83 (lv_at hl 0 rfl) ?_
            refine lv_iload_n hx hb d_Bh_numberAddress_85 rfl (lv_at hl 4 rfl) ?_
            refine lv_bipush (v := 32) hx hb d_Bh_numberAddress_86 (by decide) ?_
            refine lv_irem hx hb d_Bh_numberAddress_88 (by decide) ?_
            refine lv_iadd hx hb d_Bh_numberAddress_89 ?_
            exact z_iret X hr hlk w h d_Bh_numberAddress_90
          · have h := h.2 c13
            refine lv_iconst (v := (-1)) hx hb d_Bh_numberAddress_79 (by decide) ?_
            refine lv_goto (tgt := 90) hx hb d_Bh_numberAddress_80 (by decide) ?_
            exact z_iret X hr hlk w h d_Bh_numberAddress_90
        · have h := h.2 c10
          refine lv_iload_n hx hb d_Bh_numberAddress_41 rfl (lv_at hl 0 rfl) ?_
          refine lv_iconst (v := 1) hx hb d_Bh_numberAddress_42 (by decide) ?_
          refine lv_iadd hx hb d_Bh_numberAddress_43 ?_
          refine lv_aload_n hx hb d_Bh_numberAddress_44 rfl (lv_at hl 1 rfl) ?_
          refine gt_0_1 X w w_fl_Bh_20 d_Bh_numberAddress_45 ?_
          refine lv_iload_n hx hb d_Bh_numberAddress_48 rfl (lv_at hl 0 rfl) ?_
          refine z_cVi (As := [.int r2]) (rest := [.int (r2 + (1 : Int32))]) (q0 := 2) (ci := 0) X w (c_Bk_pointersOf l E μ8 r2 _ h) rfl rfl rfl w_ml_Bh_104 ⟨w_im_Bk_pointersOf, w_se_Bk_pointersOf⟩ w_in_Bk w_co_Bk_pointersOf q_Bk_pointersOf.1 q_Bk_pointersOf.2 rfl ⟨Nat.le_of_ble_eq_true rfl, Nat.le_of_ble_eq_true rfl⟩ ⟨Nat.zero_le _, Nat.zero_le _⟩ hl.1 rfl (Nat.le_of_ble_eq_true rfl) d_Bh_numberAddress_49 (fun r15 μ14 H locs h w => ?_)
          refine lv_iadd hx hb d_Bh_numberAddress_52 ?_
          refine lv_iload_n hx hb d_Bh_numberAddress_53 rfl (lv_at hl 3 rfl) ?_
          refine lv_iadd hx hb d_Bh_numberAddress_54 ?_
          exact z_iret X hr hlk w h d_Bh_numberAddress_55
      · have h := h.2 c7
        refine lv_iconst (v := (-1)) hx hb d_Bh_numberAddress_27 (by decide) ?_
        exact z_iret X hr hlk w h d_Bh_numberAddress_28
theorem q_Bh_put : (y_Bh_put.cls ≠ "java/lang/invoke/MethodHandle" ∧ y_Bh_put.cls ≠ "java/lang/invoke/VarHandle") ∧ (parseMethodDescriptor y_Bh_put.desc).map (fun d => d.parameters.length) = some 3 := by decide +kernel
theorem d_Bh_put_0 : decode prog_1_method_5_code 0 = .ok (.aload_n 0, 1) := by decide +kernel
theorem d_Bh_put_1 : decode prog_1_method_5_code 1 = .ok (.iload_n 1, 1) := by decide +kernel
theorem d_Bh_put_2 : decode prog_1_method_5_code 2 = .ok (.iload_n 2, 1) := by decide +kernel
theorem d_Bh_put_3 : decode prog_1_method_5_code 3 = .ok (.invokevirtual 69, 3) := by decide +kernel
theorem d_Bh_put_6 : decode prog_1_method_5_code 6 = .ok (.istore 4, 2) := by decide +kernel
theorem d_Bh_put_8 : decode prog_1_method_5_code 8 = .ok (.iload 4, 2) := by decide +kernel
theorem d_Bh_put_10 : decode prog_1_method_5_code 10 = .ok (.iconst (-1), 1) := by decide +kernel
theorem d_Bh_put_11 : decode prog_1_method_5_code 11 = .ok (.if_icmp .ne 5, 3) := by decide +kernel
theorem d_Bh_put_14 : decode prog_1_method_5_code 14 = .ok (.iconst 0, 1) := by decide +kernel
theorem d_Bh_put_15 : decode prog_1_method_5_code 15 = .ok (.ireturn, 1) := by decide +kernel
theorem d_Bh_put_16 : decode prog_1_method_5_code 16 = .ok (.aload_n 0, 1) := by decide +kernel
theorem d_Bh_put_17 : decode prog_1_method_5_code 17 = .ok (.getfield 20, 3) := by decide +kernel
theorem d_Bh_put_20 : decode prog_1_method_5_code 20 = .ok (.iload 4, 2) := by decide +kernel
theorem d_Bh_put_22 : decode prog_1_method_5_code 22 = .ok (.iload_n 3, 1) := by decide +kernel
theorem d_Bh_put_23 : decode prog_1_method_5_code 23 = .ok (.invokevirtual 73, 3) := by decide +kernel
theorem d_Bh_put_26 : decode prog_1_method_5_code 26 = .ok (.aload_n 0, 1) := by decide +kernel
theorem d_Bh_put_27 : decode prog_1_method_5_code 27 = .ok (.getfield 12, 3) := by decide +kernel
theorem d_Bh_put_30 : decode prog_1_method_5_code 30 = .ok (.iconst 1, 1) := by decide +kernel
theorem d_Bh_put_31 : decode prog_1_method_5_code 31 = .ok (.invokevirtual 61, 3) := by decide +kernel
theorem d_Bh_put_34 : decode prog_1_method_5_code 34 = .ok (.iconst 1, 1) := by decide +kernel
theorem d_Bh_put_35 : decode prog_1_method_5_code 35 = .ok (.ireturn, 1) := by decide +kernel
def f_Bh_put (μ : zM) (a1 a2 a3 : Int32) (K : Int32 → zM → Prop) : Prop := f_Bh_numberAddress μ a1 a2 (fun r2 μ1 => ((¬ r2 = (-1 : Int32) → (f_Bk_setWord μ1 r2 a3 (fun μ4 => (f_Co_spend μ4 (1 : Int32) (fun μ5 => (K (1 : Int32) μ5)))))) ∧ (r2 = (-1 : Int32) → (K (0 : Int32) μ1))))
set_option maxHeartbeats 4000000 in
set_option maxRecDepth 100000 in
theorem c_Bh_put (l : Launch) (E : zE) (μ : zM) (a1 a2 a3 : Int32) (K : Int32 → zM → Prop) (h : f_Bh_put μ a1 a2 a3 K) : Met l y_Bh_put (Cond.code y_Bh_put prog_1_method_5_code 5 (some .boolean) :: zT) { frames := 6, cells := 0, slots := 0, locals := 131 } (va_Pc [.ref (E.2.1 0), .int a1, .int a2, .int a3] (zR zwC E μ)) (va_Qi K (zR zwC E) (zA E)) 0 0 (zA E) := by
  refine z_head (by decide) (Nat.le_of_ble_eq_true rfl) ?_
  intro p e s m below meth c X hr hlk w ls hl
  have X : zX E p s m _ c prog_1_method_5_code "BeatHeap" 5 := X
  have hx := X.1
  have hb := X.2.1
  have hl : lv_has ls 5 [(0, .ref (E.2.1 0)), (1, .int a1), (2, .int a2), (3, .int a3)] := hl
  unfold f_Bh_put at h
  refine lv_aload_n hx hb d_Bh_put_0 rfl (lv_at hl 0 rfl) ?_
  refine lv_iload_n hx hb d_Bh_put_1 rfl (lv_at hl 1 rfl) ?_
  refine lv_iload_n hx hb d_Bh_put_2 rfl (lv_at hl 2 rfl) ?_
  refine z_cVi (As := [.int a1, .int a2]) (rest := []) (q0 := 0) (ci := 5) X w (c_Bh_numberAddress l E μ a1 a2 _ h) rfl rfl rfl w_ml_Bh_69 ⟨w_im_Bh_numberAddress, w_se_Bh_numberAddress⟩ w_in_Bh w_co_Bh_numberAddress q_Bh_numberAddress.1 q_Bh_numberAddress.2 rfl ⟨Nat.le_of_ble_eq_true rfl, Nat.le_of_ble_eq_true rfl⟩ ⟨Nat.zero_le _, Nat.zero_le _⟩ hl.1 rfl (Nat.le_of_ble_eq_true rfl) d_Bh_put_3 (fun r2 μ1 H locs h w => ?_)
  refine lv_istore (lv' := [(4, .int r2), (0, .ref (E.2.1 0)), (1, .int a1), (2, .int a2), (3, .int a3)]) hx hb d_Bh_put_6 hl (by decide) rfl (fun ls hl => ?_)
  refine lv_iload hx hb d_Bh_put_8 (lv_at hl 0 rfl) ?_
  refine lv_iconst (v := (-1)) hx hb d_Bh_put_10 (by decide) ?_
  refine lv_icmp_ne (tgt := 16) hx hb d_Bh_put_11 (by decide) (fun c3 => ?_) (fun c3 => ?_)
  · have h := h.1 c3
    refine lv_aload_n hx hb d_Bh_put_16 rfl (lv_at hl 1 rfl) ?_
    refine gt_0_1 X w w_fl_Bh_20 d_Bh_put_17 ?_
    refine lv_iload hx hb d_Bh_put_20 (lv_at hl 0 rfl) ?_
    refine lv_iload_n hx hb d_Bh_put_22 rfl (lv_at hl 4 rfl) ?_
    refine z_cVv (As := [.int r2, .int a3]) (rest := []) (q0 := 2) (ci := 0) X w (c_Bk_setWord l E μ1 r2 a3 _ h) rfl rfl rfl w_ml_Bh_73 ⟨w_im_Bk_setWord, w_se_Bk_setWord⟩ w_in_Bk w_co_Bk_setWord q_Bk_setWord.1 q_Bk_setWord.2 rfl ⟨Nat.le_of_ble_eq_true rfl, Nat.le_of_ble_eq_true rfl⟩ ⟨Nat.zero_le _, Nat.zero_le _⟩ hl.1 rfl (Nat.le_of_ble_eq_true rfl) d_Bh_put_23 (fun μ4 H locs h w => ?_)
    refine lv_aload_n hx hb d_Bh_put_26 rfl (lv_at hl 1 rfl) ?_
    refine gt_0_0 X w w_fl_Bh_12 d_Bh_put_27 ?_
    refine lv_iconst (v := 1) hx hb d_Bh_put_30 (by decide) ?_
    refine z_cVv (As := [.int (1 : Int32)]) (rest := []) (q0 := 1) (ci := 2) X w (c_Co_spend l E μ4 (1 : Int32) _ h) rfl rfl rfl w_ml_Bh_61 ⟨w_im_Co_spend, w_se_Co_spend⟩ w_in_Co w_co_Co_spend q_Co_spend.1 q_Co_spend.2 rfl ⟨Nat.le_of_ble_eq_true rfl, Nat.le_of_ble_eq_true rfl⟩ ⟨Nat.zero_le _, Nat.zero_le _⟩ hl.1 rfl (Nat.le_of_ble_eq_true rfl) d_Bh_put_31 (fun μ5 H locs h w => ?_)
    refine lv_iconst (v := 1) hx hb d_Bh_put_34 (by decide) ?_
    exact z_zret X hr hlk w (by decide) h d_Bh_put_35
  · have h := h.2 c3
    refine lv_iconst (v := 0) hx hb d_Bh_put_14 (by decide) ?_
    exact z_zret X hr hlk w (by decide) h d_Bh_put_15
theorem q_Bh_get : (y_Bh_get.cls ≠ "java/lang/invoke/MethodHandle" ∧ y_Bh_get.cls ≠ "java/lang/invoke/VarHandle") ∧ (parseMethodDescriptor y_Bh_get.desc).map (fun d => d.parameters.length) = some 2 := by decide +kernel
theorem d_Bh_get_0 : decode prog_1_method_6_code 0 = .ok (.aload_n 0, 1) := by decide +kernel
theorem d_Bh_get_1 : decode prog_1_method_6_code 1 = .ok (.iload_n 1, 1) := by decide +kernel
theorem d_Bh_get_2 : decode prog_1_method_6_code 2 = .ok (.iload_n 2, 1) := by decide +kernel
theorem d_Bh_get_3 : decode prog_1_method_6_code 3 = .ok (.invokevirtual 69, 3) := by decide +kernel
theorem d_Bh_get_6 : decode prog_1_method_6_code 6 = .ok (.istore_n 3, 1) := by decide +kernel
theorem d_Bh_get_7 : decode prog_1_method_6_code 7 = .ok (.iload_n 3, 1) := by decide +kernel
theorem d_Bh_get_8 : decode prog_1_method_6_code 8 = .ok (.iconst (-1), 1) := by decide +kernel
theorem d_Bh_get_9 : decode prog_1_method_6_code 9 = .ok (.if_icmp .ne 5, 3) := by decide +kernel
theorem d_Bh_get_12 : decode prog_1_method_6_code 12 = .ok (.iconst 0, 1) := by decide +kernel
theorem d_Bh_get_13 : decode prog_1_method_6_code 13 = .ok (.ireturn, 1) := by decide +kernel
theorem d_Bh_get_14 : decode prog_1_method_6_code 14 = .ok (.aload_n 0, 1) := by decide +kernel
theorem d_Bh_get_15 : decode prog_1_method_6_code 15 = .ok (.getfield 20, 3) := by decide +kernel
theorem d_Bh_get_18 : decode prog_1_method_6_code 18 = .ok (.iload_n 3, 1) := by decide +kernel
theorem d_Bh_get_19 : decode prog_1_method_6_code 19 = .ok (.invokevirtual 79, 3) := by decide +kernel
theorem d_Bh_get_22 : decode prog_1_method_6_code 22 = .ok (.istore 4, 2) := by decide +kernel
theorem d_Bh_get_24 : decode prog_1_method_6_code 24 = .ok (.aload_n 0, 1) := by decide +kernel
theorem d_Bh_get_25 : decode prog_1_method_6_code 25 = .ok (.getfield 12, 3) := by decide +kernel
theorem d_Bh_get_28 : decode prog_1_method_6_code 28 = .ok (.iconst 1, 1) := by decide +kernel
theorem d_Bh_get_29 : decode prog_1_method_6_code 29 = .ok (.invokevirtual 61, 3) := by decide +kernel
theorem d_Bh_get_32 : decode prog_1_method_6_code 32 = .ok (.iload 4, 2) := by decide +kernel
theorem d_Bh_get_34 : decode prog_1_method_6_code 34 = .ok (.ireturn, 1) := by decide +kernel
def f_Bh_get (μ : zM) (a1 a2 : Int32) (K : Int32 → zM → Prop) : Prop := f_Bh_numberAddress μ a1 a2 (fun r2 μ1 => ((¬ r2 = (-1 : Int32) → (f_Bk_wordAt μ1 r2 (fun r5 μ4 => (f_Co_spend μ4 (1 : Int32) (fun μ6 => (K r5 μ6)))))) ∧ (r2 = (-1 : Int32) → (K (0 : Int32) μ1))))
set_option maxHeartbeats 4000000 in
set_option maxRecDepth 100000 in
theorem c_Bh_get (l : Launch) (E : zE) (μ : zM) (a1 a2 : Int32) (K : Int32 → zM → Prop) (h : f_Bh_get μ a1 a2 K) : Met l y_Bh_get (Cond.code y_Bh_get prog_1_method_6_code 5 (some .int) :: zT) { frames := 6, cells := 0, slots := 0, locals := 131 } (va_Pc [.ref (E.2.1 0), .int a1, .int a2] (zR zwC E μ)) (va_Qi K (zR zwC E) (zA E)) 0 0 (zA E) := by
  refine z_head (by decide) (Nat.le_of_ble_eq_true rfl) ?_
  intro p e s m below meth c X hr hlk w ls hl
  have X : zX E p s m _ c prog_1_method_6_code "BeatHeap" 5 := X
  have hx := X.1
  have hb := X.2.1
  have hl : lv_has ls 5 [(0, .ref (E.2.1 0)), (1, .int a1), (2, .int a2)] := hl
  unfold f_Bh_get at h
  refine lv_aload_n hx hb d_Bh_get_0 rfl (lv_at hl 0 rfl) ?_
  refine lv_iload_n hx hb d_Bh_get_1 rfl (lv_at hl 1 rfl) ?_
  refine lv_iload_n hx hb d_Bh_get_2 rfl (lv_at hl 2 rfl) ?_
  refine z_cVi (As := [.int a1, .int a2]) (rest := []) (q0 := 0) (ci := 5) X w (c_Bh_numberAddress l E μ a1 a2 _ h) rfl rfl rfl w_ml_Bh_69 ⟨w_im_Bh_numberAddress, w_se_Bh_numberAddress⟩ w_in_Bh w_co_Bh_numberAddress q_Bh_numberAddress.1 q_Bh_numberAddress.2 rfl ⟨Nat.le_of_ble_eq_true rfl, Nat.le_of_ble_eq_true rfl⟩ ⟨Nat.zero_le _, Nat.zero_le _⟩ hl.1 rfl (Nat.le_of_ble_eq_true rfl) d_Bh_get_3 (fun r2 μ1 H locs h w => ?_)
  refine lv_istore_n (lv' := [(3, .int r2), (0, .ref (E.2.1 0)), (1, .int a1), (2, .int a2)]) hx hb d_Bh_get_6 rfl hl (by decide) rfl (fun ls hl => ?_)
  refine lv_iload_n hx hb d_Bh_get_7 rfl (lv_at hl 0 rfl) ?_
  refine lv_iconst (v := (-1)) hx hb d_Bh_get_8 (by decide) ?_
  refine lv_icmp_ne (tgt := 14) hx hb d_Bh_get_9 (by decide) (fun c3 => ?_) (fun c3 => ?_)
  · have h := h.1 c3
    refine lv_aload_n hx hb d_Bh_get_14 rfl (lv_at hl 1 rfl) ?_
    refine gt_0_1 X w w_fl_Bh_20 d_Bh_get_15 ?_
    refine lv_iload_n hx hb d_Bh_get_18 rfl (lv_at hl 0 rfl) ?_
    refine z_cVi (As := [.int r2]) (rest := []) (q0 := 2) (ci := 0) X w (c_Bk_wordAt l E μ1 r2 _ h) rfl rfl rfl w_ml_Bh_79 ⟨w_im_Bk_wordAt, w_se_Bk_wordAt⟩ w_in_Bk w_co_Bk_wordAt q_Bk_wordAt.1 q_Bk_wordAt.2 rfl ⟨Nat.le_of_ble_eq_true rfl, Nat.le_of_ble_eq_true rfl⟩ ⟨Nat.zero_le _, Nat.zero_le _⟩ hl.1 rfl (Nat.le_of_ble_eq_true rfl) d_Bh_get_19 (fun r5 μ4 H locs h w => ?_)
    refine lv_istore (lv' := [(4, .int r5), (3, .int r2), (0, .ref (E.2.1 0)), (1, .int a1), (2, .int a2)]) hx hb d_Bh_get_22 hl (by decide) rfl (fun ls hl => ?_)
    refine lv_aload_n hx hb d_Bh_get_24 rfl (lv_at hl 2 rfl) ?_
    refine gt_0_0 X w w_fl_Bh_12 d_Bh_get_25 ?_
    refine lv_iconst (v := 1) hx hb d_Bh_get_28 (by decide) ?_
    refine z_cVv (As := [.int (1 : Int32)]) (rest := []) (q0 := 1) (ci := 2) X w (c_Co_spend l E μ4 (1 : Int32) _ h) rfl rfl rfl w_ml_Bh_61 ⟨w_im_Co_spend, w_se_Co_spend⟩ w_in_Co w_co_Co_spend q_Co_spend.1 q_Co_spend.2 rfl ⟨Nat.le_of_ble_eq_true rfl, Nat.le_of_ble_eq_true rfl⟩ ⟨Nat.zero_le _, Nat.zero_le _⟩ hl.1 rfl (Nat.le_of_ble_eq_true rfl) d_Bh_get_29 (fun μ6 H locs h w => ?_)
    refine lv_iload hx hb d_Bh_get_32 (lv_at hl 0 rfl) ?_
    exact z_iret X hr hlk w h d_Bh_get_34
  · have h := h.2 c3
    refine lv_iconst (v := 0) hx hb d_Bh_get_12 (by decide) ?_
    exact z_iret X hr hlk w h d_Bh_get_13
theorem q_Bh_pointerAddress : (y_Bh_pointerAddress.cls ≠ "java/lang/invoke/MethodHandle" ∧ y_Bh_pointerAddress.cls ≠ "java/lang/invoke/VarHandle") ∧ (parseMethodDescriptor y_Bh_pointerAddress.desc).map (fun d => d.parameters.length) = some 2 := by decide +kernel
theorem d_Bh_pointerAddress_0 : decode prog_1_method_33_code 0 = .ok (.aload_n 0, 1) := by decide +kernel
theorem d_Bh_pointerAddress_1 : decode prog_1_method_33_code 1 = .ok (.iload_n 1, 1) := by decide +kernel
theorem d_Bh_pointerAddress_2 : decode prog_1_method_33_code 2 = .ok (.invokevirtual 91, 3) := by decide +kernel
theorem d_Bh_pointerAddress_5 : decode prog_1_method_33_code 5 = .ok (.istore_n 3, 1) := by decide +kernel
theorem d_Bh_pointerAddress_6 : decode prog_1_method_33_code 6 = .ok (.iload_n 3, 1) := by decide +kernel
theorem d_Bh_pointerAddress_7 : decode prog_1_method_33_code 7 = .ok (.iconst (-1), 1) := by decide +kernel
theorem d_Bh_pointerAddress_8 : decode prog_1_method_33_code 8 = .ok (.if_icmp .eq 15, 3) := by decide +kernel
theorem d_Bh_pointerAddress_11 : decode prog_1_method_33_code 11 = .ok (.aload_n 0, 1) := by decide +kernel
theorem d_Bh_pointerAddress_12 : decode prog_1_method_33_code 12 = .ok (.getfield 20, 3) := by decide +kernel
theorem d_Bh_pointerAddress_15 : decode prog_1_method_33_code 15 = .ok (.iload_n 3, 1) := by decide +kernel
theorem d_Bh_pointerAddress_16 : decode prog_1_method_33_code 16 = .ok (.invokevirtual 113, 3) := by decide +kernel
theorem d_Bh_pointerAddress_19 : decode prog_1_method_33_code 19 = .ok (.iconst 1, 1) := by decide +kernel
theorem d_Bh_pointerAddress_20 : decode prog_1_method_33_code 20 = .ok (.if_icmp .eq 5, 3) := by decide +kernel
theorem d_Bh_pointerAddress_23 : decode prog_1_method_33_code 23 = .ok (.iconst (-1), 1) := by decide +kernel
theorem d_Bh_pointerAddress_24 : decode prog_1_method_33_code 24 = .ok (.ireturn, 1) := by decide +kernel
theorem d_Bh_pointerAddress_25 : decode prog_1_method_33_code 25 = .ok (.iload_n 2, 1) := by decide +kernel
theorem d_Bh_pointerAddress_26 : decode prog_1_method_33_code 26 = .ok (.ifCond .lt 23, 3) := by decide +kernel
theorem d_Bh_pointerAddress_29 : decode prog_1_method_33_code 29 = .ok (.iload_n 2, 1) := by decide +kernel
theorem d_Bh_pointerAddress_30 : decode prog_1_method_33_code 30 = .ok (.aload_n 0, 1) := by decide +kernel
theorem d_Bh_pointerAddress_31 : decode prog_1_method_33_code 31 = .ok (.getfield 20, 3) := by decide +kernel
theorem d_Bh_pointerAddress_34 : decode prog_1_method_33_code 34 = .ok (.iload_n 3, 1) := by decide +kernel
theorem d_Bh_pointerAddress_35 : decode prog_1_method_33_code 35 = .ok (.invokevirtual 104, 3) := by decide +kernel
theorem d_Bh_pointerAddress_38 : decode prog_1_method_33_code 38 = .ok (.if_icmp .ge 11, 3) := by decide +kernel
theorem d_Bh_pointerAddress_41 : decode prog_1_method_33_code 41 = .ok (.iload_n 3, 1) := by decide +kernel
theorem d_Bh_pointerAddress_42 : decode prog_1_method_33_code 42 = .ok (.iconst 1, 1) := by decide +kernel
theorem d_Bh_pointerAddress_43 : decode prog_1_method_33_code 43 = .ok (.iadd, 1) := by decide +kernel
theorem d_Bh_pointerAddress_44 : decode prog_1_method_33_code 44 = .ok (.iload_n 2, 1) := by decide +kernel
theorem d_Bh_pointerAddress_45 : decode prog_1_method_33_code 45 = .ok (.iadd, 1) := by decide +kernel
theorem d_Bh_pointerAddress_46 : decode prog_1_method_33_code 46 = .ok (.goto 4, 3) := by decide +kernel
theorem d_Bh_pointerAddress_49 : decode prog_1_method_33_code 49 = .ok (.iconst (-1), 1) := by decide +kernel
theorem d_Bh_pointerAddress_50 : decode prog_1_method_33_code 50 = .ok (.ireturn, 1) := by decide +kernel
def f_Bh_pointerAddress (μ : zM) (a1 a2 : Int32) (K : Int32 → zM → Prop) : Prop := f_Bh_rootOrNone μ a1 (fun r2 μ1 => ((r2 = (-1 : Int32) → (K (-1 : Int32) μ1)) ∧ (¬ r2 = (-1 : Int32) → (f_Bk_kindOf μ1 r2 (fun r5 μ4 => ((r5 = (1 : Int32) → ((a2 < 0 → (K (-1 : Int32) μ4)) ∧ (¬ a2 < 0 → (f_Bk_pointersOf μ4 r2 (fun r9 μ8 => ((r9 ≤ a2 → (K (-1 : Int32) μ8)) ∧ (¬ r9 ≤ a2 → (K ((r2 + (1 : Int32)) + a2) μ8)))))))) ∧ (¬ r5 = (1 : Int32) → (K (-1 : Int32) μ4))))))))
set_option maxHeartbeats 4000000 in
set_option maxRecDepth 100000 in
theorem c_Bh_pointerAddress (l : Launch) (E : zE) (μ : zM) (a1 a2 : Int32) (K : Int32 → zM → Prop) (h : f_Bh_pointerAddress μ a1 a2 K) : Met l y_Bh_pointerAddress (Cond.code y_Bh_pointerAddress prog_1_method_33_code 4 (some .int) :: zT) { frames := 2, cells := 0, slots := 0, locals := 42 } (va_Pc [.ref (E.2.1 0), .int a1, .int a2] (zR zwC E μ)) (va_Qi K (zR zwC E) (zA E)) 0 0 (zA E) := by
  refine z_head (by decide) (Nat.le_of_ble_eq_true rfl) ?_
  intro p e s m below meth c X hr hlk w ls hl
  have X : zX E p s m _ c prog_1_method_33_code "BeatHeap" 4 := X
  have hx := X.1
  have hb := X.2.1
  have hl : lv_has ls 4 [(0, .ref (E.2.1 0)), (1, .int a1), (2, .int a2)] := hl
  unfold f_Bh_pointerAddress at h
  refine lv_aload_n hx hb d_Bh_pointerAddress_0 rfl (lv_at hl 0 rfl) ?_
  refine lv_iload_n hx hb d_Bh_pointerAddress_1 rfl (lv_at hl 1 rfl) ?_
  refine z_cVi (As := [.int a1]) (rest := []) (q0 := 0) (ci := 5) X w (c_Bh_rootOrNone l E μ a1 _ h) rfl rfl rfl w_ml_Bh_91 ⟨w_im_Bh_rootOrNone, w_se_Bh_rootOrNone⟩ w_in_Bh w_co_Bh_rootOrNone q_Bh_rootOrNone.1 q_Bh_rootOrNone.2 rfl ⟨Nat.le_of_ble_eq_true rfl, Nat.le_of_ble_eq_true rfl⟩ ⟨Nat.zero_le _, Nat.zero_le _⟩ hl.1 rfl (Nat.le_of_ble_eq_true rfl) d_Bh_pointerAddress_2 (fun r2 μ1 H locs h w => ?_)
  refine lv_istore_n (lv' := [(3, .int r2), (0, .ref (E.2.1 0)), (1, .int a1), (2, .int a2)]) hx hb d_Bh_pointerAddress_5 rfl hl (by decide) rfl (fun ls hl => ?_)
  refine lv_iload_n hx hb d_Bh_pointerAddress_6 rfl (lv_at hl 0 rfl) ?_
  refine lv_iconst (v := (-1)) hx hb d_Bh_pointerAddress_7 (by decide) ?_
  refine lv_icmp_eq (tgt := 23) hx hb d_Bh_pointerAddress_8 (by decide) (fun c3 => ?_) (fun c3 => ?_)
  · have h := h.1 c3
    refine lv_iconst (v := (-1)) hx hb d_Bh_pointerAddress_23 (by decide) ?_
    exact z_iret X hr hlk w h d_Bh_pointerAddress_24
  · have h := h.2 c3
    refine lv_aload_n hx hb d_Bh_pointerAddress_11 rfl (lv_at hl 1 rfl) ?_
    refine gt_0_1 X w w_fl_Bh_20 d_Bh_pointerAddress_12 ?_
    refine lv_iload_n hx hb d_Bh_pointerAddress_15 rfl (lv_at hl 0 rfl) ?_
    refine z_cVi (As := [.int r2]) (rest := []) (q0 := 2) (ci := 0) X w (c_Bk_kindOf l E μ1 r2 _ h) rfl rfl rfl w_ml_Bh_113 ⟨w_im_Bk_kindOf, w_se_Bk_kindOf⟩ w_in_Bk w_co_Bk_kindOf q_Bk_kindOf.1 q_Bk_kindOf.2 rfl ⟨Nat.le_of_ble_eq_true rfl, Nat.le_of_ble_eq_true rfl⟩ ⟨Nat.zero_le _, Nat.zero_le _⟩ hl.1 rfl (Nat.le_of_ble_eq_true rfl) d_Bh_pointerAddress_16 (fun r5 μ4 H locs h w => ?_)
    refine lv_iconst (v := 1) hx hb d_Bh_pointerAddress_19 (by decide) ?_
    refine lv_icmp_eq (tgt := 25) hx hb d_Bh_pointerAddress_20 (by decide) (fun c6 => ?_) (fun c6 => ?_)
    · have h := h.1 c6
      refine lv_iload_n hx hb d_Bh_pointerAddress_25 rfl (lv_at hl 3 rfl) ?_
      refine lv_if_lt (tgt := 49) hx hb d_Bh_pointerAddress_26 (by decide) (fun c7 => ?_) (fun c7 => ?_)
      · have h := h.1 c7
        refine lv_iconst (v := (-1)) hx hb d_Bh_pointerAddress_49 (by decide) ?_
        exact z_iret X hr hlk w h d_Bh_pointerAddress_50
      · have h := h.2 c7
        refine lv_iload_n hx hb d_Bh_pointerAddress_29 rfl (lv_at hl 3 rfl) ?_
        refine lv_aload_n hx hb d_Bh_pointerAddress_30 rfl (lv_at hl 1 rfl) ?_
        refine gt_0_1 X w w_fl_Bh_20 d_Bh_pointerAddress_31 ?_
        refine lv_iload_n hx hb d_Bh_pointerAddress_34 rfl (lv_at hl 0 rfl) ?_
        refine z_cVi (As := [.int r2]) (rest := [.int a2]) (q0 := 2) (ci := 0) X w (c_Bk_pointersOf l E μ4 r2 _ h) rfl rfl rfl w_ml_Bh_104 ⟨w_im_Bk_pointersOf, w_se_Bk_pointersOf⟩ w_in_Bk w_co_Bk_pointersOf q_Bk_pointersOf.1 q_Bk_pointersOf.2 rfl ⟨Nat.le_of_ble_eq_true rfl, Nat.le_of_ble_eq_true rfl⟩ ⟨Nat.zero_le _, Nat.zero_le _⟩ hl.1 rfl (Nat.le_of_ble_eq_true rfl) d_Bh_pointerAddress_35 (fun r9 μ8 H locs h w => ?_)
        refine lv_icmp_ge (tgt := 49) hx hb d_Bh_pointerAddress_38 (by decide) (fun c10 => ?_) (fun c10 => ?_)
        · have h := h.1 c10
          refine lv_iconst (v := (-1)) hx hb d_Bh_pointerAddress_49 (by decide) ?_
          exact z_iret X hr hlk w h d_Bh_pointerAddress_50
        · have h := h.2 c10
          refine lv_iload_n hx hb d_Bh_pointerAddress_41 rfl (lv_at hl 0 rfl) ?_
          refine lv_iconst (v := 1) hx hb d_Bh_pointerAddress_42 (by decide) ?_
          refine lv_iadd hx hb d_Bh_pointerAddress_43 ?_
          refine lv_iload_n hx hb d_Bh_pointerAddress_44 rfl (lv_at hl 3 rfl) ?_
          refine lv_iadd hx hb d_Bh_pointerAddress_45 ?_
          refine lv_goto (tgt := 50) hx hb d_Bh_pointerAddress_46 (by decide) ?_
          exact z_iret X hr hlk w h d_Bh_pointerAddress_50
    · have h := h.2 c6
      refine lv_iconst (v := (-1)) hx hb d_Bh_pointerAddress_23 (by decide) ?_
      exact z_iret X hr hlk w h d_Bh_pointerAddress_24
theorem q_Bh_link : (y_Bh_link.cls ≠ "java/lang/invoke/MethodHandle" ∧ y_Bh_link.cls ≠ "java/lang/invoke/VarHandle") ∧ (parseMethodDescriptor y_Bh_link.desc).map (fun d => d.parameters.length) = some 3 := by decide +kernel
theorem d_Bh_link_0 : decode prog_1_method_7_code 0 = .ok (.aload_n 0, 1) := by decide +kernel
theorem d_Bh_link_1 : decode prog_1_method_7_code 1 = .ok (.iload_n 1, 1) := by decide +kernel
theorem d_Bh_link_2 : decode prog_1_method_7_code 2 = .ok (.iload_n 2, 1) := by decide +kernel
theorem d_Bh_link_3 : decode prog_1_method_7_code 3 = .ok (.invokevirtual 82, 3) := by decide +kernel
theorem d_Bh_link_6 : decode prog_1_method_7_code 6 = .ok (.istore 4, 2) := by decide +kernel
theorem d_Bh_link_8 : decode prog_1_method_7_code 8 = .ok (.iload 4, 2) := by decide +kernel
theorem d_Bh_link_10 : decode prog_1_method_7_code 10 = .ok (.iconst (-1), 1) := by decide +kernel
theorem d_Bh_link_11 : decode prog_1_method_7_code 11 = .ok (.if_icmp .eq 15, 3) := by decide +kernel
theorem d_Bh_link_14 : decode prog_1_method_7_code 14 = .ok (.iload_n 3, 1) := by decide +kernel
theorem d_Bh_link_15 : decode prog_1_method_7_code 15 = .ok (.iconst (-1), 1) := by decide +kernel
theorem d_Bh_link_16 : decode prog_1_method_7_code 16 = .ok (.if_icmp .eq 12, 3) := by decide +kernel
theorem d_Bh_link_19 : decode prog_1_method_7_code 19 = .ok (.iload_n 3, 1) := by decide +kernel
theorem d_Bh_link_20 : decode prog_1_method_7_code 20 = .ok (.invokestatic 46, 3) := by decide +kernel
theorem d_Bh_link_23 : decode prog_1_method_7_code 23 = .ok (.ifCond .ne 5, 3) := by decide +kernel
theorem d_Bh_link_26 : decode prog_1_method_7_code 26 = .ok (.iconst 0, 1) := by decide +kernel
theorem d_Bh_link_27 : decode prog_1_method_7_code 27 = .ok (.ireturn, 1) := by decide +kernel
theorem d_Bh_link_28 : decode prog_1_method_7_code 28 = .ok (.aload_n 0, 1) := by decide +kernel
theorem d_Bh_link_29 : decode prog_1_method_7_code 29 = .ok (.getfield 12, 3) := by decide +kernel
theorem d_Bh_link_32 : decode prog_1_method_7_code 32 = .ok (.aload_n 0, 1) := by decide +kernel
theorem d_Bh_link_33 : decode prog_1_method_7_code 33 = .ok (.getfield 20, 3) := by decide +kernel
theorem d_Bh_link_36 : decode prog_1_method_7_code 36 = .ok (.iload 4, 2) := by decide +kernel
theorem d_Bh_link_38 : decode prog_1_method_7_code 38 = .ok (.invokevirtual 85, 3) := by decide +kernel
theorem d_Bh_link_41 : decode prog_1_method_7_code 41 = .ok (.invokevirtual 88, 3) := by decide +kernel
theorem d_Bh_link_44 : decode prog_1_method_7_code 44 = .ok (.aload_n 0, 1) := by decide +kernel
theorem d_Bh_link_45 : decode prog_1_method_7_code 45 = .ok (.getfield 20, 3) := by decide +kernel
theorem d_Bh_link_48 : decode prog_1_method_7_code 48 = .ok (.iload 4, 2) := by decide +kernel
theorem d_Bh_link_50 : decode prog_1_method_7_code 50 = .ok (.aload_n 0, 1) := by decide +kernel
theorem d_Bh_link_51 : decode prog_1_method_7_code 51 = .ok (.iload_n 3, 1) := by decide +kernel
theorem d_Bh_link_52 : decode prog_1_method_7_code 52 = .ok (.invokevirtual 91, 3) := by decide +kernel
theorem d_Bh_link_55 : decode prog_1_method_7_code 55 = .ok (.invokevirtual 94, 3) := by decide +kernel
theorem d_Bh_link_58 : decode prog_1_method_7_code 58 = .ok (.aload_n 0, 1) := by decide +kernel
theorem d_Bh_link_59 : decode prog_1_method_7_code 59 = .ok (.getfield 12, 3) := by decide +kernel
theorem d_Bh_link_62 : decode prog_1_method_7_code 62 = .ok (.iconst 1, 1) := by decide +kernel
theorem d_Bh_link_63 : decode prog_1_method_7_code 63 = .ok (.invokevirtual 61, 3) := by decide +kernel
theorem d_Bh_link_66 : decode prog_1_method_7_code 66 = .ok (.iconst 1, 1) := by decide +kernel
theorem d_Bh_link_67 : decode prog_1_method_7_code 67 = .ok (.ireturn, 1) := by decide +kernel
def f_Bh_link (μ : zM) (a1 a2 a3 : Int32) (K : Int32 → zM → Prop) : Prop := f_Bh_pointerAddress μ a1 a2 (fun r2 μ1 => ((r2 = (-1 : Int32) → (K (0 : Int32) μ1)) ∧ (¬ r2 = (-1 : Int32) → ((a3 = (-1 : Int32) → (f_Bk_pointerAt μ1 r2 (fun r6 μ5 => (f_Co_greyOld μ5 r6 (fun μ7 => (f_Bh_rootOrNone μ7 a3 (fun r9 μ8 => (f_Bk_setPointer μ8 r2 r9 (fun μ10 => (f_Co_spend μ10 (1 : Int32) (fun μ11 => (K (1 : Int32) μ11)))))))))))) ∧ (¬ a3 = (-1 : Int32) → (f_Bh_isRoot μ1 a3 (fun r13 μ12 => ((¬ r13 = 0 → (f_Bk_pointerAt μ12 r2 (fun r16 μ15 => (f_Co_greyOld μ15 r16 (fun μ17 => (f_Bh_rootOrNone μ17 a3 (fun r19 μ18 => (f_Bk_setPointer μ18 r2 r19 (fun μ20 => (f_Co_spend μ20 (1 : Int32) (fun μ21 => (K (1 : Int32) μ21)))))))))))) ∧ (r13 = 0 → (K (0 : Int32) μ12))))))))))
set_option maxHeartbeats 4000000 in
set_option maxRecDepth 100000 in
theorem c_Bh_link (l : Launch) (E : zE) (μ : zM) (a1 a2 a3 : Int32) (K : Int32 → zM → Prop) (h : f_Bh_link μ a1 a2 a3 K) : Met l y_Bh_link (Cond.code y_Bh_link prog_1_method_7_code 5 (some .boolean) :: zT) { frames := 6, cells := 0, slots := 0, locals := 131 } (va_Pc [.ref (E.2.1 0), .int a1, .int a2, .int a3] (zR zwC E μ)) (va_Qi K (zR zwC E) (zA E)) 0 0 (zA E) := by
  refine z_head (by decide) (Nat.le_of_ble_eq_true rfl) ?_
  intro p e s m below meth c X hr hlk w ls hl
  have X : zX E p s m _ c prog_1_method_7_code "BeatHeap" 5 := X
  have hx := X.1
  have hb := X.2.1
  have hl : lv_has ls 5 [(0, .ref (E.2.1 0)), (1, .int a1), (2, .int a2), (3, .int a3)] := hl
  unfold f_Bh_link at h
  refine lv_aload_n hx hb d_Bh_link_0 rfl (lv_at hl 0 rfl) ?_
  refine lv_iload_n hx hb d_Bh_link_1 rfl (lv_at hl 1 rfl) ?_
  refine lv_iload_n hx hb d_Bh_link_2 rfl (lv_at hl 2 rfl) ?_
  refine z_cVi (As := [.int a1, .int a2]) (rest := []) (q0 := 0) (ci := 5) X w (c_Bh_pointerAddress l E μ a1 a2 _ h) rfl rfl rfl w_ml_Bh_82 ⟨w_im_Bh_pointerAddress, w_se_Bh_pointerAddress⟩ w_in_Bh w_co_Bh_pointerAddress q_Bh_pointerAddress.1 q_Bh_pointerAddress.2 rfl ⟨Nat.le_of_ble_eq_true rfl, Nat.le_of_ble_eq_true rfl⟩ ⟨Nat.zero_le _, Nat.zero_le _⟩ hl.1 rfl (Nat.le_of_ble_eq_true rfl) d_Bh_link_3 (fun r2 μ1 H locs h w => ?_)
  refine lv_istore (lv' := [(4, .int r2), (0, .ref (E.2.1 0)), (1, .int a1), (2, .int a2), (3, .int a3)]) hx hb d_Bh_link_6 hl (by decide) rfl (fun ls hl => ?_)
  refine lv_iload hx hb d_Bh_link_8 (lv_at hl 0 rfl) ?_
  refine lv_iconst (v := (-1)) hx hb d_Bh_link_10 (by decide) ?_
  refine lv_icmp_eq (tgt := 26) hx hb d_Bh_link_11 (by decide) (fun c3 => ?_) (fun c3 => ?_)
  · have h := h.1 c3
    refine lv_iconst (v := 0) hx hb d_Bh_link_26 (by decide) ?_
    exact z_zret X hr hlk w (by decide) h d_Bh_link_27
  · have h := h.2 c3
    refine lv_iload_n hx hb d_Bh_link_14 rfl (lv_at hl 4 rfl) ?_
    refine lv_iconst (v := (-1)) hx hb d_Bh_link_15 (by decide) ?_
    refine lv_icmp_eq (tgt := 28) hx hb d_Bh_link_16 (by decide) (fun c4 => ?_) (fun c4 => ?_)
    · have h := h.1 c4
      refine lv_aload_n hx hb d_Bh_link_28 rfl (lv_at hl 1 rfl) ?_
      refine gt_0_0 X w w_fl_Bh_12 d_Bh_link_29 ?_
      refine lv_aload_n hx hb d_Bh_link_32 rfl (lv_at hl 1 rfl) ?_
      refine gt_0_1 X w w_fl_Bh_20 d_Bh_link_33 ?_
      refine lv_iload hx hb d_Bh_link_36 (lv_at hl 0 rfl) ?_
      refine z_cVi (As := [.int r2]) (rest := [.ref (E.2.1 1)]) (q0 := 2) (ci := 0) X w (c_Bk_pointerAt l E μ1 r2 _ h) rfl rfl rfl w_ml_Bh_85 ⟨w_im_Bk_pointerAt, w_se_Bk_pointerAt⟩ w_in_Bk w_co_Bk_pointerAt q_Bk_pointerAt.1 q_Bk_pointerAt.2 rfl ⟨Nat.le_of_ble_eq_true rfl, Nat.le_of_ble_eq_true rfl⟩ ⟨Nat.zero_le _, Nat.zero_le _⟩ hl.1 rfl (Nat.le_of_ble_eq_true rfl) d_Bh_link_38 (fun r6 μ5 H locs h w => ?_)
      refine z_cVv (As := [.int r6]) (rest := []) (q0 := 1) (ci := 2) X w (c_Co_greyOld l E μ5 r6 _ h) rfl rfl rfl w_ml_Bh_88 ⟨w_im_Co_greyOld, w_se_Co_greyOld⟩ w_in_Co w_co_Co_greyOld q_Co_greyOld.1 q_Co_greyOld.2 rfl ⟨Nat.le_of_ble_eq_true rfl, Nat.le_of_ble_eq_true rfl⟩ ⟨Nat.zero_le _, Nat.zero_le _⟩ hl.1 rfl (Nat.le_of_ble_eq_true rfl) d_Bh_link_41 (fun μ7 H locs h w => ?_)
      refine lv_aload_n hx hb d_Bh_link_44 rfl (lv_at hl 1 rfl) ?_
      refine gt_0_1 X w w_fl_Bh_20 d_Bh_link_45 ?_
      refine lv_iload hx hb d_Bh_link_48 (lv_at hl 0 rfl) ?_
      refine lv_aload_n hx hb d_Bh_link_50 rfl (lv_at hl 1 rfl) ?_
      refine lv_iload_n hx hb d_Bh_link_51 rfl (lv_at hl 4 rfl) ?_
      refine z_cVi (As := [.int a3]) (rest := [.int r2, .ref (E.2.1 2)]) (q0 := 0) (ci := 5) X w (c_Bh_rootOrNone l E μ7 a3 _ h) rfl rfl rfl w_ml_Bh_91 ⟨w_im_Bh_rootOrNone, w_se_Bh_rootOrNone⟩ w_in_Bh w_co_Bh_rootOrNone q_Bh_rootOrNone.1 q_Bh_rootOrNone.2 rfl ⟨Nat.le_of_ble_eq_true rfl, Nat.le_of_ble_eq_true rfl⟩ ⟨Nat.zero_le _, Nat.zero_le _⟩ hl.1 rfl (Nat.le_of_ble_eq_true rfl) d_Bh_link_52 (fun r9 μ8 H locs h w => ?_)
      refine z_cVv (As := [.int r2, .int r9]) (rest := []) (q0 := 2) (ci := 0) X w (c_Bk_setPointer l E μ8 r2 r9 _ h) rfl rfl rfl w_ml_Bh_94 ⟨w_im_Bk_setPointer, w_se_Bk_setPointer⟩ w_in_Bk w_co_Bk_setPointer q_Bk_setPointer.1 q_Bk_setPointer.2 rfl ⟨Nat.le_of_ble_eq_true rfl, Nat.le_of_ble_eq_true rfl⟩ ⟨Nat.zero_le _, Nat.zero_le _⟩ hl.1 rfl (Nat.le_of_ble_eq_true rfl) d_Bh_link_55 (fun μ10 H locs h w => ?_)
      refine lv_aload_n hx hb d_Bh_link_58 rfl (lv_at hl 1 rfl) ?_
      refine gt_0_0 X w w_fl_Bh_12 d_Bh_link_59 ?_
      refine lv_iconst (v := 1) hx hb d_Bh_link_62 (by decide) ?_
      refine z_cVv (As := [.int (1 : Int32)]) (rest := []) (q0 := 1) (ci := 2) X w (c_Co_spend l E μ10 (1 : Int32) _ h) rfl rfl rfl w_ml_Bh_61 ⟨w_im_Co_spend, w_se_Co_spend⟩ w_in_Co w_co_Co_spend q_Co_spend.1 q_Co_spend.2 rfl ⟨Nat.le_of_ble_eq_true rfl, Nat.le_of_ble_eq_true rfl⟩ ⟨Nat.zero_le _, Nat.zero_le _⟩ hl.1 rfl (Nat.le_of_ble_eq_true rfl) d_Bh_link_63 (fun μ11 H locs h w => ?_)
      refine lv_iconst (v := 1) hx hb d_Bh_link_66 (by decide) ?_
      exact z_zret X hr hlk w (by decide) h d_Bh_link_67
    · have h := h.2 c4
      refine lv_iload_n hx hb d_Bh_link_19 rfl (lv_at hl 4 rfl) ?_
      refine z_cSi (As := [.int a3]) (rest := []) X w (c_Bh_isRoot l E μ1 a3 _ h) w_ml_Bh_46 w_st_Bh_isRoot w_in_Bh w_co_Bh_isRoot q_Bh_isRoot.1 q_Bh_isRoot.2 rfl ⟨Nat.le_of_ble_eq_true rfl, Nat.le_of_ble_eq_true rfl⟩ ⟨Nat.zero_le _, Nat.zero_le _⟩ hl.1 rfl (Nat.le_of_ble_eq_true rfl) d_Bh_link_20 (fun r13 μ12 H locs h w => ?_)
      refine lv_if_ne (tgt := 28) hx hb d_Bh_link_23 (by decide) (fun c14 => ?_) (fun c14 => ?_)
      · have h := h.1 c14
        refine lv_aload_n hx hb d_Bh_link_28 rfl (lv_at hl 1 rfl) ?_
        refine gt_0_0 X w w_fl_Bh_12 d_Bh_link_29 ?_
        refine lv_aload_n hx hb d_Bh_link_32 rfl (lv_at hl 1 rfl) ?_
        refine gt_0_1 X w w_fl_Bh_20 d_Bh_link_33 ?_
        refine lv_iload hx hb d_Bh_link_36 (lv_at hl 0 rfl) ?_
        refine z_cVi (As := [.int r2]) (rest := [.ref (E.2.1 1)]) (q0 := 2) (ci := 0) X w (c_Bk_pointerAt l E μ12 r2 _ h) rfl rfl rfl w_ml_Bh_85 ⟨w_im_Bk_pointerAt, w_se_Bk_pointerAt⟩ w_in_Bk w_co_Bk_pointerAt q_Bk_pointerAt.1 q_Bk_pointerAt.2 rfl ⟨Nat.le_of_ble_eq_true rfl, Nat.le_of_ble_eq_true rfl⟩ ⟨Nat.zero_le _, Nat.zero_le _⟩ hl.1 rfl (Nat.le_of_ble_eq_true rfl) d_Bh_link_38 (fun r16 μ15 H locs h w => ?_)
        refine z_cVv (As := [.int r16]) (rest := []) (q0 := 1) (ci := 2) X w (c_Co_greyOld l E μ15 r16 _ h) rfl rfl rfl w_ml_Bh_88 ⟨w_im_Co_greyOld, w_se_Co_greyOld⟩ w_in_Co w_co_Co_greyOld q_Co_greyOld.1 q_Co_greyOld.2 rfl ⟨Nat.le_of_ble_eq_true rfl, Nat.le_of_ble_eq_true rfl⟩ ⟨Nat.zero_le _, Nat.zero_le _⟩ hl.1 rfl (Nat.le_of_ble_eq_true rfl) d_Bh_link_41 (fun μ17 H locs h w => ?_)
        refine lv_aload_n hx hb d_Bh_link_44 rfl (lv_at hl 1 rfl) ?_
        refine gt_0_1 X w w_fl_Bh_20 d_Bh_link_45 ?_
        refine lv_iload hx hb d_Bh_link_48 (lv_at hl 0 rfl) ?_
        refine lv_aload_n hx hb d_Bh_link_50 rfl (lv_at hl 1 rfl) ?_
        refine lv_iload_n hx hb d_Bh_link_51 rfl (lv_at hl 4 rfl) ?_
        refine z_cVi (As := [.int a3]) (rest := [.int r2, .ref (E.2.1 2)]) (q0 := 0) (ci := 5) X w (c_Bh_rootOrNone l E μ17 a3 _ h) rfl rfl rfl w_ml_Bh_91 ⟨w_im_Bh_rootOrNone, w_se_Bh_rootOrNone⟩ w_in_Bh w_co_Bh_rootOrNone q_Bh_rootOrNone.1 q_Bh_rootOrNone.2 rfl ⟨Nat.le_of_ble_eq_true rfl, Nat.le_of_ble_eq_true rfl⟩ ⟨Nat.zero_le _, Nat.zero_le _⟩ hl.1 rfl (Nat.le_of_ble_eq_true rfl) d_Bh_link_52 (fun r19 μ18 H locs h w => ?_)
        refine z_cVv (As := [.int r2, .int r19]) (rest := []) (q0 := 2) (ci := 0) X w (c_Bk_setPointer l E μ18 r2 r19 _ h) rfl rfl rfl w_ml_Bh_94 ⟨w_im_Bk_setPointer, w_se_Bk_setPointer⟩ w_in_Bk w_co_Bk_setPointer q_Bk_setPointer.1 q_Bk_setPointer.2 rfl ⟨Nat.le_of_ble_eq_true rfl, Nat.le_of_ble_eq_true rfl⟩ ⟨Nat.zero_le _, Nat.zero_le _⟩ hl.1 rfl (Nat.le_of_ble_eq_true rfl) d_Bh_link_55 (fun μ20 H locs h w => ?_)
        refine lv_aload_n hx hb d_Bh_link_58 rfl (lv_at hl 1 rfl) ?_
        refine gt_0_0 X w w_fl_Bh_12 d_Bh_link_59 ?_
        refine lv_iconst (v := 1) hx hb d_Bh_link_62 (by decide) ?_
        refine z_cVv (As := [.int (1 : Int32)]) (rest := []) (q0 := 1) (ci := 2) X w (c_Co_spend l E μ20 (1 : Int32) _ h) rfl rfl rfl w_ml_Bh_61 ⟨w_im_Co_spend, w_se_Co_spend⟩ w_in_Co w_co_Co_spend q_Co_spend.1 q_Co_spend.2 rfl ⟨Nat.le_of_ble_eq_true rfl, Nat.le_of_ble_eq_true rfl⟩ ⟨Nat.zero_le _, Nat.zero_le _⟩ hl.1 rfl (Nat.le_of_ble_eq_true rfl) d_Bh_link_63 (fun μ21 H locs h w => ?_)
        refine lv_iconst (v := 1) hx hb d_Bh_link_66 (by decide) ?_
        exact z_zret X hr hlk w (by decide) h d_Bh_link_67
      · have h := h.2 c14
        refine lv_iconst (v := 0) hx hb d_Bh_link_26 (by decide) ?_
        exact z_zret X hr hlk w (by decide) h d_Bh_link_27
theorem q_Bh_follow : (y_Bh_follow.cls ≠ "java/lang/invoke/MethodHandle" ∧ y_Bh_follow.cls ≠ "java/lang/invoke/VarHandle") ∧ (parseMethodDescriptor y_Bh_follow.desc).map (fun d => d.parameters.length) = some 3 := by decide +kernel
theorem d_Bh_follow_0 : decode prog_1_method_8_code 0 = .ok (.aload_n 0, 1) := by decide +kernel
theorem d_Bh_follow_1 : decode prog_1_method_8_code 1 = .ok (.iload_n 1, 1) := by decide +kernel
theorem d_Bh_follow_2 : decode prog_1_method_8_code 2 = .ok (.iload_n 2, 1) := by decide +kernel
theorem d_Bh_follow_3 : decode prog_1_method_8_code 3 = .ok (.invokevirtual 82, 3) := by decide +kernel
theorem d_Bh_follow_6 : decode prog_1_method_8_code 6 = .ok (.istore 4, 2) := by decide +kernel
theorem d_Bh_follow_8 : decode prog_1_method_8_code 8 = .ok (.iload 4, 2) := by decide +kernel
theorem d_Bh_follow_10 : decode prog_1_method_8_code 10 = .ok (.iconst (-1), 1) := by decide +kernel
theorem d_Bh_follow_11 : decode prog_1_method_8_code 11 = .ok (.if_icmp .eq 10, 3) := by decide +kernel
theorem d_Bh_follow_14 : decode prog_1_method_8_code 14 = .ok (.iload_n 3, 1) := by decide +kernel
theorem d_Bh_follow_15 : decode prog_1_method_8_code 15 = .ok (.invokestatic 46, 3) := by decide +kernel
theorem d_Bh_follow_18 : decode prog_1_method_8_code 18 = .ok (.ifCond .ne 5, 3) := by decide +kernel
theorem d_Bh_follow_21 : decode prog_1_method_8_code 21 = .ok (.iconst 0, 1) := by decide +kernel
theorem d_Bh_follow_22 : decode prog_1_method_8_code 22 = .ok (.ireturn, 1) := by decide +kernel
theorem d_Bh_follow_23 : decode prog_1_method_8_code 23 = .ok (.aload_n 0, 1) := by decide +kernel
theorem d_Bh_follow_24 : decode prog_1_method_8_code 24 = .ok (.iload_n 3, 1) := by decide +kernel
theorem d_Bh_follow_25 : decode prog_1_method_8_code 25 = .ok (.aload_n 0, 1) := by decide +kernel
theorem d_Bh_follow_26 : decode prog_1_method_8_code 26 = .ok (.getfield 20, 3) := by decide +kernel
theorem d_Bh_follow_29 : decode prog_1_method_8_code 29 = .ok (.iload 4, 2) := by decide +kernel
theorem d_Bh_follow_31 : decode prog_1_method_8_code 31 = .ok (.invokevirtual 85, 3) := by decide +kernel
theorem d_Bh_follow_34 : decode prog_1_method_8_code 34 = .ok (.invokevirtual 97, 3) := by decide +kernel
theorem d_Bh_follow_37 : decode prog_1_method_8_code 37 = .ok (.aload_n 0, 1) := by decide +kernel
theorem d_Bh_follow_38 : decode prog_1_method_8_code 38 = .ok (.getfield 12, 3) := by decide +kernel
theorem d_Bh_follow_41 : decode prog_1_method_8_code 41 = .ok (.iconst 1, 1) := by decide +kernel
theorem d_Bh_follow_42 : decode prog_1_method_8_code 42 = .ok (.invokevirtual 61, 3) := by decide +kernel
theorem d_Bh_follow_45 : decode prog_1_method_8_code 45 = .ok (.iconst 1, 1) := by decide +kernel
theorem d_Bh_follow_46 : decode prog_1_method_8_code 46 = .ok (.ireturn, 1) := by decide +kernel
def f_Bh_follow (μ : zM) (a1 a2 a3 : Int32) (K : Int32 → zM → Prop) : Prop := f_Bh_pointerAddress μ a1 a2 (fun r2 μ1 => ((r2 = (-1 : Int32) → (K (0 : Int32) μ1)) ∧ (¬ r2 = (-1 : Int32) → (f_Bh_isRoot μ1 a3 (fun r5 μ4 => ((¬ r5 = 0 → (f_Bk_pointerAt μ4 r2 (fun r8 μ7 => (f_Bh_setRoot μ7 a3 r8 (fun μ9 => (f_Co_spend μ9 (1 : Int32) (fun μ10 => (K (1 : Int32) μ10)))))))) ∧ (r5 = 0 → (K (0 : Int32) μ4))))))))
set_option maxHeartbeats 4000000 in
set_option maxRecDepth 100000 in
theorem c_Bh_follow (l : Launch) (E : zE) (μ : zM) (a1 a2 a3 : Int32) (K : Int32 → zM → Prop) (h : f_Bh_follow μ a1 a2 a3 K) : Met l y_Bh_follow (Cond.code y_Bh_follow prog_1_method_8_code 5 (some .boolean) :: zT) { frames := 6, cells := 0, slots := 0, locals := 131 } (va_Pc [.ref (E.2.1 0), .int a1, .int a2, .int a3] (zR zwC E μ)) (va_Qi K (zR zwC E) (zA E)) 0 0 (zA E) := by
  refine z_head (by decide) (Nat.le_of_ble_eq_true rfl) ?_
  intro p e s m below meth c X hr hlk w ls hl
  have X : zX E p s m _ c prog_1_method_8_code "BeatHeap" 5 := X
  have hx := X.1
  have hb := X.2.1
  have hl : lv_has ls 5 [(0, .ref (E.2.1 0)), (1, .int a1), (2, .int a2), (3, .int a3)] := hl
  unfold f_Bh_follow at h
  refine lv_aload_n hx hb d_Bh_follow_0 rfl (lv_at hl 0 rfl) ?_
  refine lv_iload_n hx hb d_Bh_follow_1 rfl (lv_at hl 1 rfl) ?_
  refine lv_iload_n hx hb d_Bh_follow_2 rfl (lv_at hl 2 rfl) ?_
  refine z_cVi (As := [.int a1, .int a2]) (rest := []) (q0 := 0) (ci := 5) X w (c_Bh_pointerAddress l E μ a1 a2 _ h) rfl rfl rfl w_ml_Bh_82 ⟨w_im_Bh_pointerAddress, w_se_Bh_pointerAddress⟩ w_in_Bh w_co_Bh_pointerAddress q_Bh_pointerAddress.1 q_Bh_pointerAddress.2 rfl ⟨Nat.le_of_ble_eq_true rfl, Nat.le_of_ble_eq_true rfl⟩ ⟨Nat.zero_le _, Nat.zero_le _⟩ hl.1 rfl (Nat.le_of_ble_eq_true rfl) d_Bh_follow_3 (fun r2 μ1 H locs h w => ?_)
  refine lv_istore (lv' := [(4, .int r2), (0, .ref (E.2.1 0)), (1, .int a1), (2, .int a2), (3, .int a3)]) hx hb d_Bh_follow_6 hl (by decide) rfl (fun ls hl => ?_)
  refine lv_iload hx hb d_Bh_follow_8 (lv_at hl 0 rfl) ?_
  refine lv_iconst (v := (-1)) hx hb d_Bh_follow_10 (by decide) ?_
  refine lv_icmp_eq (tgt := 21) hx hb d_Bh_follow_11 (by decide) (fun c3 => ?_) (fun c3 => ?_)
  · have h := h.1 c3
    refine lv_iconst (v := 0) hx hb d_Bh_follow_21 (by decide) ?_
    exact z_zret X hr hlk w (by decide) h d_Bh_follow_22
  · have h := h.2 c3
    refine lv_iload_n hx hb d_Bh_follow_14 rfl (lv_at hl 4 rfl) ?_
    refine z_cSi (As := [.int a3]) (rest := []) X w (c_Bh_isRoot l E μ1 a3 _ h) w_ml_Bh_46 w_st_Bh_isRoot w_in_Bh w_co_Bh_isRoot q_Bh_isRoot.1 q_Bh_isRoot.2 rfl ⟨Nat.le_of_ble_eq_true rfl, Nat.le_of_ble_eq_true rfl⟩ ⟨Nat.zero_le _, Nat.zero_le _⟩ hl.1 rfl (Nat.le_of_ble_eq_true rfl) d_Bh_follow_15 (fun r5 μ4 H locs h w => ?_)
    refine lv_if_ne (tgt := 23) hx hb d_Bh_follow_18 (by decide) (fun c6 => ?_) (fun c6 => ?_)
    · have h := h.1 c6
      refine lv_aload_n hx hb d_Bh_follow_23 rfl (lv_at hl 1 rfl) ?_
      refine lv_iload_n hx hb d_Bh_follow_24 rfl (lv_at hl 4 rfl) ?_
      refine lv_aload_n hx hb d_Bh_follow_25 rfl (lv_at hl 1 rfl) ?_
      refine gt_0_1 X w w_fl_Bh_20 d_Bh_follow_26 ?_
      refine lv_iload hx hb d_Bh_follow_29 (lv_at hl 0 rfl) ?_
      refine z_cVi (As := [.int r2]) (rest := [.int a3, .ref (E.2.1 0)]) (q0 := 2) (ci := 0) X w (c_Bk_pointerAt l E μ4 r2 _ h) rfl rfl rfl w_ml_Bh_85 ⟨w_im_Bk_pointerAt, w_se_Bk_pointerAt⟩ w_in_Bk w_co_Bk_pointerAt q_Bk_pointerAt.1 q_Bk_pointerAt.2 rfl ⟨Nat.le_of_ble_eq_true rfl, Nat.le_of_ble_eq_true rfl⟩ ⟨Nat.zero_le _, Nat.zero_le _⟩ hl.1 rfl (Nat.le_of_ble_eq_true rfl) d_Bh_follow_31 (fun r8 μ7 H locs h w => ?_)
      refine z_cVv (As := [.int a3, .int r8]) (rest := []) (q0 := 0) (ci := 5) X w (c_Bh_setRoot l E μ7 a3 r8 _ h) rfl rfl rfl w_ml_Bh_97 ⟨w_im_Bh_setRoot, w_se_Bh_setRoot⟩ w_in_Bh w_co_Bh_setRoot q_Bh_setRoot.1 q_Bh_setRoot.2 rfl ⟨Nat.le_of_ble_eq_true rfl, Nat.le_of_ble_eq_true rfl⟩ ⟨Nat.zero_le _, Nat.zero_le _⟩ hl.1 rfl (Nat.le_of_ble_eq_true rfl) d_Bh_follow_34 (fun μ9 H locs h w => ?_)
      refine lv_aload_n hx hb d_Bh_follow_37 rfl (lv_at hl 1 rfl) ?_
      refine gt_0_0 X w w_fl_Bh_12 d_Bh_follow_38 ?_
      refine lv_iconst (v := 1) hx hb d_Bh_follow_41 (by decide) ?_
      refine z_cVv (As := [.int (1 : Int32)]) (rest := []) (q0 := 1) (ci := 2) X w (c_Co_spend l E μ9 (1 : Int32) _ h) rfl rfl rfl w_ml_Bh_61 ⟨w_im_Co_spend, w_se_Co_spend⟩ w_in_Co w_co_Co_spend q_Co_spend.1 q_Co_spend.2 rfl ⟨Nat.le_of_ble_eq_true rfl, Nat.le_of_ble_eq_true rfl⟩ ⟨Nat.zero_le _, Nat.zero_le _⟩ hl.1 rfl (Nat.le_of_ble_eq_true rfl) d_Bh_follow_42 (fun μ10 H locs h w => ?_)
      refine lv_iconst (v := 1) hx hb d_Bh_follow_45 (by decide) ?_
      exact z_zret X hr hlk w (by decide) h d_Bh_follow_46
    · have h := h.2 c6
      refine lv_iconst (v := 0) hx hb d_Bh_follow_21 (by decide) ?_
      exact z_zret X hr hlk w (by decide) h d_Bh_follow_22
theorem q_Bh_move : (y_Bh_move.cls ≠ "java/lang/invoke/MethodHandle" ∧ y_Bh_move.cls ≠ "java/lang/invoke/VarHandle") ∧ (parseMethodDescriptor y_Bh_move.desc).map (fun d => d.parameters.length) = some 2 := by decide +kernel
theorem d_Bh_move_0 : decode prog_1_method_9_code 0 = .ok (.iload_n 1, 1) := by decide +kernel
theorem d_Bh_move_1 : decode prog_1_method_9_code 1 = .ok (.invokestatic 46, 3) := by decide +kernel
theorem d_Bh_move_4 : decode prog_1_method_9_code 4 = .ok (.ifCond .eq 10, 3) := by decide +kernel
theorem d_Bh_move_7 : decode prog_1_method_9_code 7 = .ok (.iload_n 2, 1) := by decide +kernel
theorem d_Bh_move_8 : decode prog_1_method_9_code 8 = .ok (.invokestatic 46, 3) := by decide +kernel
theorem d_Bh_move_11 : decode prog_1_method_9_code 11 = .ok (.ifCond .ne 5, 3) := by decide +kernel
theorem d_Bh_move_14 : decode prog_1_method_9_code 14 = .ok (.iconst 0, 1) := by decide +kernel
theorem d_Bh_move_15 : decode prog_1_method_9_code 15 = .ok (.ireturn, 1) := by decide +kernel
theorem d_Bh_move_16 : decode prog_1_method_9_code 16 = .ok (.aload_n 0, 1) := by decide +kernel
theorem d_Bh_move_17 : decode prog_1_method_9_code 17 = .ok (.iload_n 2, 1) := by decide +kernel
theorem d_Bh_move_18 : decode prog_1_method_9_code 18 = .ok (.aload_n 0, 1) := by decide +kernel
theorem d_Bh_move_19 : decode prog_1_method_9_code 19 = .ok (.getfield 30, 3) := by decide +kernel
theorem d_Bh_move_22 : decode prog_1_method_9_code 22 = .ok (.iload_n 1, 1) := by decide +kernel
theorem d_Bh_move_23 : decode prog_1_method_9_code 23 = .ok (.iaload, 1) := by decide +kernel
theorem d_Bh_move_24 : decode prog_1_method_9_code 24 = .ok (.invokevirtual 97, 3) := by decide +kernel
theorem d_Bh_move_27 : decode prog_1_method_9_code 27 = .ok (.aload_n 0, 1) := by decide +kernel
theorem d_Bh_move_28 : decode prog_1_method_9_code 28 = .ok (.getfield 12, 3) := by decide +kernel
theorem d_Bh_move_31 : decode prog_1_method_9_code 31 = .ok (.iconst 1, 1) := by decide +kernel
theorem d_Bh_move_32 : decode prog_1_method_9_code 32 = .ok (.invokevirtual 61, 3) := by decide +kernel
theorem d_Bh_move_35 : decode prog_1_method_9_code 35 = .ok (.iconst 1, 1) := by decide +kernel
theorem d_Bh_move_36 : decode prog_1_method_9_code 36 = .ok (.ireturn, 1) := by decide +kernel
def f_Bh_move (μ : zM) (a1 a2 : Int32) (K : Int32 → zM → Prop) : Prop := f_Bh_isRoot μ a1 (fun r2 μ1 => ((r2 = 0 → (K (0 : Int32) μ1)) ∧ (¬ r2 = 0 → (f_Bh_isRoot μ1 a2 (fun r5 μ4 => ((¬ r5 = 0 → (vp_in a1 16 ∧ (f_Bh_setRoot μ4 a2 (μ4 14 a1.toNatClampNeg) (fun μ8 => (f_Co_spend μ8 (1 : Int32) (fun μ9 => (K (1 : Int32) μ9))))))) ∧ (r5 = 0 → (K (0 : Int32) μ4))))))))
set_option maxHeartbeats 4000000 in
set_option maxRecDepth 100000 in
theorem c_Bh_move (l : Launch) (E : zE) (μ : zM) (a1 a2 : Int32) (K : Int32 → zM → Prop) (h : f_Bh_move μ a1 a2 K) : Met l y_Bh_move (Cond.code y_Bh_move prog_1_method_9_code 3 (some .boolean) :: zT) { frames := 6, cells := 0, slots := 0, locals := 131 } (va_Pc [.ref (E.2.1 0), .int a1, .int a2] (zR zwC E μ)) (va_Qi K (zR zwC E) (zA E)) 0 0 (zA E) := by
  refine z_head (by decide) (Nat.le_of_ble_eq_true rfl) ?_
  intro p e s m below meth c X hr hlk w ls hl
  have X : zX E p s m _ c prog_1_method_9_code "BeatHeap" 3 := X
  have hx := X.1
  have hb := X.2.1
  have hl : lv_has ls 3 [(0, .ref (E.2.1 0)), (1, .int a1), (2, .int a2)] := hl
  unfold f_Bh_move at h
  refine lv_iload_n hx hb d_Bh_move_0 rfl (lv_at hl 1 rfl) ?_
  refine z_cSi (As := [.int a1]) (rest := []) X w (c_Bh_isRoot l E μ a1 _ h) w_ml_Bh_46 w_st_Bh_isRoot w_in_Bh w_co_Bh_isRoot q_Bh_isRoot.1 q_Bh_isRoot.2 rfl ⟨Nat.le_of_ble_eq_true rfl, Nat.le_of_ble_eq_true rfl⟩ ⟨Nat.zero_le _, Nat.zero_le _⟩ hl.1 rfl (Nat.le_of_ble_eq_true rfl) d_Bh_move_1 (fun r2 μ1 H locs h w => ?_)
  refine lv_if_eq (tgt := 14) hx hb d_Bh_move_4 (by decide) (fun c3 => ?_) (fun c3 => ?_)
  · have h := h.1 c3
    refine lv_iconst (v := 0) hx hb d_Bh_move_14 (by decide) ?_
    exact z_zret X hr hlk w (by decide) h d_Bh_move_15
  · have h := h.2 c3
    refine lv_iload_n hx hb d_Bh_move_7 rfl (lv_at hl 2 rfl) ?_
    refine z_cSi (As := [.int a2]) (rest := []) X w (c_Bh_isRoot l E μ1 a2 _ h) w_ml_Bh_46 w_st_Bh_isRoot w_in_Bh w_co_Bh_isRoot q_Bh_isRoot.1 q_Bh_isRoot.2 rfl ⟨Nat.le_of_ble_eq_true rfl, Nat.le_of_ble_eq_true rfl⟩ ⟨Nat.zero_le _, Nat.zero_le _⟩ hl.1 rfl (Nat.le_of_ble_eq_true rfl) d_Bh_move_8 (fun r5 μ4 H locs h w => ?_)
    refine lv_if_ne (tgt := 16) hx hb d_Bh_move_11 (by decide) (fun c6 => ?_) (fun c6 => ?_)
    · have h := h.1 c6
      refine lv_aload_n hx hb d_Bh_move_16 rfl (lv_at hl 0 rfl) ?_
      refine lv_iload_n hx hb d_Bh_move_17 rfl (lv_at hl 2 rfl) ?_
      refine lv_aload_n hx hb d_Bh_move_18 rfl (lv_at hl 0 rfl) ?_
      refine gt_0_3 X w w_fl_Bh_30 d_Bh_move_19 ?_
      refine lv_iload_n hx hb d_Bh_move_22 rfl (lv_at hl 1 rfl) ?_
      obtain ⟨hi7, h⟩ := h
      refine al_14 X w hi7 d_Bh_move_23 ?_
      refine z_cVv (As := [.int a2, .int (μ4 14 a1.toNatClampNeg)]) (rest := []) (q0 := 0) (ci := 5) X w (c_Bh_setRoot l E μ4 a2 (μ4 14 a1.toNatClampNeg) _ h) rfl rfl rfl w_ml_Bh_97 ⟨w_im_Bh_setRoot, w_se_Bh_setRoot⟩ w_in_Bh w_co_Bh_setRoot q_Bh_setRoot.1 q_Bh_setRoot.2 rfl ⟨Nat.le_of_ble_eq_true rfl, Nat.le_of_ble_eq_true rfl⟩ ⟨Nat.zero_le _, Nat.zero_le _⟩ hl.1 rfl (Nat.le_of_ble_eq_true rfl) d_Bh_move_24 (fun μ8 H locs h w => ?_)
      refine lv_aload_n hx hb d_Bh_move_27 rfl (lv_at hl 0 rfl) ?_
      refine gt_0_0 X w w_fl_Bh_12 d_Bh_move_28 ?_
      refine lv_iconst (v := 1) hx hb d_Bh_move_31 (by decide) ?_
      refine z_cVv (As := [.int (1 : Int32)]) (rest := []) (q0 := 1) (ci := 2) X w (c_Co_spend l E μ8 (1 : Int32) _ h) rfl rfl rfl w_ml_Bh_61 ⟨w_im_Co_spend, w_se_Co_spend⟩ w_in_Co w_co_Co_spend q_Co_spend.1 q_Co_spend.2 rfl ⟨Nat.le_of_ble_eq_true rfl, Nat.le_of_ble_eq_true rfl⟩ ⟨Nat.zero_le _, Nat.zero_le _⟩ hl.1 rfl (Nat.le_of_ble_eq_true rfl) d_Bh_move_32 (fun μ9 H locs h w => ?_)
      refine lv_iconst (v := 1) hx hb d_Bh_move_35 (by decide) ?_
      exact z_zret X hr hlk w (by decide) h d_Bh_move_36
    · have h := h.2 c6
      refine lv_iconst (v := 0) hx hb d_Bh_move_14 (by decide) ?_
      exact z_zret X hr hlk w (by decide) h d_Bh_move_15
theorem q_Bh_drop : (y_Bh_drop.cls ≠ "java/lang/invoke/MethodHandle" ∧ y_Bh_drop.cls ≠ "java/lang/invoke/VarHandle") ∧ (parseMethodDescriptor y_Bh_drop.desc).map (fun d => d.parameters.length) = some 1 := by decide +kernel
theorem d_Bh_drop_0 : decode prog_1_method_10_code 0 = .ok (.iload_n 1, 1) := by decide +kernel
theorem d_Bh_drop_1 : decode prog_1_method_10_code 1 = .ok (.invokestatic 46, 3) := by decide +kernel
theorem d_Bh_drop_4 : decode prog_1_method_10_code 4 = .ok (.ifCond .ne 5, 3) := by decide +kernel
theorem d_Bh_drop_7 : decode prog_1_method_10_code 7 = .ok (.iconst 0, 1) := by decide +kernel
theorem d_Bh_drop_8 : decode prog_1_method_10_code 8 = .ok (.ireturn, 1) := by decide +kernel
theorem d_Bh_drop_9 : decode prog_1_method_10_code 9 = .ok (.aload_n 0, 1) := by decide +kernel
theorem d_Bh_drop_10 : decode prog_1_method_10_code 10 = .ok (.iload_n 1, 1) := by decide +kernel
theorem d_Bh_drop_11 : decode prog_1_method_10_code 11 = .ok (.iconst (-1), 1) := by decide +kernel
theorem d_Bh_drop_12 : decode prog_1_method_10_code 12 = .ok (.invokevirtual 97, 3) := by decide +kernel
theorem d_Bh_drop_15 : decode prog_1_method_10_code 15 = .ok (.aload_n 0, 1) := by decide +kernel
theorem d_Bh_drop_16 : decode prog_1_method_10_code 16 = .ok (.getfield 12, 3) := by decide +kernel
theorem d_Bh_drop_19 : decode prog_1_method_10_code 19 = .ok (.iconst 1, 1) := by decide +kernel
theorem d_Bh_drop_20 : decode prog_1_method_10_code 20 = .ok (.invokevirtual 61, 3) := by decide +kernel
theorem d_Bh_drop_23 : decode prog_1_method_10_code 23 = .ok (.iconst 1, 1) := by decide +kernel
theorem d_Bh_drop_24 : decode prog_1_method_10_code 24 = .ok (.ireturn, 1) := by decide +kernel
def f_Bh_drop (μ : zM) (a1 : Int32) (K : Int32 → zM → Prop) : Prop := f_Bh_isRoot μ a1 (fun r2 μ1 => ((¬ r2 = 0 → (f_Bh_setRoot μ1 a1 (-1 : Int32) (fun μ4 => (f_Co_spend μ4 (1 : Int32) (fun μ5 => (K (1 : Int32) μ5)))))) ∧ (r2 = 0 → (K (0 : Int32) μ1))))
set_option maxHeartbeats 4000000 in
set_option maxRecDepth 100000 in
theorem c_Bh_drop (l : Launch) (E : zE) (μ : zM) (a1 : Int32) (K : Int32 → zM → Prop) (h : f_Bh_drop μ a1 K) : Met l y_Bh_drop (Cond.code y_Bh_drop prog_1_method_10_code 2 (some .boolean) :: zT) { frames := 6, cells := 0, slots := 0, locals := 131 } (va_Pc [.ref (E.2.1 0), .int a1] (zR zwC E μ)) (va_Qi K (zR zwC E) (zA E)) 0 0 (zA E) := by
  refine z_head (by decide) (Nat.le_of_ble_eq_true rfl) ?_
  intro p e s m below meth c X hr hlk w ls hl
  have X : zX E p s m _ c prog_1_method_10_code "BeatHeap" 2 := X
  have hx := X.1
  have hb := X.2.1
  have hl : lv_has ls 2 [(0, .ref (E.2.1 0)), (1, .int a1)] := hl
  unfold f_Bh_drop at h
  refine lv_iload_n hx hb d_Bh_drop_0 rfl (lv_at hl 1 rfl) ?_
  refine z_cSi (As := [.int a1]) (rest := []) X w (c_Bh_isRoot l E μ a1 _ h) w_ml_Bh_46 w_st_Bh_isRoot w_in_Bh w_co_Bh_isRoot q_Bh_isRoot.1 q_Bh_isRoot.2 rfl ⟨Nat.le_of_ble_eq_true rfl, Nat.le_of_ble_eq_true rfl⟩ ⟨Nat.zero_le _, Nat.zero_le _⟩ hl.1 rfl (Nat.le_of_ble_eq_true rfl) d_Bh_drop_1 (fun r2 μ1 H locs h w => ?_)
  refine lv_if_ne (tgt := 9) hx hb d_Bh_drop_4 (by decide) (fun c3 => ?_) (fun c3 => ?_)
  · have h := h.1 c3
    refine lv_aload_n hx hb d_Bh_drop_9 rfl (lv_at hl 0 rfl) ?_
    refine lv_iload_n hx hb d_Bh_drop_10 rfl (lv_at hl 1 rfl) ?_
    refine lv_iconst (v := (-1)) hx hb d_Bh_drop_11 (by decide) ?_
    refine z_cVv (As := [.int a1, .int (-1 : Int32)]) (rest := []) (q0 := 0) (ci := 5) X w (c_Bh_setRoot l E μ1 a1 (-1 : Int32) _ h) rfl rfl rfl w_ml_Bh_97 ⟨w_im_Bh_setRoot, w_se_Bh_setRoot⟩ w_in_Bh w_co_Bh_setRoot q_Bh_setRoot.1 q_Bh_setRoot.2 rfl ⟨Nat.le_of_ble_eq_true rfl, Nat.le_of_ble_eq_true rfl⟩ ⟨Nat.zero_le _, Nat.zero_le _⟩ hl.1 rfl (Nat.le_of_ble_eq_true rfl) d_Bh_drop_12 (fun μ4 H locs h w => ?_)
    refine lv_aload_n hx hb d_Bh_drop_15 rfl (lv_at hl 0 rfl) ?_
    refine gt_0_0 X w w_fl_Bh_12 d_Bh_drop_16 ?_
    refine lv_iconst (v := 1) hx hb d_Bh_drop_19 (by decide) ?_
    refine z_cVv (As := [.int (1 : Int32)]) (rest := []) (q0 := 1) (ci := 2) X w (c_Co_spend l E μ4 (1 : Int32) _ h) rfl rfl rfl w_ml_Bh_61 ⟨w_im_Co_spend, w_se_Co_spend⟩ w_in_Co w_co_Co_spend q_Co_spend.1 q_Co_spend.2 rfl ⟨Nat.le_of_ble_eq_true rfl, Nat.le_of_ble_eq_true rfl⟩ ⟨Nat.zero_le _, Nat.zero_le _⟩ hl.1 rfl (Nat.le_of_ble_eq_true rfl) d_Bh_drop_20 (fun μ5 H locs h w => ?_)
    refine lv_iconst (v := 1) hx hb d_Bh_drop_23 (by decide) ?_
    exact z_zret X hr hlk w (by decide) h d_Bh_drop_24
  · have h := h.2 c3
    refine lv_iconst (v := 0) hx hb d_Bh_drop_7 (by decide) ?_
    exact z_zret X hr hlk w (by decide) h d_Bh_drop_8
