theorem q_Mo_pointerAt : (y_Mo_pointerAt.cls ≠ "java/lang/invoke/MethodHandle" ∧ y_Mo_pointerAt.cls ≠ "java/lang/invoke/VarHandle") ∧ (parseMethodDescriptor y_Mo_pointerAt.desc).map (fun d => d.parameters.length) = some 2 := by decide +kernel
theorem d_Mo_pointerAt_0 : decode prog_8_method_28_code 0 = .ok (.iload_n 1, 1) := by decide +kernel
theorem d_Mo_pointerAt_1 : decode prog_8_method_28_code 1 = .ok (.invokestatic 134, 3) := by decide +kernel
theorem d_Mo_pointerAt_4 : decode prog_8_method_28_code 4 = .ok (.ifCond .eq 12, 3) := by decide +kernel
theorem d_Mo_pointerAt_7 : decode prog_8_method_28_code 7 = .ok (.aload_n 0, 1) := by decide +kernel
theorem d_Mo_pointerAt_8 : decode prog_8_method_28_code 8 = .ok (.getfield 29, 3) := by decide +kernel
theorem d_Mo_pointerAt_11 : decode prog_8_method_28_code 11 = .ok (.iload_n 1, 1) := by decide +kernel
theorem d_Mo_pointerAt_12 : decode prog_8_method_28_code 12 = .ok (.iaload, 1) := by decide +kernel
theorem d_Mo_pointerAt_13 : decode prog_8_method_28_code 13 = .ok (.goto 4, 3) := by decide +kernel
theorem d_Mo_pointerAt_16 : decode prog_8_method_28_code 16 = .ok (.iconst (-1), 1) := by decide +kernel
theorem d_Mo_pointerAt_17 : decode prog_8_method_28_code 17 = .ok (.istore_n 3, 1) := by decide +kernel
theorem d_Mo_pointerAt_18 : decode prog_8_method_28_code 18 = .ok (.iload_n 3, 1) := by decide +kernel
theorem d_Mo_pointerAt_19 : decode prog_8_method_28_code 19 = .ok (.iconst (-1), 1) := by decide +kernel
theorem d_Mo_pointerAt_20 : decode prog_8_method_28_code 20 = .ok (.if_icmp .eq 27, 3) := by decide +kernel
theorem d_Mo_pointerAt_23 : decode prog_8_method_28_code 23 = .ok (.aload_n 0, 1) := by decide +kernel
theorem d_Mo_pointerAt_24 : decode prog_8_method_28_code 24 = .ok (.getfield 16, 3) := by decide +kernel
theorem d_Mo_pointerAt_27 : decode prog_8_method_28_code 27 = .ok (.iload_n 3, 1) := by decide +kernel
theorem d_Mo_pointerAt_28 : decode prog_8_method_28_code 28 = .ok (.iaload, 1) := by decide +kernel
theorem d_Mo_pointerAt_29 : decode prog_8_method_28_code 29 = .ok (.iconst 2, 1) := by decide +kernel
theorem d_Mo_pointerAt_30 : decode prog_8_method_28_code 30 = .ok (.if_icmp .eq 17, 3) := by decide +kernel
theorem d_Mo_pointerAt_33 : decode prog_8_method_28_code 33 = .ok (.iload_n 2, 1) := by decide +kernel
theorem d_Mo_pointerAt_34 : decode prog_8_method_28_code 34 = .ok (.ifCond .lt 13, 3) := by decide +kernel
theorem d_Mo_pointerAt_37 : decode prog_8_method_28_code 37 = .ok (.iload_n 2, 1) := by decide +kernel
theorem d_Mo_pointerAt_38 : decode prog_8_method_28_code 38 = .ok (.aload_n 0, 1) := by decide +kernel
theorem d_Mo_pointerAt_39 : decode prog_8_method_28_code 39 = .ok (.getfield 23, 3) := by decide +kernel
theorem d_Mo_pointerAt_42 : decode prog_8_method_28_code 42 = .ok (.iload_n 3, 1) := by decide +kernel
theorem d_Mo_pointerAt_43 : decode prog_8_method_28_code 43 = .ok (.iaload, 1) := by decide +kernel
theorem d_Mo_pointerAt_44 : decode prog_8_method_28_code 44 = .ok (.if_icmp .lt 7, 3) := by decide +kernel
theorem d_Mo_pointerAt_47 : decode prog_8_method_28_code 47 = .ok (.iconst (-1), 1) := by decide +kernel
theorem d_Mo_pointerAt_48 : decode prog_8_method_28_code 48 = .ok (.goto 8, 3) := by decide +kernel
theorem d_Mo_pointerAt_51 : decode prog_8_method_28_code 51 = .ok (.iload_n 3, 1) := by decide +kernel
theorem d_Mo_pointerAt_52 : decode prog_8_method_28_code 52 = .ok (.iconst 1, 1) := by decide +kernel
theorem d_Mo_pointerAt_53 : decode prog_8_method_28_code 53 = .ok (.iadd, 1) := by decide +kernel
theorem d_Mo_pointerAt_54 : decode prog_8_method_28_code 54 = .ok (.iload_n 2, 1) := by decide +kernel
theorem d_Mo_pointerAt_55 : decode prog_8_method_28_code 55 = .ok (.iadd, 1) := by decide +kernel
theorem d_Mo_pointerAt_56 : decode prog_8_method_28_code 56 = .ok (.ireturn, 1) := by decide +kernel
def f_Mo_pointerAt (μ : zM) (a1 a2 : Int32) (K : Int32 → zM → Prop) : Prop := f_Mo_isRoot μ a1 (fun r2 μ1 => ((r2 = 0 → (((-1 : Int32) = (-1 : Int32) → (K (-1 : Int32) μ1)) ∧ (¬ (-1 : Int32) = (-1 : Int32) → (vp_in (-1 : Int32) 4096 ∧ (((μ1 22 (-1 : Int32).toNatClampNeg) = (2 : Int32) → (K (-1 : Int32) μ1)) ∧ (¬ (μ1 22 (-1 : Int32).toNatClampNeg) = (2 : Int32) → ((a2 < 0 → (K (-1 : Int32) μ1)) ∧ (¬ a2 < 0 → (vp_in (-1 : Int32) 4096 ∧ ((a2 < (μ1 24 (-1 : Int32).toNatClampNeg) → (K (((-1 : Int32) + (1 : Int32)) + a2) μ1)) ∧ (¬ a2 < (μ1 24 (-1 : Int32).toNatClampNeg) → (K (-1 : Int32) μ1)))))))))))) ∧ (¬ r2 = 0 → (vp_in a1 16 ∧ (∀ x11 : Int32, x11 = (μ1 26 a1.toNatClampNeg) → ((x11 = (-1 : Int32) → (K (-1 : Int32) μ1)) ∧ (¬ x11 = (-1 : Int32) → (vp_in x11 4096 ∧ (((μ1 22 x11.toNatClampNeg) = (2 : Int32) → (K (-1 : Int32) μ1)) ∧ (¬ (μ1 22 x11.toNatClampNeg) = (2 : Int32) → ((a2 < 0 → (K (-1 : Int32) μ1)) ∧ (¬ a2 < 0 → (vp_in x11 4096 ∧ ((a2 < (μ1 24 x11.toNatClampNeg) → (K ((x11 + (1 : Int32)) + a2) μ1)) ∧ (¬ a2 < (μ1 24 x11.toNatClampNeg) → (K (-1 : Int32) μ1))))))))))))))))
set_option maxHeartbeats 4000000 in
set_option maxRecDepth 100000 in
theorem c_Mo_pointerAt (l : Launch) (E : zE) (μ : zM) (a1 a2 : Int32) (K : Int32 → zM → Prop) (h : f_Mo_pointerAt μ a1 a2 K) : Met l y_Mo_pointerAt (Cond.code y_Mo_pointerAt prog_8_method_28_code 4 (some .int) :: zT) { frames := 1, cells := 0, slots := 0, locals := 20 } (va_Pc [.ref (E.2.1 19), .int a1, .int a2] (zR zwM E μ)) (va_Qi K (zR zwM E) (zA E)) 0 0 (zA E) := by
  refine z_head (by decide) (Nat.le_of_ble_eq_true rfl) ?_
  intro p e s m below meth c X hr hlk w ls hl
  have X : zX E p s m _ c prog_8_method_28_code "BeatHeapModel" 4 := X
  have hx := X.1
  have hb := X.2.1
  have hl : lv_has ls 4 [(0, .ref (E.2.1 19)), (1, .int a1), (2, .int a2)] := hl
  unfold f_Mo_pointerAt at h
  refine lv_iload_n hx hb d_Mo_pointerAt_0 rfl (lv_at hl 1 rfl) ?_
  refine z_cSi (As := [.int a1]) (rest := []) X w (c_Mo_isRoot l E μ a1 _ h) w_ml_Mo_134 w_st_Mo_isRoot w_in_Mo w_co_Mo_isRoot q_Mo_isRoot.1 q_Mo_isRoot.2 rfl ⟨Nat.le_of_ble_eq_true rfl, Nat.le_of_ble_eq_true rfl⟩ ⟨Nat.zero_le _, Nat.zero_le _⟩ hl.1 rfl (Nat.le_of_ble_eq_true rfl) d_Mo_pointerAt_1 (fun r2 μ1 H locs h w => ?_)
  refine lv_if_eq (tgt := 16) hx hb d_Mo_pointerAt_4 (by decide) (fun c3 => ?_) (fun c3 => ?_)
  · have h := h.1 c3
    refine lv_iconst (v := (-1)) hx hb d_Mo_pointerAt_16 (by decide) ?_
    refine lv_istore_n (lv' := [(3, .int (-1 : Int32)), (0, .ref (E.2.1 19)), (1, .int a1), (2, .int a2)]) hx hb d_Mo_pointerAt_17 rfl hl (by decide) rfl (fun ls hl => ?_)
    refine lv_iload_n hx hb d_Mo_pointerAt_18 rfl (lv_at hl 0 rfl) ?_
    refine lv_iconst (v := (-1)) hx hb d_Mo_pointerAt_19 (by decide) ?_
    refine lv_icmp_eq (tgt := 47) hx hb d_Mo_pointerAt_20 (by decide) (fun c4 => ?_) (fun c4 => ?_)
    · have h := h.1 c4
      refine lv_iconst (v := (-1)) hx hb d_Mo_pointerAt_47 (by decide) ?_
      refine lv_goto (tgt := 56) hx hb d_Mo_pointerAt_48 (by decide) ?_
      exact z_iret X hr hlk w h d_Mo_pointerAt_56
    · have h := h.2 c4
      refine lv_aload_n hx hb d_Mo_pointerAt_23 rfl (lv_at hl 1 rfl) ?_
      refine gt_19_6 X w w_fl_Mo_16 d_Mo_pointerAt_24 ?_
      refine lv_iload_n hx hb d_Mo_pointerAt_27 rfl (lv_at hl 0 rfl) ?_
      obtain ⟨hi5, h⟩ := h
      refine al_22 X w hi5 d_Mo_pointerAt_28 ?_
      refine lv_iconst (v := 2) hx hb d_Mo_pointerAt_29 (by decide) ?_
      refine lv_icmp_eq (tgt := 47) hx hb d_Mo_pointerAt_30 (by decide) (fun c6 => ?_) (fun c6 => ?_)
      · have h := h.1 c6
        refine lv_iconst (v := (-1)) hx hb d_Mo_pointerAt_47 (by decide) ?_
        refine lv_goto (tgt := 56) hx hb d_Mo_pointerAt_48 (by decide) ?_
        exact z_iret X hr hlk w h d_Mo_pointerAt_56
      · have h := h.2 c6
        refine lv_iload_n hx hb d_Mo_pointerAt_33 rfl (lv_at hl 3 rfl) ?_
        refine lv_if_lt (tgt := 47) hx hb d_Mo_pointerAt_34 (by decide) (fun c7 => ?_) (fun c7 => ?_)
        · have h := h.1 c7
          refine lv_iconst (v := (-1)) hx hb d_Mo_pointerAt_47 (by decide) ?_
          refine lv_goto (tgt := 56) hx hb d_Mo_pointerAt_48 (by decide) ?_
          exact z_iret X hr hlk w h d_Mo_pointerAt_56
        · have h := h.2 c7
          refine lv_iload_n hx hb d_Mo_pointerAt_37 rfl (lv_at hl 3 rfl) ?_
          refine lv_aload_n hx hb d_Mo_pointerAt_38 rfl (lv_at hl 1 rfl) ?_
          refine gt_19_8 X w w_fl_Mo_23 d_Mo_pointerAt_39 ?_
          refine lv_iload_n hx hb d_Mo_pointerAt_42 rfl (lv_at hl 0 rfl) ?_
          obtain ⟨hi8, h⟩ := h
          refine al_24 X w hi8 d_Mo_pointerAt_43 ?_
          refine lv_icmp_lt (tgt := 51) hx hb d_Mo_pointerAt_44 (by decide) (fun c9 => ?_) (fun c9 => ?_)
          · have h := h.1 c9
            refine lv_iload_n hx hb d_Mo_pointerAt_51 rfl (lv_at hl 0 rfl) ?_
            refine lv_iconst (v := 1) hx hb d_Mo_pointerAt_52 (by decide) ?_
            refine lv_iadd hx hb d_Mo_pointerAt_53 ?_
            refine lv_iload_n hx hb d_Mo_pointerAt_54 rfl (lv_at hl 3 rfl) ?_
            refine lv_iadd hx hb d_Mo_pointerAt_55 ?_
            exact z_iret X hr hlk w h d_Mo_pointerAt_56
          · have h := h.2 c9
            refine lv_iconst (v := (-1)) hx hb d_Mo_pointerAt_47 (by decide) ?_
            refine lv_goto (tgt := 56) hx hb d_Mo_pointerAt_48 (by decide) ?_
            exact z_iret X hr hlk w h d_Mo_pointerAt_56
  · have h := h.2 c3
    refine lv_aload_n hx hb d_Mo_pointerAt_7 rfl (lv_at hl 0 rfl) ?_
    refine gt_19_10 X w w_fl_Mo_29 d_Mo_pointerAt_8 ?_
    refine lv_iload_n hx hb d_Mo_pointerAt_11 rfl (lv_at hl 1 rfl) ?_
    obtain ⟨hi10, h⟩ := h
    refine al_26 X w hi10 d_Mo_pointerAt_12 ?_
    refine lv_goto (tgt := 17) hx hb d_Mo_pointerAt_13 (by decide) ?_
    refine lv_topi (fun x11 ex11 => ?_)
    have h := h x11 ex11
    refine lv_istore_n (lv' := [(3, .int x11), (0, .ref (E.2.1 19)), (1, .int a1), (2, .int a2)]) hx hb d_Mo_pointerAt_17 rfl hl (by decide) rfl (fun ls hl => ?_)
    refine lv_iload_n hx hb d_Mo_pointerAt_18 rfl (lv_at hl 0 rfl) ?_
    refine lv_iconst (v := (-1)) hx hb d_Mo_pointerAt_19 (by decide) ?_
    refine lv_icmp_eq (tgt := 47) hx hb d_Mo_pointerAt_20 (by decide) (fun c12 => ?_) (fun c12 => ?_)
    · have h := h.1 c12
      refine lv_iconst (v := (-1)) hx hb d_Mo_pointerAt_47 (by decide) ?_
      refine lv_goto (tgt := 56) hx hb d_Mo_pointerAt_48 (by decide) ?_
      exact z_iret X hr hlk w h d_Mo_pointerAt_56
    · have h := h.2 c12
      refine lv_aload_n hx hb d_Mo_pointerAt_23 rfl (lv_at hl 1 rfl) ?_
      refine gt_19_6 X w w_fl_Mo_16 d_Mo_pointerAt_24 ?_
      refine lv_iload_n hx hb d_Mo_pointerAt_27 rfl (lv_at hl 0 rfl) ?_
      obtain ⟨hi13, h⟩ := h
      refine al_22 X w hi13 d_Mo_pointerAt_28 ?_
      refine lv_iconst (v := 2) hx hb d_Mo_pointerAt_29 (by decide) ?_
      refine lv_icmp_eq (tgt := 47) hx hb d_Mo_pointerAt_30 (by decide) (fun c14 => ?_) (fun c14 => ?_)
      · have h := h.1 c14
        refine lv_iconst (v := (-1)) hx hb d_Mo_pointerAt_47 (by decide) ?_
        refine lv_goto (tgt := 56) hx hb d_Mo_pointerAt_48 (by decide) ?_
        exact z_iret X hr hlk w h d_Mo_pointerAt_56
      · have h := h.2 c14
        refine lv_iload_n hx hb d_Mo_pointerAt_33 rfl (lv_at hl 3 rfl) ?_
        refine lv_if_lt (tgt := 47) hx hb d_Mo_pointerAt_34 (by decide) (fun c15 => ?_) (fun c15 => ?_)
        · have h := h.1 c15
          refine lv_iconst (v := (-1)) hx hb d_Mo_pointerAt_47 (by decide) ?_
          refine lv_goto (tgt := 56) hx hb d_Mo_pointerAt_48 (by decide) ?_
          exact z_iret X hr hlk w h d_Mo_pointerAt_56
        · have h := h.2 c15
          refine lv_iload_n hx hb d_Mo_pointerAt_37 rfl (lv_at hl 3 rfl) ?_
          refine lv_aload_n hx hb d_Mo_pointerAt_38 rfl (lv_at hl 1 rfl) ?_
          refine gt_19_8 X w w_fl_Mo_23 d_Mo_pointerAt_39 ?_
          refine lv_iload_n hx hb d_Mo_pointerAt_42 rfl (lv_at hl 0 rfl) ?_
          obtain ⟨hi16, h⟩ := h
          refine al_24 X w hi16 d_Mo_pointerAt_43 ?_
          refine lv_icmp_lt (tgt := 51) hx hb d_Mo_pointerAt_44 (by decide) (fun c17 => ?_) (fun c17 => ?_)
          · have h := h.1 c17
            refine lv_iload_n hx hb d_Mo_pointerAt_51 rfl (lv_at hl 0 rfl) ?_
            refine lv_iconst (v := 1) hx hb d_Mo_pointerAt_52 (by decide) ?_
            refine lv_iadd hx hb d_Mo_pointerAt_53 ?_
            refine lv_iload_n hx hb d_Mo_pointerAt_54 rfl (lv_at hl 3 rfl) ?_
            refine lv_iadd hx hb d_Mo_pointerAt_55 ?_
            exact z_iret X hr hlk w h d_Mo_pointerAt_56
          · have h := h.2 c17
            refine lv_iconst (v := (-1)) hx hb d_Mo_pointerAt_47 (by decide) ?_
            refine lv_goto (tgt := 56) hx hb d_Mo_pointerAt_48 (by decide) ?_
            exact z_iret X hr hlk w h d_Mo_pointerAt_56
theorem q_Mo_link : (y_Mo_link.cls ≠ "java/lang/invoke/MethodHandle" ∧ y_Mo_link.cls ≠ "java/lang/invoke/VarHandle") ∧ (parseMethodDescriptor y_Mo_link.desc).map (fun d => d.parameters.length) = some 3 := by decide +kernel
theorem d_Mo_link_0 : decode prog_8_method_29_code 0 = .ok (.aload_n 0, 1) := by decide +kernel
theorem d_Mo_link_1 : decode prog_8_method_29_code 1 = .ok (.iload_n 1, 1) := by decide +kernel
theorem d_Mo_link_2 : decode prog_8_method_29_code 2 = .ok (.iload_n 2, 1) := by decide +kernel
theorem d_Mo_link_3 : decode prog_8_method_29_code 3 = .ok (.invokevirtual 161, 3) := by decide +kernel
theorem d_Mo_link_6 : decode prog_8_method_29_code 6 = .ok (.istore 4, 2) := by decide +kernel
theorem d_Mo_link_8 : decode prog_8_method_29_code 8 = .ok (.iload 4, 2) := by decide +kernel
theorem d_Mo_link_10 : decode prog_8_method_29_code 10 = .ok (.iconst (-1), 1) := by decide +kernel
theorem d_Mo_link_11 : decode prog_8_method_29_code 11 = .ok (.if_icmp .eq 15, 3) := by decide +kernel
theorem d_Mo_link_14 : decode prog_8_method_29_code 14 = .ok (.iload_n 3, 1) := by decide +kernel
theorem d_Mo_link_15 : decode prog_8_method_29_code 15 = .ok (.iconst (-1), 1) := by decide +kernel
theorem d_Mo_link_16 : decode prog_8_method_29_code 16 = .ok (.if_icmp .eq 12, 3) := by decide +kernel
theorem d_Mo_link_19 : decode prog_8_method_29_code 19 = .ok (.iload_n 3, 1) := by decide +kernel
theorem d_Mo_link_20 : decode prog_8_method_29_code 20 = .ok (.invokestatic 134, 3) := by decide +kernel
theorem d_Mo_link_23 : decode prog_8_method_29_code 23 = .ok (.ifCond .ne 5, 3) := by decide +kernel
theorem d_Mo_link_26 : decode prog_8_method_29_code 26 = .ok (.iconst 0, 1) := by decide +kernel
theorem d_Mo_link_27 : decode prog_8_method_29_code 27 = .ok (.ireturn, 1) := by decide +kernel
theorem d_Mo_link_28 : decode prog_8_method_29_code 28 = .ok (.aload_n 0, 1) := by decide +kernel
theorem d_Mo_link_29 : decode prog_8_method_29_code 29 = .ok (.aload_n 0, 1) := by decide +kernel
theorem d_Mo_link_30 : decode prog_8_method_29_code 30 = .ok (.getfield 7, 3) := by decide +kernel
theorem d_Mo_link_33 : decode prog_8_method_29_code 33 = .ok (.iload 4, 2) := by decide +kernel
theorem d_Mo_link_35 : decode prog_8_method_29_code 35 = .ok (.iaload, 1) := by decide +kernel
theorem d_Mo_link_36 : decode prog_8_method_29_code 36 = .ok (.iconst 1, 1) := by decide +kernel
theorem d_Mo_link_37 : decode prog_8_method_29_code 37 = .ok (.isub, 1) := by decide +kernel
theorem d_Mo_link_38 : decode prog_8_method_29_code 38 = .ok (.invokevirtual 131, 3) := by decide +kernel
theorem d_Mo_link_41 : decode prog_8_method_29_code 41 = .ok (.aload_n 0, 1) := by decide +kernel
theorem d_Mo_link_42 : decode prog_8_method_29_code 42 = .ok (.getfield 7, 3) := by decide +kernel
theorem d_Mo_link_45 : decode prog_8_method_29_code 45 = .ok (.iload 4, 2) := by decide +kernel
theorem d_Mo_link_47 : decode prog_8_method_29_code 47 = .ok (.iload_n 3, 1) := by decide +kernel
theorem d_Mo_link_48 : decode prog_8_method_29_code 48 = .ok (.iconst (-1), 1) := by decide +kernel
theorem d_Mo_link_49 : decode prog_8_method_29_code 49 = .ok (.if_icmp .ne 7, 3) := by decide +kernel
theorem d_Mo_link_52 : decode prog_8_method_29_code 52 = .ok (.iconst 0, 1) := by decide +kernel
theorem d_Mo_link_53 : decode prog_8_method_29_code 53 = .ok (.goto 11, 3) := by decide +kernel
theorem d_Mo_link_56 : decode prog_8_method_29_code 56 = .ok (.aload_n 0, 1) := by decide +kernel
theorem d_Mo_link_57 : decode prog_8_method_29_code 57 = .ok (.getfield 29, 3) := by decide +kernel
theorem d_Mo_link_60 : decode prog_8_method_29_code 60 = .ok (.iload_n 3, 1) := by decide +kernel
theorem d_Mo_link_61 : decode prog_8_method_29_code 61 = .ok (.iaload, 1) := by decide +kernel
theorem d_Mo_link_62 : decode prog_8_method_29_code 62 = .ok (.iconst 1, 1) := by decide +kernel
theorem d_Mo_link_63 : decode prog_8_method_29_code 63 = .ok (.iadd, 1) := by decide +kernel
theorem d_Mo_link_64 : decode prog_8_method_29_code 64 = .ok (.iastore, 1) := by decide +kernel
theorem d_Mo_link_65 : decode prog_8_method_29_code 65 = .ok (.aload_n 0, 1) := by decide +kernel
theorem d_Mo_link_66 : decode prog_8_method_29_code 66 = .ok (.iconst 1, 1) := by decide +kernel
theorem d_Mo_link_67 : decode prog_8_method_29_code 67 = .ok (.invokevirtual 155, 3) := by decide +kernel
theorem d_Mo_link_70 : decode prog_8_method_29_code 70 = .ok (.iconst 1, 1) := by decide +kernel
theorem d_Mo_link_71 : decode prog_8_method_29_code 71 = .ok (.ireturn, 1) := by decide +kernel
def f_Mo_link (μ : zM) (a1 a2 a3 : Int32) (K : Int32 → zM → Prop) : Prop := f_Mo_pointerAt μ a1 a2 (fun r2 μ1 => ((r2 = (-1 : Int32) → (K (0 : Int32) μ1)) ∧ (¬ r2 = (-1 : Int32) → ((a3 = (-1 : Int32) → (vp_in r2 4096 ∧ (f_Mo_before μ1 ((μ1 20 r2.toNatClampNeg) - (1 : Int32)) (fun μ6 => ((¬ a3 = (-1 : Int32) → (vp_in a3 16 ∧ (vp_in r2 4096 ∧ ∀ μ10 : zM, μ10 = zp μ6 20 r2.toNatClampNeg ((μ6 26 a3.toNatClampNeg) + (1 : Int32)) → (f_Mo_did μ10 (1 : Int32) (fun μ11 => (K (1 : Int32) μ11)))))) ∧ (a3 = (-1 : Int32) → (vp_in r2 4096 ∧ ∀ μ13 : zM, μ13 = zp μ6 20 r2.toNatClampNeg (0 : Int32) → (f_Mo_did μ13 (1 : Int32) (fun μ14 => (K (1 : Int32) μ14)))))))))) ∧ (¬ a3 = (-1 : Int32) → (f_Mo_isRoot μ1 a3 (fun r16 μ15 => ((¬ r16 = 0 → (vp_in r2 4096 ∧ (f_Mo_before μ15 ((μ15 20 r2.toNatClampNeg) - (1 : Int32)) (fun μ19 => ((¬ a3 = (-1 : Int32) → (vp_in a3 16 ∧ (vp_in r2 4096 ∧ ∀ μ23 : zM, μ23 = zp μ19 20 r2.toNatClampNeg ((μ19 26 a3.toNatClampNeg) + (1 : Int32)) → (f_Mo_did μ23 (1 : Int32) (fun μ24 => (K (1 : Int32) μ24)))))) ∧ (a3 = (-1 : Int32) → (vp_in r2 4096 ∧ ∀ μ26 : zM, μ26 = zp μ19 20 r2.toNatClampNeg (0 : Int32) → (f_Mo_did μ26 (1 : Int32) (fun μ27 => (K (1 : Int32) μ27)))))))))) ∧ (r16 = 0 → (K (0 : Int32) μ15))))))))))
set_option maxHeartbeats 4000000 in
set_option maxRecDepth 100000 in
theorem c_Mo_link (l : Launch) (E : zE) (μ : zM) (a1 a2 a3 : Int32) (K : Int32 → zM → Prop) (h : f_Mo_link μ a1 a2 a3 K) : Met l y_Mo_link (Cond.code y_Mo_link prog_8_method_29_code 5 (some .boolean) :: zT) { frames := 5, cells := 0, slots := 0, locals := 106 } (va_Pc [.ref (E.2.1 19), .int a1, .int a2, .int a3] (zR zwM E μ)) (va_Qi K (zR zwM E) (zA E)) 0 0 (zA E) := by
  refine z_head (by decide) (Nat.le_of_ble_eq_true rfl) ?_
  intro p e s m below meth c X hr hlk w ls hl
  have X : zX E p s m _ c prog_8_method_29_code "BeatHeapModel" 5 := X
  have hx := X.1
  have hb := X.2.1
  have hl : lv_has ls 5 [(0, .ref (E.2.1 19)), (1, .int a1), (2, .int a2), (3, .int a3)] := hl
  unfold f_Mo_link at h
  refine lv_aload_n hx hb d_Mo_link_0 rfl (lv_at hl 0 rfl) ?_
  refine lv_iload_n hx hb d_Mo_link_1 rfl (lv_at hl 1 rfl) ?_
  refine lv_iload_n hx hb d_Mo_link_2 rfl (lv_at hl 2 rfl) ?_
  refine z_cVi (As := [.int a1, .int a2]) (rest := []) (q0 := 0) (ci := 6) X w (c_Mo_pointerAt l E μ a1 a2 _ h) rfl rfl rfl w_ml_Mo_161 ⟨w_im_Mo_pointerAt, w_se_Mo_pointerAt⟩ w_in_Mo w_co_Mo_pointerAt q_Mo_pointerAt.1 q_Mo_pointerAt.2 rfl ⟨Nat.le_of_ble_eq_true rfl, Nat.le_of_ble_eq_true rfl⟩ ⟨Nat.zero_le _, Nat.zero_le _⟩ hl.1 rfl (Nat.le_of_ble_eq_true rfl) d_Mo_link_3 (fun r2 μ1 H locs h w => ?_)
  refine lv_istore (lv' := [(4, .int r2), (0, .ref (E.2.1 19)), (1, .int a1), (2, .int a2), (3, .int a3)]) hx hb d_Mo_link_6 hl (by decide) rfl (fun ls hl => ?_)
  refine lv_iload hx hb d_Mo_link_8 (lv_at hl 0 rfl) ?_
  refine lv_iconst (v := (-1)) hx hb d_Mo_link_10 (by decide) ?_
  refine lv_icmp_eq (tgt := 26) hx hb d_Mo_link_11 (by decide) (fun c3 => ?_) (fun c3 => ?_)
  · have h := h.1 c3
    refine lv_iconst (v := 0) hx hb d_Mo_link_26 (by decide) ?_
    exact z_zret X hr hlk w (by decide) h d_Mo_link_27
  · have h := h.2 c3
    refine lv_iload_n hx hb d_Mo_link_14 rfl (lv_at hl 4 rfl) ?_
    refine lv_iconst (v := (-1)) hx hb d_Mo_link_15 (by decide) ?_
    refine lv_icmp_eq (tgt := 28) hx hb d_Mo_link_16 (by decide) (fun c4 => ?_) (fun c4 => ?_)
    · have h := h.1 c4
      refine lv_aload_n hx hb d_Mo_link_28 rfl (lv_at hl 1 rfl) ?_
      refine lv_aload_n hx hb d_Mo_link_29 rfl (lv_at hl 1 rfl) ?_
      refine gt_19_4 X w w_fl_Mo_7 d_Mo_link_30 ?_
      refine lv_iload hx hb d_Mo_link_33 (lv_at hl 0 rfl) ?_
      obtain ⟨hi5, h⟩ := h
      refine al_20 X w hi5 d_Mo_link_35 ?_
      refine lv_iconst (v := 1) hx hb d_Mo_link_36 (by decide) ?_
      refine lv_isub hx hb d_Mo_link_37 ?_
      refine z_cVv (As := [.int ((μ1 20 r2.toNatClampNeg) - (1 : Int32))]) (rest := []) (q0 := 0) (ci := 6) X w (c_Mo_before l E μ1 ((μ1 20 r2.toNatClampNeg) - (1 : Int32)) _ h) rfl rfl rfl w_ml_Mo_131 ⟨w_im_Mo_before, w_se_Mo_before⟩ w_in_Mo w_co_Mo_before q_Mo_before.1 q_Mo_before.2 rfl ⟨Nat.le_of_ble_eq_true rfl, Nat.le_of_ble_eq_true rfl⟩ ⟨Nat.zero_le _, Nat.zero_le _⟩ hl.1 rfl (Nat.le_of_ble_eq_true rfl) d_Mo_link_38 (fun μ6 H locs h w => ?_)
      refine lv_aload_n hx hb d_Mo_link_41 rfl (lv_at hl 1 rfl) ?_
      refine gt_19_4 X w w_fl_Mo_7 d_Mo_link_42 ?_
      refine lv_iload hx hb d_Mo_link_45 (lv_at hl 0 rfl) ?_
      refine lv_iload_n hx hb d_Mo_link_47 rfl (lv_at hl 4 rfl) ?_
      refine lv_iconst (v := (-1)) hx hb d_Mo_link_48 (by decide) ?_
      refine lv_icmp_ne (tgt := 56) hx hb d_Mo_link_49 (by decide) (fun c7 => ?_) (fun c7 => ?_)
      · have h := h.1 c7
        refine lv_aload_n hx hb d_Mo_link_56 rfl (lv_at hl 1 rfl) ?_
        refine gt_19_10 X w w_fl_Mo_29 d_Mo_link_57 ?_
        refine lv_iload_n hx hb d_Mo_link_60 rfl (lv_at hl 4 rfl) ?_
        obtain ⟨hi8, h⟩ := h
        refine al_26 X w hi8 d_Mo_link_61 ?_
        refine lv_iconst (v := 1) hx hb d_Mo_link_62 (by decide) ?_
        refine lv_iadd hx hb d_Mo_link_63 ?_
        obtain ⟨hi9, h⟩ := h
        refine as_20 X w hi9 d_Mo_link_64 (fun μ10 H locs eμ10 w => ?_)
        have h := h μ10 eμ10
        refine lv_aload_n hx hb d_Mo_link_65 rfl (lv_at hl 1 rfl) ?_
        refine lv_iconst (v := 1) hx hb d_Mo_link_66 (by decide) ?_
        refine z_cVv (As := [.int (1 : Int32)]) (rest := []) (q0 := 0) (ci := 6) X w (c_Mo_did l E μ10 (1 : Int32) _ h) rfl rfl rfl w_ml_Mo_155 ⟨w_im_Mo_did, w_se_Mo_did⟩ w_in_Mo w_co_Mo_did q_Mo_did.1 q_Mo_did.2 rfl ⟨Nat.le_of_ble_eq_true rfl, Nat.le_of_ble_eq_true rfl⟩ ⟨Nat.zero_le _, Nat.zero_le _⟩ hl.1 rfl (Nat.le_of_ble_eq_true rfl) d_Mo_link_67 (fun μ11 H locs h w => ?_)
        refine lv_iconst (v := 1) hx hb d_Mo_link_70 (by decide) ?_
        exact z_zret X hr hlk w (by decide) h d_Mo_link_71
      · have h := h.2 c7
        refine lv_iconst (v := 0) hx hb d_Mo_link_52 (by decide) ?_
        refine lv_goto (tgt := 64) hx hb d_Mo_link_53 (by decide) ?_
        obtain ⟨hi12, h⟩ := h
        refine as_20 X w hi12 d_Mo_link_64 (fun μ13 H locs eμ13 w => ?_)
        have h := h μ13 eμ13
        refine lv_aload_n hx hb d_Mo_link_65 rfl (lv_at hl 1 rfl) ?_
        refine lv_iconst (v := 1) hx hb d_Mo_link_66 (by decide) ?_
        refine z_cVv (As := [.int (1 : Int32)]) (rest := []) (q0 := 0) (ci := 6) X w (c_Mo_did l E μ13 (1 : Int32) _ h) rfl rfl rfl w_ml_Mo_155 ⟨w_im_Mo_did, w_se_Mo_did⟩ w_in_Mo w_co_Mo_did q_Mo_did.1 q_Mo_did.2 rfl ⟨Nat.le_of_ble_eq_true rfl, Nat.le_of_ble_eq_true rfl⟩ ⟨Nat.zero_le _, Nat.zero_le _⟩ hl.1 rfl (Nat.le_of_ble_eq_true rfl) d_Mo_link_67 (fun μ14 H locs h w => ?_)
        refine lv_iconst (v := 1) hx hb d_Mo_link_70 (by decide) ?_
        exact z_zret X hr hlk w (by decide) h d_Mo_link_71
    · have h := h.2 c4
      refine lv_iload_n hx hb d_Mo_link_19 rfl (lv_at hl 4 rfl) ?_
      refine z_cSi (As := [.int a3]) (rest := []) X w (c_Mo_isRoot l E μ1 a3 _ h) w_ml_Mo_134 w_st_Mo_isRoot w_in_Mo w_co_Mo_isRoot q_Mo_isRoot.1 q_Mo_isRoot.2 rfl ⟨Nat.le_of_ble_eq_true rfl, Nat.le_of_ble_eq_true rfl⟩ ⟨Nat.zero_le _, Nat.zero_le _⟩ hl.1 rfl (Nat.le_of_ble_eq_true rfl) d_Mo_link_20 (fun r16 μ15 H locs h w => ?_)
      refine lv_if_ne (tgt := 28) hx hb d_Mo_link_23 (by decide) (fun c17 => ?_) (fun c17 => ?_)
      · have h := h.1 c17
        refine lv_aload_n hx hb d_Mo_link_28 rfl (lv_at hl 1 rfl) ?_
        refine lv_aload_n hx hb d_Mo_link_29 rfl (lv_at hl 1 rfl) ?_
        refine gt_19_4 X w w_fl_Mo_7 d_Mo_link_30 ?_
        refine lv_iload hx hb d_Mo_link_33 (lv_at hl 0 rfl) ?_
        obtain ⟨hi18, h⟩ := h
        refine al_20 X w hi18 d_Mo_link_35 ?_
        refine lv_iconst (v := 1) hx hb d_Mo_link_36 (by decide) ?_
        refine lv_isub hx hb d_Mo_link_37 ?_
        refine z_cVv (As := [.int ((μ15 20 r2.toNatClampNeg) - (1 : Int32))]) (rest := []) (q0 := 0) (ci := 6) X w (c_Mo_before l E μ15 ((μ15 20 r2.toNatClampNeg) - (1 : Int32)) _ h) rfl rfl rfl w_ml_Mo_131 ⟨w_im_Mo_before, w_se_Mo_before⟩ w_in_Mo w_co_Mo_before q_Mo_before.1 q_Mo_before.2 rfl ⟨Nat.le_of_ble_eq_true rfl, Nat.le_of_ble_eq_true rfl⟩ ⟨Nat.zero_le _, Nat.zero_le _⟩ hl.1 rfl (Nat.le_of_ble_eq_true rfl) d_Mo_link_38 (fun μ19 H locs h w => ?_)
        refine lv_aload_n hx hb d_Mo_link_41 rfl (lv_at hl 1 rfl) ?_
        refine gt_19_4 X w w_fl_Mo_7 d_Mo_link_42 ?_
        refine lv_iload hx hb d_Mo_link_45 (lv_at hl 0 rfl) ?_
        refine lv_iload_n hx hb d_Mo_link_47 rfl (lv_at hl 4 rfl) ?_
        refine lv_iconst (v := (-1)) hx hb d_Mo_link_48 (by decide) ?_
        refine lv_icmp_ne (tgt := 56) hx hb d_Mo_link_49 (by decide) (fun c20 => ?_) (fun c20 => ?_)
        · have h := h.1 c20
          refine lv_aload_n hx hb d_Mo_link_56 rfl (lv_at hl 1 rfl) ?_
          refine gt_19_10 X w w_fl_Mo_29 d_Mo_link_57 ?_
          refine lv_iload_n hx hb d_Mo_link_60 rfl (lv_at hl 4 rfl) ?_
          obtain ⟨hi21, h⟩ := h
          refine al_26 X w hi21 d_Mo_link_61 ?_
          refine lv_iconst (v := 1) hx hb d_Mo_link_62 (by decide) ?_
          refine lv_iadd hx hb d_Mo_link_63 ?_
          obtain ⟨hi22, h⟩ := h
          refine as_20 X w hi22 d_Mo_link_64 (fun μ23 H locs eμ23 w => ?_)
          have h := h μ23 eμ23
          refine lv_aload_n hx hb d_Mo_link_65 rfl (lv_at hl 1 rfl) ?_
          refine lv_iconst (v := 1) hx hb d_Mo_link_66 (by decide) ?_
          refine z_cVv (As := [.int (1 : Int32)]) (rest := []) (q0 := 0) (ci := 6) X w (c_Mo_did l E μ23 (1 : Int32) _ h) rfl rfl rfl w_ml_Mo_155 ⟨w_im_Mo_did, w_se_Mo_did⟩ w_in_Mo w_co_Mo_did q_Mo_did.1 q_Mo_did.2 rfl ⟨Nat.le_of_ble_eq_true rfl, Nat.le_of_ble_eq_true rfl⟩ ⟨Nat.zero_le _, Nat.zero_le _⟩ hl.1 rfl (Nat.le_of_ble_eq_true rfl) d_Mo_link_67 (fun μ24 H locs h w => ?_)
          refine lv_iconst (v := 1) hx hb d_Mo_link_70 (by decide) ?_
          exact z_zret X hr hlk w (by decide) h d_Mo_link_71
        · have h := h.2 c20
          refine lv_iconst (v := 0) hx hb d_Mo_link_52 (by decide) ?_
          refine lv_goto (tgt := 64) hx hb d_Mo_link_53 (by decide) ?_
          obtain ⟨hi25, h⟩ := h
          refine as_20 X w hi25 d_Mo_link_64 (fun μ26 H locs eμ26 w => ?_)
          have h := h μ26 eμ26
          refine lv_aload_n hx hb d_Mo_link_65 rfl (lv_at hl 1 rfl) ?_
          refine lv_iconst (v := 1) hx hb d_Mo_link_66 (by decide) ?_
          refine z_cVv (As := [.int (1 : Int32)]) (rest := []) (q0 := 0) (ci := 6) X w (c_Mo_did l E μ26 (1 : Int32) _ h) rfl rfl rfl w_ml_Mo_155 ⟨w_im_Mo_did, w_se_Mo_did⟩ w_in_Mo w_co_Mo_did q_Mo_did.1 q_Mo_did.2 rfl ⟨Nat.le_of_ble_eq_true rfl, Nat.le_of_ble_eq_true rfl⟩ ⟨Nat.zero_le _, Nat.zero_le _⟩ hl.1 rfl (Nat.le_of_ble_eq_true rfl) d_Mo_link_67 (fun μ27 H locs h w => ?_)
          refine lv_iconst (v := 1) hx hb d_Mo_link_70 (by decide) ?_
          exact z_zret X hr hlk w (by decide) h d_Mo_link_71
      · have h := h.2 c17
        refine lv_iconst (v := 0) hx hb d_Mo_link_26 (by decide) ?_
        exact z_zret X hr hlk w (by decide) h d_Mo_link_27
theorem q_Mo_follow : (y_Mo_follow.cls ≠ "java/lang/invoke/MethodHandle" ∧ y_Mo_follow.cls ≠ "java/lang/invoke/VarHandle") ∧ (parseMethodDescriptor y_Mo_follow.desc).map (fun d => d.parameters.length) = some 3 := by decide +kernel
theorem d_Mo_follow_0 : decode prog_8_method_30_code 0 = .ok (.aload_n 0, 1) := by decide +kernel
theorem d_Mo_follow_1 : decode prog_8_method_30_code 1 = .ok (.iload_n 1, 1) := by decide +kernel
theorem d_Mo_follow_2 : decode prog_8_method_30_code 2 = .ok (.iload_n 2, 1) := by decide +kernel
theorem d_Mo_follow_3 : decode prog_8_method_30_code 3 = .ok (.invokevirtual 161, 3) := by decide +kernel
theorem d_Mo_follow_6 : decode prog_8_method_30_code 6 = .ok (.istore 4, 2) := by decide +kernel
theorem d_Mo_follow_8 : decode prog_8_method_30_code 8 = .ok (.iload 4, 2) := by decide +kernel
theorem d_Mo_follow_10 : decode prog_8_method_30_code 10 = .ok (.iconst (-1), 1) := by decide +kernel
theorem d_Mo_follow_11 : decode prog_8_method_30_code 11 = .ok (.if_icmp .eq 10, 3) := by decide +kernel
theorem d_Mo_follow_14 : decode prog_8_method_30_code 14 = .ok (.iload_n 3, 1) := by decide +kernel
theorem d_Mo_follow_15 : decode prog_8_method_30_code 15 = .ok (.invokestatic 134, 3) := by decide +kernel
theorem d_Mo_follow_18 : decode prog_8_method_30_code 18 = .ok (.ifCond .ne 5, 3) := by decide +kernel
theorem d_Mo_follow_21 : decode prog_8_method_30_code 21 = .ok (.iconst 0, 1) := by decide +kernel
theorem d_Mo_follow_22 : decode prog_8_method_30_code 22 = .ok (.ireturn, 1) := by decide +kernel
theorem d_Mo_follow_23 : decode prog_8_method_30_code 23 = .ok (.aload_n 0, 1) := by decide +kernel
theorem d_Mo_follow_24 : decode prog_8_method_30_code 24 = .ok (.iload_n 3, 1) := by decide +kernel
theorem d_Mo_follow_25 : decode prog_8_method_30_code 25 = .ok (.aload_n 0, 1) := by decide +kernel
theorem d_Mo_follow_26 : decode prog_8_method_30_code 26 = .ok (.getfield 7, 3) := by decide +kernel
theorem d_Mo_follow_29 : decode prog_8_method_30_code 29 = .ok (.iload 4, 2) := by decide +kernel
theorem d_Mo_follow_31 : decode prog_8_method_30_code 31 = .ok (.iaload, 1) := by decide +kernel
theorem d_Mo_follow_32 : decode prog_8_method_30_code 32 = .ok (.iconst 1, 1) := by decide +kernel
theorem d_Mo_follow_33 : decode prog_8_method_30_code 33 = .ok (.isub, 1) := by decide +kernel
theorem d_Mo_follow_34 : decode prog_8_method_30_code 34 = .ok (.invokevirtual 148, 3) := by decide +kernel
theorem d_Mo_follow_37 : decode prog_8_method_30_code 37 = .ok (.aload_n 0, 1) := by decide +kernel
theorem d_Mo_follow_38 : decode prog_8_method_30_code 38 = .ok (.iconst 1, 1) := by decide +kernel
theorem d_Mo_follow_39 : decode prog_8_method_30_code 39 = .ok (.invokevirtual 155, 3) := by decide +kernel
theorem d_Mo_follow_42 : decode prog_8_method_30_code 42 = .ok (.iconst 1, 1) := by decide +kernel
theorem d_Mo_follow_43 : decode prog_8_method_30_code 43 = .ok (.ireturn, 1) := by decide +kernel
def f_Mo_follow (μ : zM) (a1 a2 a3 : Int32) (K : Int32 → zM → Prop) : Prop := f_Mo_pointerAt μ a1 a2 (fun r2 μ1 => ((r2 = (-1 : Int32) → (K (0 : Int32) μ1)) ∧ (¬ r2 = (-1 : Int32) → (f_Mo_isRoot μ1 a3 (fun r5 μ4 => ((¬ r5 = 0 → (vp_in r2 4096 ∧ (f_Mo_setRoot μ4 a3 ((μ4 20 r2.toNatClampNeg) - (1 : Int32)) (fun μ8 => (f_Mo_did μ8 (1 : Int32) (fun μ9 => (K (1 : Int32) μ9))))))) ∧ (r5 = 0 → (K (0 : Int32) μ4))))))))
set_option maxHeartbeats 4000000 in
set_option maxRecDepth 100000 in
theorem c_Mo_follow (l : Launch) (E : zE) (μ : zM) (a1 a2 a3 : Int32) (K : Int32 → zM → Prop) (h : f_Mo_follow μ a1 a2 a3 K) : Met l y_Mo_follow (Cond.code y_Mo_follow prog_8_method_30_code 5 (some .boolean) :: zT) { frames := 5, cells := 0, slots := 0, locals := 106 } (va_Pc [.ref (E.2.1 19), .int a1, .int a2, .int a3] (zR zwM E μ)) (va_Qi K (zR zwM E) (zA E)) 0 0 (zA E) := by
  refine z_head (by decide) (Nat.le_of_ble_eq_true rfl) ?_
  intro p e s m below meth c X hr hlk w ls hl
  have X : zX E p s m _ c prog_8_method_30_code "BeatHeapModel" 5 := X
  have hx := X.1
  have hb := X.2.1
  have hl : lv_has ls 5 [(0, .ref (E.2.1 19)), (1, .int a1), (2, .int a2), (3, .int a3)] := hl
  unfold f_Mo_follow at h
  refine lv_aload_n hx hb d_Mo_follow_0 rfl (lv_at hl 0 rfl) ?_
  refine lv_iload_n hx hb d_Mo_follow_1 rfl (lv_at hl 1 rfl) ?_
  refine lv_iload_n hx hb d_Mo_follow_2 rfl (lv_at hl 2 rfl) ?_
  refine z_cVi (As := [.int a1, .int a2]) (rest := []) (q0 := 0) (ci := 6) X w (c_Mo_pointerAt l E μ a1 a2 _ h) rfl rfl rfl w_ml_Mo_161 ⟨w_im_Mo_pointerAt, w_se_Mo_pointerAt⟩ w_in_Mo w_co_Mo_pointerAt q_Mo_pointerAt.1 q_Mo_pointerAt.2 rfl ⟨Nat.le_of_ble_eq_true rfl, Nat.le_of_ble_eq_true rfl⟩ ⟨Nat.zero_le _, Nat.zero_le _⟩ hl.1 rfl (Nat.le_of_ble_eq_true rfl) d_Mo_follow_3 (fun r2 μ1 H locs h w => ?_)
  refine lv_istore (lv' := [(4, .int r2), (0, .ref (E.2.1 19)), (1, .int a1), (2, .int a2), (3, .int a3)]) hx hb d_Mo_follow_6 hl (by decide) rfl (fun ls hl => ?_)
  refine lv_iload hx hb d_Mo_follow_8 (lv_at hl 0 rfl) ?_
  refine lv_iconst (v := (-1)) hx hb d_Mo_follow_10 (by decide) ?_
  refine lv_icmp_eq (tgt := 21) hx hb d_Mo_follow_11 (by decide) (fun c3 => ?_) (fun c3 => ?_)
  · have h := h.1 c3
    refine lv_iconst (v := 0) hx hb d_Mo_follow_21 (by decide) ?_
    exact z_zret X hr hlk w (by decide) h d_Mo_follow_22
  · have h := h.2 c3
    refine lv_iload_n hx hb d_Mo_follow_14 rfl (lv_at hl 4 rfl) ?_
    refine z_cSi (As := [.int a3]) (rest := []) X w (c_Mo_isRoot l E μ1 a3 _ h) w_ml_Mo_134 w_st_Mo_isRoot w_in_Mo w_co_Mo_isRoot q_Mo_isRoot.1 q_Mo_isRoot.2 rfl ⟨Nat.le_of_ble_eq_true rfl, Nat.le_of_ble_eq_true rfl⟩ ⟨Nat.zero_le _, Nat.zero_le _⟩ hl.1 rfl (Nat.le_of_ble_eq_true rfl) d_Mo_follow_15 (fun r5 μ4 H locs h w => ?_)
    refine lv_if_ne (tgt := 23) hx hb d_Mo_follow_18 (by decide) (fun c6 => ?_) (fun c6 => ?_)
    · have h := h.1 c6
      refine lv_aload_n hx hb d_Mo_follow_23 rfl (lv_at hl 1 rfl) ?_
      refine lv_iload_n hx hb d_Mo_follow_24 rfl (lv_at hl 4 rfl) ?_
      refine lv_aload_n hx hb d_Mo_follow_25 rfl (lv_at hl 1 rfl) ?_
      refine gt_19_4 X w w_fl_Mo_7 d_Mo_follow_26 ?_
      refine lv_iload hx hb d_Mo_follow_29 (lv_at hl 0 rfl) ?_
      obtain ⟨hi7, h⟩ := h
      refine al_20 X w hi7 d_Mo_follow_31 ?_
      refine lv_iconst (v := 1) hx hb d_Mo_follow_32 (by decide) ?_
      refine lv_isub hx hb d_Mo_follow_33 ?_
      refine z_cVv (As := [.int a3, .int ((μ4 20 r2.toNatClampNeg) - (1 : Int32))]) (rest := []) (q0 := 0) (ci := 6) X w (c_Mo_setRoot l E μ4 a3 ((μ4 20 r2.toNatClampNeg) - (1 : Int32)) _ h) rfl rfl rfl w_ml_Mo_148 ⟨w_im_Mo_setRoot, w_se_Mo_setRoot⟩ w_in_Mo w_co_Mo_setRoot q_Mo_setRoot.1 q_Mo_setRoot.2 rfl ⟨Nat.le_of_ble_eq_true rfl, Nat.le_of_ble_eq_true rfl⟩ ⟨Nat.zero_le _, Nat.zero_le _⟩ hl.1 rfl (Nat.le_of_ble_eq_true rfl) d_Mo_follow_34 (fun μ8 H locs h w => ?_)
      refine lv_aload_n hx hb d_Mo_follow_37 rfl (lv_at hl 1 rfl) ?_
      refine lv_iconst (v := 1) hx hb d_Mo_follow_38 (by decide) ?_
      refine z_cVv (As := [.int (1 : Int32)]) (rest := []) (q0 := 0) (ci := 6) X w (c_Mo_did l E μ8 (1 : Int32) _ h) rfl rfl rfl w_ml_Mo_155 ⟨w_im_Mo_did, w_se_Mo_did⟩ w_in_Mo w_co_Mo_did q_Mo_did.1 q_Mo_did.2 rfl ⟨Nat.le_of_ble_eq_true rfl, Nat.le_of_ble_eq_true rfl⟩ ⟨Nat.zero_le _, Nat.zero_le _⟩ hl.1 rfl (Nat.le_of_ble_eq_true rfl) d_Mo_follow_39 (fun μ9 H locs h w => ?_)
      refine lv_iconst (v := 1) hx hb d_Mo_follow_42 (by decide) ?_
      exact z_zret X hr hlk w (by decide) h d_Mo_follow_43
    · have h := h.2 c6
      refine lv_iconst (v := 0) hx hb d_Mo_follow_21 (by decide) ?_
      exact z_zret X hr hlk w (by decide) h d_Mo_follow_22
theorem q_Mo_move : (y_Mo_move.cls ≠ "java/lang/invoke/MethodHandle" ∧ y_Mo_move.cls ≠ "java/lang/invoke/VarHandle") ∧ (parseMethodDescriptor y_Mo_move.desc).map (fun d => d.parameters.length) = some 2 := by decide +kernel
theorem d_Mo_move_0 : decode prog_8_method_31_code 0 = .ok (.iload_n 1, 1) := by decide +kernel
theorem d_Mo_move_1 : decode prog_8_method_31_code 1 = .ok (.invokestatic 134, 3) := by decide +kernel
theorem d_Mo_move_4 : decode prog_8_method_31_code 4 = .ok (.ifCond .eq 10, 3) := by decide +kernel
theorem d_Mo_move_7 : decode prog_8_method_31_code 7 = .ok (.iload_n 2, 1) := by decide +kernel
theorem d_Mo_move_8 : decode prog_8_method_31_code 8 = .ok (.invokestatic 134, 3) := by decide +kernel
theorem d_Mo_move_11 : decode prog_8_method_31_code 11 = .ok (.ifCond .ne 5, 3) := by decide +kernel
theorem d_Mo_move_14 : decode prog_8_method_31_code 14 = .ok (.iconst 0, 1) := by decide +kernel
theorem d_Mo_move_15 : decode prog_8_method_31_code 15 = .ok (.ireturn, 1) := by decide +kernel
theorem d_Mo_move_16 : decode prog_8_method_31_code 16 = .ok (.aload_n 0, 1) := by decide +kernel
theorem d_Mo_move_17 : decode prog_8_method_31_code 17 = .ok (.iload_n 2, 1) := by decide +kernel
theorem d_Mo_move_18 : decode prog_8_method_31_code 18 = .ok (.aload_n 0, 1) := by decide +kernel
theorem d_Mo_move_19 : decode prog_8_method_31_code 19 = .ok (.getfield 29, 3) := by decide +kernel
theorem d_Mo_move_22 : decode prog_8_method_31_code 22 = .ok (.iload_n 1, 1) := by decide +kernel
theorem d_Mo_move_23 : decode prog_8_method_31_code 23 = .ok (.iaload, 1) := by decide +kernel
theorem d_Mo_move_24 : decode prog_8_method_31_code 24 = .ok (.invokevirtual 148, 3) := by decide +kernel
theorem d_Mo_move_27 : decode prog_8_method_31_code 27 = .ok (.aload_n 0, 1) := by decide +kernel
theorem d_Mo_move_28 : decode prog_8_method_31_code 28 = .ok (.iconst 1, 1) := by decide +kernel
theorem d_Mo_move_29 : decode prog_8_method_31_code 29 = .ok (.invokevirtual 155, 3) := by decide +kernel
theorem d_Mo_move_32 : decode prog_8_method_31_code 32 = .ok (.iconst 1, 1) := by decide +kernel
theorem d_Mo_move_33 : decode prog_8_method_31_code 33 = .ok (.ireturn, 1) := by decide +kernel
def f_Mo_move (μ : zM) (a1 a2 : Int32) (K : Int32 → zM → Prop) : Prop := f_Mo_isRoot μ a1 (fun r2 μ1 => ((r2 = 0 → (K (0 : Int32) μ1)) ∧ (¬ r2 = 0 → (f_Mo_isRoot μ1 a2 (fun r5 μ4 => ((¬ r5 = 0 → (vp_in a1 16 ∧ (f_Mo_setRoot μ4 a2 (μ4 26 a1.toNatClampNeg) (fun μ8 => (f_Mo_did μ8 (1 : Int32) (fun μ9 => (K (1 : Int32) μ9))))))) ∧ (r5 = 0 → (K (0 : Int32) μ4))))))))
set_option maxHeartbeats 4000000 in
set_option maxRecDepth 100000 in
theorem c_Mo_move (l : Launch) (E : zE) (μ : zM) (a1 a2 : Int32) (K : Int32 → zM → Prop) (h : f_Mo_move μ a1 a2 K) : Met l y_Mo_move (Cond.code y_Mo_move prog_8_method_31_code 3 (some .boolean) :: zT) { frames := 5, cells := 0, slots := 0, locals := 106 } (va_Pc [.ref (E.2.1 19), .int a1, .int a2] (zR zwM E μ)) (va_Qi K (zR zwM E) (zA E)) 0 0 (zA E) := by
  refine z_head (by decide) (Nat.le_of_ble_eq_true rfl) ?_
  intro p e s m below meth c X hr hlk w ls hl
  have X : zX E p s m _ c prog_8_method_31_code "BeatHeapModel" 3 := X
  have hx := X.1
  have hb := X.2.1
  have hl : lv_has ls 3 [(0, .ref (E.2.1 19)), (1, .int a1), (2, .int a2)] := hl
  unfold f_Mo_move at h
  refine lv_iload_n hx hb d_Mo_move_0 rfl (lv_at hl 1 rfl) ?_
  refine z_cSi (As := [.int a1]) (rest := []) X w (c_Mo_isRoot l E μ a1 _ h) w_ml_Mo_134 w_st_Mo_isRoot w_in_Mo w_co_Mo_isRoot q_Mo_isRoot.1 q_Mo_isRoot.2 rfl ⟨Nat.le_of_ble_eq_true rfl, Nat.le_of_ble_eq_true rfl⟩ ⟨Nat.zero_le _, Nat.zero_le _⟩ hl.1 rfl (Nat.le_of_ble_eq_true rfl) d_Mo_move_1 (fun r2 μ1 H locs h w => ?_)
  refine lv_if_eq (tgt := 14) hx hb d_Mo_move_4 (by decide) (fun c3 => ?_) (fun c3 => ?_)
  · have h := h.1 c3
    refine lv_iconst (v := 0) hx hb d_Mo_move_14 (by decide) ?_
    exact z_zret X hr hlk w (by decide) h d_Mo_move_15
  · have h := h.2 c3
    refine lv_iload_n hx hb d_Mo_move_7 rfl (lv_at hl 2 rfl) ?_
    refine z_cSi (As := [.int a2]) (rest := []) X w (c_Mo_isRoot l E μ1 a2 _ h) w_ml_Mo_134 w_st_Mo_isRoot w_in_Mo w_co_Mo_isRoot q_Mo_isRoot.1 q_Mo_isRoot.2 rfl ⟨Nat.le_of_ble_eq_true rfl, Nat.le_of_ble_eq_true rfl⟩ ⟨Nat.zero_le _, Nat.zero_le _⟩ hl.1 rfl (Nat.le_of_ble_eq_true rfl) d_Mo_move_8 (fun r5 μ4 H locs h w => ?_)
    refine lv_if_ne (tgt := 16) hx hb d_Mo_move_11 (by decide) (fun c6 => ?_) (fun c6 => ?_)
    · have h := h.1 c6
      refine lv_aload_n hx hb d_Mo_move_16 rfl (lv_at hl 0 rfl) ?_
      refine lv_iload_n hx hb d_Mo_move_17 rfl (lv_at hl 2 rfl) ?_
      refine lv_aload_n hx hb d_Mo_move_18 rfl (lv_at hl 0 rfl) ?_
      refine gt_19_10 X w w_fl_Mo_29 d_Mo_move_19 ?_
      refine lv_iload_n hx hb d_Mo_move_22 rfl (lv_at hl 1 rfl) ?_
      obtain ⟨hi7, h⟩ := h
      refine al_26 X w hi7 d_Mo_move_23 ?_
      refine z_cVv (As := [.int a2, .int (μ4 26 a1.toNatClampNeg)]) (rest := []) (q0 := 0) (ci := 6) X w (c_Mo_setRoot l E μ4 a2 (μ4 26 a1.toNatClampNeg) _ h) rfl rfl rfl w_ml_Mo_148 ⟨w_im_Mo_setRoot, w_se_Mo_setRoot⟩ w_in_Mo w_co_Mo_setRoot q_Mo_setRoot.1 q_Mo_setRoot.2 rfl ⟨Nat.le_of_ble_eq_true rfl, Nat.le_of_ble_eq_true rfl⟩ ⟨Nat.zero_le _, Nat.zero_le _⟩ hl.1 rfl (Nat.le_of_ble_eq_true rfl) d_Mo_move_24 (fun μ8 H locs h w => ?_)
      refine lv_aload_n hx hb d_Mo_move_27 rfl (lv_at hl 0 rfl) ?_
      refine lv_iconst (v := 1) hx hb d_Mo_move_28 (by decide) ?_
      refine z_cVv (As := [.int (1 : Int32)]) (rest := []) (q0 := 0) (ci := 6) X w (c_Mo_did l E μ8 (1 : Int32) _ h) rfl rfl rfl w_ml_Mo_155 ⟨w_im_Mo_did, w_se_Mo_did⟩ w_in_Mo w_co_Mo_did q_Mo_did.1 q_Mo_did.2 rfl ⟨Nat.le_of_ble_eq_true rfl, Nat.le_of_ble_eq_true rfl⟩ ⟨Nat.zero_le _, Nat.zero_le _⟩ hl.1 rfl (Nat.le_of_ble_eq_true rfl) d_Mo_move_29 (fun μ9 H locs h w => ?_)
      refine lv_iconst (v := 1) hx hb d_Mo_move_32 (by decide) ?_
      exact z_zret X hr hlk w (by decide) h d_Mo_move_33
    · have h := h.2 c6
      refine lv_iconst (v := 0) hx hb d_Mo_move_14 (by decide) ?_
      exact z_zret X hr hlk w (by decide) h d_Mo_move_15
theorem q_Mo_drop : (y_Mo_drop.cls ≠ "java/lang/invoke/MethodHandle" ∧ y_Mo_drop.cls ≠ "java/lang/invoke/VarHandle") ∧ (parseMethodDescriptor y_Mo_drop.desc).map (fun d => d.parameters.length) = some 1 := by decide +kernel
theorem d_Mo_drop_0 : decode prog_8_method_32_code 0 = .ok (.iload_n 1, 1) := by decide +kernel
theorem d_Mo_drop_1 : decode prog_8_method_32_code 1 = .ok (.invokestatic 134, 3) := by decide +kernel
theorem d_Mo_drop_4 : decode prog_8_method_32_code 4 = .ok (.ifCond .ne 5, 3) := by decide +kernel
theorem d_Mo_drop_7 : decode prog_8_method_32_code 7 = .ok (.iconst 0, 1) := by decide +kernel
theorem d_Mo_drop_8 : decode prog_8_method_32_code 8 = .ok (.ireturn, 1) := by decide +kernel
theorem d_Mo_drop_9 : decode prog_8_method_32_code 9 = .ok (.aload_n 0, 1) := by decide +kernel
theorem d_Mo_drop_10 : decode prog_8_method_32_code 10 = .ok (.iload_n 1, 1) := by decide +kernel
theorem d_Mo_drop_11 : decode prog_8_method_32_code 11 = .ok (.iconst (-1), 1) := by decide +kernel
theorem d_Mo_drop_12 : decode prog_8_method_32_code 12 = .ok (.invokevirtual 148, 3) := by decide +kernel
theorem d_Mo_drop_15 : decode prog_8_method_32_code 15 = .ok (.aload_n 0, 1) := by decide +kernel
theorem d_Mo_drop_16 : decode prog_8_method_32_code 16 = .ok (.iconst 1, 1) := by decide +kernel
theorem d_Mo_drop_17 : decode prog_8_method_32_code 17 = .ok (.invokevirtual 155, 3) := by decide +kernel
theorem d_Mo_drop_20 : decode prog_8_method_32_code 20 = .ok (.iconst 1, 1) := by decide +kernel
theorem d_Mo_drop_21 : decode prog_8_method_32_code 21 = .ok (.ireturn, 1) := by decide +kernel
def f_Mo_drop (μ : zM) (a1 : Int32) (K : Int32 → zM → Prop) : Prop := f_Mo_isRoot μ a1 (fun r2 μ1 => ((¬ r2 = 0 → (f_Mo_setRoot μ1 a1 (-1 : Int32) (fun μ4 => (f_Mo_did μ4 (1 : Int32) (fun μ5 => (K (1 : Int32) μ5)))))) ∧ (r2 = 0 → (K (0 : Int32) μ1))))
set_option maxHeartbeats 4000000 in
set_option maxRecDepth 100000 in
theorem c_Mo_drop (l : Launch) (E : zE) (μ : zM) (a1 : Int32) (K : Int32 → zM → Prop) (h : f_Mo_drop μ a1 K) : Met l y_Mo_drop (Cond.code y_Mo_drop prog_8_method_32_code 2 (some .boolean) :: zT) { frames := 5, cells := 0, slots := 0, locals := 106 } (va_Pc [.ref (E.2.1 19), .int a1] (zR zwM E μ)) (va_Qi K (zR zwM E) (zA E)) 0 0 (zA E) := by
  refine z_head (by decide) (Nat.le_of_ble_eq_true rfl) ?_
  intro p e s m below meth c X hr hlk w ls hl
  have X : zX E p s m _ c prog_8_method_32_code "BeatHeapModel" 2 := X
  have hx := X.1
  have hb := X.2.1
  have hl : lv_has ls 2 [(0, .ref (E.2.1 19)), (1, .int a1)] := hl
  unfold f_Mo_drop at h
  refine lv_iload_n hx hb d_Mo_drop_0 rfl (lv_at hl 1 rfl) ?_
  refine z_cSi (As := [.int a1]) (rest := []) X w (c_Mo_isRoot l E μ a1 _ h) w_ml_Mo_134 w_st_Mo_isRoot w_in_Mo w_co_Mo_isRoot q_Mo_isRoot.1 q_Mo_isRoot.2 rfl ⟨Nat.le_of_ble_eq_true rfl, Nat.le_of_ble_eq_true rfl⟩ ⟨Nat.zero_le _, Nat.zero_le _⟩ hl.1 rfl (Nat.le_of_ble_eq_true rfl) d_Mo_drop_1 (fun r2 μ1 H locs h w => ?_)
  refine lv_if_ne (tgt := 9) hx hb d_Mo_drop_4 (by decide) (fun c3 => ?_) (fun c3 => ?_)
  · have h := h.1 c3
    refine lv_aload_n hx hb d_Mo_drop_9 rfl (lv_at hl 0 rfl) ?_
    refine lv_iload_n hx hb d_Mo_drop_10 rfl (lv_at hl 1 rfl) ?_
    refine lv_iconst (v := (-1)) hx hb d_Mo_drop_11 (by decide) ?_
    refine z_cVv (As := [.int a1, .int (-1 : Int32)]) (rest := []) (q0 := 0) (ci := 6) X w (c_Mo_setRoot l E μ1 a1 (-1 : Int32) _ h) rfl rfl rfl w_ml_Mo_148 ⟨w_im_Mo_setRoot, w_se_Mo_setRoot⟩ w_in_Mo w_co_Mo_setRoot q_Mo_setRoot.1 q_Mo_setRoot.2 rfl ⟨Nat.le_of_ble_eq_true rfl, Nat.le_of_ble_eq_true rfl⟩ ⟨Nat.zero_le _, Nat.zero_le _⟩ hl.1 rfl (Nat.le_of_ble_eq_true rfl) d_Mo_drop_12 (fun μ4 H locs h w => ?_)
    refine lv_aload_n hx hb d_Mo_drop_15 rfl (lv_at hl 0 rfl) ?_
    refine lv_iconst (v := 1) hx hb d_Mo_drop_16 (by decide) ?_
    refine z_cVv (As := [.int (1 : Int32)]) (rest := []) (q0 := 0) (ci := 6) X w (c_Mo_did l E μ4 (1 : Int32) _ h) rfl rfl rfl w_ml_Mo_155 ⟨w_im_Mo_did, w_se_Mo_did⟩ w_in_Mo w_co_Mo_did q_Mo_did.1 q_Mo_did.2 rfl ⟨Nat.le_of_ble_eq_true rfl, Nat.le_of_ble_eq_true rfl⟩ ⟨Nat.zero_le _, Nat.zero_le _⟩ hl.1 rfl (Nat.le_of_ble_eq_true rfl) d_Mo_drop_17 (fun μ5 H locs h w => ?_)
    refine lv_iconst (v := 1) hx hb d_Mo_drop_20 (by decide) ?_
    exact z_zret X hr hlk w (by decide) h d_Mo_drop_21
  · have h := h.2 c3
    refine lv_iconst (v := 0) hx hb d_Mo_drop_7 (by decide) ?_
    exact z_zret X hr hlk w (by decide) h d_Mo_drop_8
theorem q_Mo_idle : (y_Mo_idle.cls ≠ "java/lang/invoke/MethodHandle" ∧ y_Mo_idle.cls ≠ "java/lang/invoke/VarHandle") ∧ (parseMethodDescriptor y_Mo_idle.desc).map (fun d => d.parameters.length) = some 1 := by decide +kernel
theorem d_Mo_idle_0 : decode prog_8_method_33_code 0 = .ok (.iload_n 1, 1) := by decide +kernel
theorem d_Mo_idle_1 : decode prog_8_method_33_code 1 = .ok (.iconst 1, 1) := by decide +kernel
theorem d_Mo_idle_2 : decode prog_8_method_33_code 2 = .ok (.if_icmp .lt 10, 3) := by decide +kernel
theorem d_Mo_idle_5 : decode prog_8_method_33_code 5 = .ok (.iload_n 1, 1) := by decide +kernel
theorem d_Mo_idle_6 : decode prog_8_method_33_code 6 = .ok (.sipush 1000, 3) := by decide +kernel
theorem d_Mo_idle_9 : decode prog_8_method_33_code 9 = .ok (.if_icmp .le 5, 3) := by decide +kernel
theorem d_Mo_idle_12 : decode prog_8_method_33_code 12 = .ok (.iconst 0, 1) := by decide +kernel
theorem d_Mo_idle_13 : decode prog_8_method_33_code 13 = .ok (.ireturn, 1) := by decide +kernel
theorem d_Mo_idle_14 : decode prog_8_method_33_code 14 = .ok (.iconst 0, 1) := by decide +kernel
theorem d_Mo_idle_15 : decode prog_8_method_33_code 15 = .ok (.istore_n 2, 1) := by decide +kernel
theorem d_Mo_idle_16 : decode prog_8_method_33_code 16 = .ok (.iload_n 2, 1) := by decide +kernel
theorem d_Mo_idle_17 : decode prog_8_method_33_code 17 = .ok (.iload_n 1, 1) := by decide +kernel
theorem d_Mo_idle_18 : decode prog_8_method_33_code 18 = .ok (.if_icmp .ge 14, 3) := by decide +kernel
theorem d_Mo_idle_21 : decode prog_8_method_33_code 21 = .ok (.aload_n 0, 1) := by decide +kernel
theorem d_Mo_idle_22 : decode prog_8_method_33_code 22 = .ok (.iconst 1, 1) := by decide +kernel
theorem d_Mo_idle_23 : decode prog_8_method_33_code 23 = .ok (.invokevirtual 155, 3) := by decide +kernel
theorem d_Mo_idle_26 : decode prog_8_method_33_code 26 = .ok (.iinc 2 1, 3) := by decide +kernel
theorem d_Mo_idle_29 : decode prog_8_method_33_code 29 = .ok (.goto (-13), 3) := by decide +kernel
theorem d_Mo_idle_32 : decode prog_8_method_33_code 32 = .ok (.iconst 1, 1) := by decide +kernel
theorem d_Mo_idle_33 : decode prog_8_method_33_code 33 = .ok (.ireturn, 1) := by decide +kernel
noncomputable def F_Mo_idle_16 (K : Int32 → zM → Prop) (n : Nat) : Int32 → Int32 → zM → Prop := Nat.rec (motive := fun _ => Int32 → Int32 → zM → Prop) (fun _ _ _ => False) (fun _ ih x1 x2 μ => (x1 ≤ x2 → (K (1 : Int32) μ)) ∧ (¬ x1 ≤ x2 → (f_Mo_did μ (1 : Int32) (fun μ4 => (∀ x5 : Int32, x5 = x2 + 1 → (ih x1 x5 μ4)))))) n
def f_Mo_idle (μ : zM) (a1 : Int32) (K : Int32 → zM → Prop) : Prop := (a1 < (1 : Int32) → (K (0 : Int32) μ)) ∧ (¬ a1 < (1 : Int32) → ((a1 ≤ (1000 : Int32) → (∃ n : Nat, F_Mo_idle_16 K n a1 (0 : Int32) μ)) ∧ (¬ a1 ≤ (1000 : Int32) → (K (0 : Int32) μ))))
set_option maxHeartbeats 4000000 in
set_option maxRecDepth 100000 in
theorem L_Mo_idle_16 {p : Program} {l : Launch} {e : Env} {s : State} {m : MethodId} {args : Array Value} {below : List Frame} {meth : Method} {c : Code} {E : zE} (X : zX E p s m args c prog_8_method_33_code "BeatHeapModel" 3) (hr : meth.sig.returnType = (some .boolean)) (hlk : meth.locks = false) (K : Int32 → zM → Prop) : ∀ (n : Nat) (x1 x2 : Int32) (μ : zM) (H : Heap) (locs : List Loc) (ls : Array Slot), F_Mo_idle_16 K n x1 x2 μ → zW zwM E s μ H locs → lv_has ls 3 [(0, .ref (E.2.1 19)), (1, .int x1), (2, .int x2)] → W p l e { frames := 5, cells := 0, slots := 0, locals := 106 } s m args below meth c H locs 0 0 (MQ below (va_Qi K (zR zwM E) (zA E)) args s 0 0 (zA E)) (F0 m 16 ls []) := by
  have hx := X.1
  have hb := X.2.1
  intro n
  induction n with
  | zero => intro x1 x2 μ H locs ls h; exact False.elim h
  | succ n ih =>
    intro x1 x2 μ H locs ls h w hl
    refine lv_iload_n hx hb d_Mo_idle_16 rfl (lv_at hl 2 rfl) ?_
    refine lv_iload_n hx hb d_Mo_idle_17 rfl (lv_at hl 1 rfl) ?_
    refine lv_icmp_ge (tgt := 32) hx hb d_Mo_idle_18 (by decide) (fun c3 => ?_) (fun c3 => ?_)
    · have h := h.1 c3
      refine lv_iconst (v := 1) hx hb d_Mo_idle_32 (by decide) ?_
      exact z_zret X hr hlk w (by decide) h d_Mo_idle_33
    · have h := h.2 c3
      refine lv_aload_n hx hb d_Mo_idle_21 rfl (lv_at hl 0 rfl) ?_
      refine lv_iconst (v := 1) hx hb d_Mo_idle_22 (by decide) ?_
      refine z_cVv (As := [.int (1 : Int32)]) (rest := []) (q0 := 0) (ci := 6) X w (c_Mo_did l E μ (1 : Int32) _ h) rfl rfl rfl w_ml_Mo_155 ⟨w_im_Mo_did, w_se_Mo_did⟩ w_in_Mo w_co_Mo_did q_Mo_did.1 q_Mo_did.2 rfl ⟨Nat.le_of_ble_eq_true rfl, Nat.le_of_ble_eq_true rfl⟩ ⟨Nat.zero_le _, Nat.zero_le _⟩ hl.1 rfl (Nat.le_of_ble_eq_true rfl) d_Mo_idle_23 (fun μ4 H locs h w => ?_)
      obtain ⟨x5, ex5⟩ : ∃ y : Int32, y = x2 + 1 := ⟨_, rfl⟩
      have h := h x5 ex5
      refine lv_iinc (v := x5) (lv' := [(2, .int x5), (0, .ref (E.2.1 19)), (1, .int x1)]) hx hb d_Mo_idle_26 hl (k := 2) rfl (by rw [ex5]; rfl) (by decide) rfl (fun ls hl => ?_)
      refine lv_goto (tgt := 16) hx hb d_Mo_idle_29 (by decide) ?_
      exact ih x1 x5 μ4 _ _ _ h w (lv_sub hl [1, 2, 0] rfl)

set_option maxHeartbeats 4000000 in
set_option maxRecDepth 100000 in
theorem c_Mo_idle (l : Launch) (E : zE) (μ : zM) (a1 : Int32) (K : Int32 → zM → Prop) (h : f_Mo_idle μ a1 K) : Met l y_Mo_idle (Cond.code y_Mo_idle prog_8_method_33_code 3 (some .boolean) :: zT) { frames := 5, cells := 0, slots := 0, locals := 106 } (va_Pc [.ref (E.2.1 19), .int a1] (zR zwM E μ)) (va_Qi K (zR zwM E) (zA E)) 0 0 (zA E) := by
  refine z_head (by decide) (Nat.le_of_ble_eq_true rfl) ?_
  intro p e s m below meth c X hr hlk w ls hl
  have X : zX E p s m _ c prog_8_method_33_code "BeatHeapModel" 3 := X
  have hx := X.1
  have hb := X.2.1
  have hl : lv_has ls 3 [(0, .ref (E.2.1 19)), (1, .int a1)] := hl
  unfold f_Mo_idle at h
  refine lv_iload_n hx hb d_Mo_idle_0 rfl (lv_at hl 1 rfl) ?_
  refine lv_iconst (v := 1) hx hb d_Mo_idle_1 (by decide) ?_
  refine lv_icmp_lt (tgt := 12) hx hb d_Mo_idle_2 (by decide) (fun c1 => ?_) (fun c1 => ?_)
  · have h := h.1 c1
    refine lv_iconst (v := 0) hx hb d_Mo_idle_12 (by decide) ?_
    exact z_zret X hr hlk w (by decide) h d_Mo_idle_13
  · have h := h.2 c1
    refine lv_iload_n hx hb d_Mo_idle_5 rfl (lv_at hl 1 rfl) ?_
    refine lv_sipush (v := 1000) hx hb d_Mo_idle_6 (by decide) ?_
    refine lv_icmp_le (tgt := 14) hx hb d_Mo_idle_9 (by decide) (fun c2 => ?_) (fun c2 => ?_)
    · have h := h.1 c2
      refine lv_iconst (v := 0) hx hb d_Mo_idle_14 (by decide) ?_
      refine lv_istore_n (lv' := [(2, .int (0 : Int32)), (0, .ref (E.2.1 19)), (1, .int a1)]) hx hb d_Mo_idle_15 rfl hl (by decide) rfl (fun ls hl => ?_)
      obtain ⟨n, h⟩ := h
      exact L_Mo_idle_16 X hr hlk K n a1 (0 : Int32) μ _ _ _ h w (lv_sub hl [1, 2, 0] rfl)
    · have h := h.2 c2
      refine lv_iconst (v := 0) hx hb d_Mo_idle_12 (by decide) ?_
      exact z_zret X hr hlk w (by decide) h d_Mo_idle_13
theorem q_Mo_start : (y_Mo_start.cls ≠ "java/lang/invoke/MethodHandle" ∧ y_Mo_start.cls ≠ "java/lang/invoke/VarHandle") ∧ (parseMethodDescriptor y_Mo_start.desc).map (fun d => d.parameters.length) = some 0 := by decide +kernel
theorem d_Mo_start_0 : decode prog_8_method_34_code 0 = .ok (.aload_n 0, 1) := by decide +kernel
theorem d_Mo_start_1 : decode prog_8_method_34_code 1 = .ok (.getfield 61, 3) := by decide +kernel
theorem d_Mo_start_4 : decode prog_8_method_34_code 4 = .ok (.ifCond .eq 5, 3) := by decide +kernel
theorem d_Mo_start_7 : decode prog_8_method_34_code 7 = .ok (.iconst 0, 1) := by decide +kernel
theorem d_Mo_start_8 : decode prog_8_method_34_code 8 = .ok (.ireturn, 1) := by decide +kernel
theorem d_Mo_start_9 : decode prog_8_method_34_code 9 = .ok (.aload_n 0, 1) := by decide +kernel
theorem d_Mo_start_10 : decode prog_8_method_34_code 10 = .ok (.invokevirtual 106, 3) := by decide +kernel
theorem d_Mo_start_13 : decode prog_8_method_34_code 13 = .ok (.iconst 1, 1) := by decide +kernel
theorem d_Mo_start_14 : decode prog_8_method_34_code 14 = .ok (.ireturn, 1) := by decide +kernel
def f_Mo_start (μ : zM) (K : Int32 → zM → Prop) : Prop := ((μ 19 13) = 0 → (f_Mo_beginCycle μ (fun μ2 => (K (1 : Int32) μ2)))) ∧ (¬ (μ 19 13) = 0 → (K (0 : Int32) μ))
set_option maxHeartbeats 4000000 in
set_option maxRecDepth 100000 in
theorem c_Mo_start (l : Launch) (E : zE) (μ : zM) (K : Int32 → zM → Prop) (h : f_Mo_start μ K) : Met l y_Mo_start (Cond.code y_Mo_start prog_8_method_34_code 1 (some .boolean) :: zT) { frames := 1, cells := 0, slots := 0, locals := 20 } (va_Pc [.ref (E.2.1 19)] (zR zwM E μ)) (va_Qi K (zR zwM E) (zA E)) 0 0 (zA E) := by
  refine z_head (by decide) (Nat.le_of_ble_eq_true rfl) ?_
  intro p e s m below meth c X hr hlk w ls hl
  have X : zX E p s m _ c prog_8_method_34_code "BeatHeapModel" 1 := X
  have hx := X.1
  have hb := X.2.1
  have hl : lv_has ls 1 [(0, .ref (E.2.1 19))] := hl
  unfold f_Mo_start at h
  refine lv_aload_n hx hb d_Mo_start_0 rfl (lv_at hl 0 rfl) ?_
  refine gt_19_13 X w w_fl_Mo_61 d_Mo_start_1 ?_
  refine lv_if_eq (tgt := 9) hx hb d_Mo_start_4 (by decide) (fun c1 => ?_) (fun c1 => ?_)
  · have h := h.1 c1
    refine lv_aload_n hx hb d_Mo_start_9 rfl (lv_at hl 0 rfl) ?_
    refine z_cVv (As := []) (rest := []) (q0 := 0) (ci := 6) X w (c_Mo_beginCycle l E μ _ h) rfl rfl rfl w_ml_Mo_106 ⟨w_im_Mo_beginCycle, w_se_Mo_beginCycle⟩ w_in_Mo w_co_Mo_beginCycle q_Mo_beginCycle.1 q_Mo_beginCycle.2 rfl ⟨Nat.le_of_ble_eq_true rfl, Nat.le_of_ble_eq_true rfl⟩ ⟨Nat.zero_le _, Nat.zero_le _⟩ hl.1 rfl (Nat.le_of_ble_eq_true rfl) d_Mo_start_10 (fun μ2 H locs h w => ?_)
    refine lv_iconst (v := 1) hx hb d_Mo_start_13 (by decide) ?_
    exact z_zret X hr hlk w (by decide) h d_Mo_start_14
  · have h := h.2 c1
    refine lv_iconst (v := 0) hx hb d_Mo_start_7 (by decide) ?_
    exact z_zret X hr hlk w (by decide) h d_Mo_start_8
