theorem q_Mo_markStep : (y_Mo_markStep.cls ≠ "java/lang/invoke/MethodHandle" ∧ y_Mo_markStep.cls ≠ "java/lang/invoke/VarHandle") ∧ (parseMethodDescriptor y_Mo_markStep.desc).map (fun d => d.parameters.length) = some 0 := by decide +kernel
theorem d_Mo_markStep_0 : decode prog_8_method_14_code 0 = .ok (.aload_n 0, 1) := by decide +kernel
theorem d_Mo_markStep_1 : decode prog_8_method_14_code 1 = .ok (.getfield 64, 3) := by decide +kernel
theorem d_Mo_markStep_4 : decode prog_8_method_14_code 4 = .ok (.iconst (-1), 1) := by decide +kernel
theorem d_Mo_markStep_5 : decode prog_8_method_14_code 5 = .ok (.if_icmp .eq 81, 3) := by decide +kernel
theorem d_Mo_markStep_8 : decode prog_8_method_14_code 8 = .ok (.aload_n 0, 1) := by decide +kernel
theorem d_Mo_markStep_9 : decode prog_8_method_14_code 9 = .ok (.getfield 122, 3) := by decide +kernel
theorem d_Mo_markStep_12 : decode prog_8_method_14_code 12 = .ok (.aload_n 0, 1) := by decide +kernel
theorem d_Mo_markStep_13 : decode prog_8_method_14_code 13 = .ok (.getfield 23, 3) := by decide +kernel
theorem d_Mo_markStep_16 : decode prog_8_method_14_code 16 = .ok (.aload_n 0, 1) := by decide +kernel
theorem d_Mo_markStep_17 : decode prog_8_method_14_code 17 = .ok (.getfield 64, 3) := by decide +kernel
theorem d_Mo_markStep_20 : decode prog_8_method_14_code 20 = .ok (.iaload, 1) := by decide +kernel
theorem d_Mo_markStep_21 : decode prog_8_method_14_code 21 = .ok (.if_icmp .ge 65, 3) := by decide +kernel
theorem d_Mo_markStep_24 : decode prog_8_method_14_code 24 = .ok (.aload_n 0, 1) := by decide +kernel
theorem d_Mo_markStep_25 : decode prog_8_method_14_code 25 = .ok (.dup, 1) := by decide +kernel
theorem d_Mo_markStep_26 : decode prog_8_method_14_code 26 = .ok (.getfield 122, 3) := by decide +kernel
theorem d_Mo_markStep_29 : decode prog_8_method_14_code 29 = .ok (.iconst 1, 1) := by decide +kernel
theorem d_Mo_markStep_30 : decode prog_8_method_14_code 30 = .ok (.iadd, 1) := by decide +kernel
theorem d_Mo_markStep_31 : decode prog_8_method_14_code 31 = .ok (.putfield 122, 3) := by decide +kernel
theorem d_Mo_markStep_34 : decode prog_8_method_14_code 34 = .ok (.aload_n 0, 1) := by decide +kernel
theorem d_Mo_markStep_35 : decode prog_8_method_14_code 35 = .ok (.getfield 7, 3) := by decide +kernel
theorem d_Mo_markStep_38 : decode prog_8_method_14_code 38 = .ok (.aload_n 0, 1) := by decide +kernel
theorem d_Mo_markStep_39 : decode prog_8_method_14_code 39 = .ok (.getfield 64, 3) := by decide +kernel
theorem d_Mo_markStep_42 : decode prog_8_method_14_code 42 = .ok (.aload_n 0, 1) := by decide +kernel
theorem d_Mo_markStep_43 : decode prog_8_method_14_code 43 = .ok (.getfield 122, 3) := by decide +kernel
theorem d_Mo_markStep_46 : decode prog_8_method_14_code 46 = .ok (.iadd, 1) := by decide +kernel
theorem d_Mo_markStep_47 : decode prog_8_method_14_code 47 = .ok (.iaload, 1) := by decide +kernel
theorem d_Mo_markStep_48 : decode prog_8_method_14_code 48 = .ok (.iconst 1, 1) := by decide +kernel
theorem d_Mo_markStep_49 : decode prog_8_method_14_code 49 = .ok (.isub, 1) := by decide +kernel
theorem d_Mo_markStep_50 : decode prog_8_method_14_code 50 = .ok (.istore_n 1, 1) := by decide +kernel
theorem d_Mo_markStep_51 : decode prog_8_method_14_code 51 = .ok (.iload_n 1, 1) := by decide +kernel
theorem d_Mo_markStep_52 : decode prog_8_method_14_code 52 = .ok (.ifCond .lt 26, 3) := by decide +kernel
theorem d_Mo_markStep_55 : decode prog_8_method_14_code 55 = .ok (.aload_n 0, 1) := by decide +kernel
theorem d_Mo_markStep_56 : decode prog_8_method_14_code 56 = .ok (.getfield 16, 3) := by decide +kernel
theorem d_Mo_markStep_59 : decode prog_8_method_14_code 59 = .ok (.aload_n 0, 1) := by decide +kernel
theorem d_Mo_markStep_60 : decode prog_8_method_14_code 60 = .ok (.getfield 64, 3) := by decide +kernel
theorem d_Mo_markStep_63 : decode prog_8_method_14_code 63 = .ok (.iaload, 1) := by decide +kernel
theorem d_Mo_markStep_64 : decode prog_8_method_14_code 64 = .ok (.iconst 2, 1) := by decide +kernel
theorem d_Mo_markStep_65 : decode prog_8_method_14_code 65 = .ok (.if_icmp .ne 13, 3) := by decide +kernel
theorem d_Mo_markStep_68 : decode prog_8_method_14_code 68 = .ok (.aload_n 0, 1) := by decide +kernel
theorem d_Mo_markStep_69 : decode prog_8_method_14_code 69 = .ok (.getfield 19, 3) := by decide +kernel
theorem d_Mo_markStep_72 : decode prog_8_method_14_code 72 = .ok (.iload_n 1, 1) := by decide +kernel
theorem d_Mo_markStep_73 : decode prog_8_method_14_code 73 = .ok (.iconst 1, 1) := by decide +kernel
theorem d_Mo_markStep_74 : decode prog_8_method_14_code 74 = .ok (.bastore, 1) := by decide +kernel
theorem d_Mo_markStep_75 : decode prog_8_method_14_code 75 = .ok (.goto 8, 3) := by decide +kernel
theorem d_Mo_markStep_78 : decode prog_8_method_14_code 78 = .ok (.aload_n 0, 1) := by decide +kernel
theorem d_Mo_markStep_79 : decode prog_8_method_14_code 79 = .ok (.iload_n 1, 1) := by decide +kernel
theorem d_Mo_markStep_80 : decode prog_8_method_14_code 80 = .ok (.invokevirtual 109, 3) := by decide +kernel
theorem d_Mo_markStep_83 : decode prog_8_method_14_code 83 = .ok (.goto 56, 3) := by decide +kernel
theorem d_Mo_markStep_86 : decode prog_8_method_14_code 86 = .ok (.aload_n 0, 1) := by decide +kernel
theorem d_Mo_markStep_87 : decode prog_8_method_14_code 87 = .ok (.getfield 58, 3) := by decide +kernel
theorem d_Mo_markStep_90 : decode prog_8_method_14_code 90 = .ok (.ifCond .le 34, 3) := by decide +kernel
theorem d_Mo_markStep_93 : decode prog_8_method_14_code 93 = .ok (.aload_n 0, 1) := by decide +kernel
theorem d_Mo_markStep_94 : decode prog_8_method_14_code 94 = .ok (.dup, 1) := by decide +kernel
theorem d_Mo_markStep_95 : decode prog_8_method_14_code 95 = .ok (.getfield 58, 3) := by decide +kernel
theorem d_Mo_markStep_98 : decode prog_8_method_14_code 98 = .ok (.iconst 1, 1) := by decide +kernel
theorem d_Mo_markStep_99 : decode prog_8_method_14_code 99 = .ok (.isub, 1) := by decide +kernel
theorem d_Mo_markStep_100 : decode prog_8_method_14_code 100 = .ok (.putfield 58, 3) := by decide +kernel
theorem d_Mo_markStep_103 : decode prog_8_method_14_code 103 = .ok (.aload_n 0, 1) := by decide +kernel
theorem d_Mo_markStep_104 : decode prog_8_method_14_code 104 = .ok (.aload_n 0, 1) := by decide +kernel
theorem d_Mo_markStep_105 : decode prog_8_method_14_code 105 = .ok (.getfield 32, 3) := by decide +kernel
theorem d_Mo_markStep_108 : decode prog_8_method_14_code 108 = .ok (.aload_n 0, 1) := by decide +kernel
theorem d_Mo_markStep_109 : decode prog_8_method_14_code 109 = .ok (.getfield 58, 3) := by decide +kernel
theorem d_Mo_markStep_112 : decode prog_8_method_14_code 112 = .ok (.iaload, 1) := by decide +kernel
theorem d_Mo_markStep_113 : decode prog_8_method_14_code 113 = .ok (.putfield 64, 3) := by decide +kernel
theorem d_Mo_markStep_116 : decode prog_8_method_14_code 116 = .ok (.aload_n 0, 1) := by decide +kernel
theorem d_Mo_markStep_117 : decode prog_8_method_14_code 117 = .ok (.iconst 0, 1) := by decide +kernel
theorem d_Mo_markStep_118 : decode prog_8_method_14_code 118 = .ok (.putfield 122, 3) := by decide +kernel
theorem d_Mo_markStep_121 : decode prog_8_method_14_code 121 = .ok (.goto 18, 3) := by decide +kernel
theorem d_Mo_markStep_124 : decode prog_8_method_14_code 124 = .ok (.aload_n 0, 1) := by decide +kernel
theorem d_Mo_markStep_125 : decode prog_8_method_14_code 125 = .ok (.iconst 3, 1) := by decide +kernel
theorem d_Mo_markStep_126 : decode prog_8_method_14_code 126 = .ok (.putfield 61, 3) := by decide +kernel
theorem d_Mo_markStep_129 : decode prog_8_method_14_code 129 = .ok (.aload_n 0, 1) := by decide +kernel
theorem d_Mo_markStep_130 : decode prog_8_method_14_code 130 = .ok (.iconst 0, 1) := by decide +kernel
theorem d_Mo_markStep_131 : decode prog_8_method_14_code 131 = .ok (.putfield 67, 3) := by decide +kernel
theorem d_Mo_markStep_134 : decode prog_8_method_14_code 134 = .ok (.aload_n 0, 1) := by decide +kernel
theorem d_Mo_markStep_135 : decode prog_8_method_14_code 135 = .ok (.iconst (-1), 1) := by decide +kernel
theorem d_Mo_markStep_136 : decode prog_8_method_14_code 136 = .ok (.putfield 64, 3) := by decide +kernel
theorem d_Mo_markStep_139 : decode prog_8_method_14_code 139 = .ok (.return_, 1) := by decide +kernel
def f_Mo_markStep (μ : zM) (K : zM → Prop) : Prop := ((μ 19 15) = (-1 : Int32) → (((μ 19 12) ≤ 0 → (∀ μ3 : zM, μ3 = zp μ 19 13 (3 : Int32) → (∀ μ4 : zM, μ4 = zp μ3 19 17 (0 : Int32) → (∀ μ5 : zM, μ5 = zp μ4 19 15 (-1 : Int32) → (K μ5))))) ∧ (¬ (μ 19 12) ≤ 0 → (∀ μ6 : zM, μ6 = zp μ 19 12 ((μ 19 12) - (1 : Int32)) → (vp_in (μ6 19 12) 1100 ∧ (∀ μ8 : zM, μ8 = zp μ6 19 15 (μ6 27 (μ6 19 12).toNatClampNeg) → (∀ μ9 : zM, μ9 = zp μ8 19 16 (0 : Int32) → (K μ9)))))))) ∧ (¬ (μ 19 15) = (-1 : Int32) → (vp_in (μ 19 15) 4096 ∧ (((μ 24 (μ 19 15).toNatClampNeg) ≤ (μ 19 16) → (((μ 19 12) ≤ 0 → (∀ μ13 : zM, μ13 = zp μ 19 13 (3 : Int32) → (∀ μ14 : zM, μ14 = zp μ13 19 17 (0 : Int32) → (∀ μ15 : zM, μ15 = zp μ14 19 15 (-1 : Int32) → (K μ15))))) ∧ (¬ (μ 19 12) ≤ 0 → (∀ μ16 : zM, μ16 = zp μ 19 12 ((μ 19 12) - (1 : Int32)) → (vp_in (μ16 19 12) 1100 ∧ (∀ μ18 : zM, μ18 = zp μ16 19 15 (μ16 27 (μ16 19 12).toNatClampNeg) → (∀ μ19 : zM, μ19 = zp μ18 19 16 (0 : Int32) → (K μ19)))))))) ∧ (¬ (μ 24 (μ 19 15).toNatClampNeg) ≤ (μ 19 16) → (∀ μ20 : zM, μ20 = zp μ 19 16 ((μ 19 16) + (1 : Int32)) → (vp_in ((μ20 19 15) + (μ20 19 16)) 4096 ∧ (∀ x22 : Int32, x22 = ((μ20 20 ((μ20 19 15) + (μ20 19 16)).toNatClampNeg) - (1 : Int32)) → ((x22 < 0 → (f_Mo_grey μ20 x22 (fun μ24 => (K μ24)))) ∧ (¬ x22 < 0 → (vp_in (μ20 19 15) 4096 ∧ ((¬ (μ20 22 (μ20 19 15).toNatClampNeg) = (2 : Int32) → (f_Mo_grey μ20 x22 (fun μ27 => (K μ27)))) ∧ ((μ20 22 (μ20 19 15).toNatClampNeg) = (2 : Int32) → (vp_in x22 4096 ∧ ∀ μ29 : zM, μ29 = zp μ20 23 x22.toNatClampNeg (vp_nar .boolean (1 : Int32)) → (K μ29))))))))))))))
set_option maxHeartbeats 4000000 in
set_option maxRecDepth 100000 in
theorem c_Mo_markStep (l : Launch) (E : zE) (μ : zM) (K : zM → Prop) (h : f_Mo_markStep μ K) : Met l y_Mo_markStep (Cond.code y_Mo_markStep prog_8_method_14_code 2 none :: zT) { frames := 1, cells := 0, slots := 0, locals := 21 } (va_Pc [.ref (E.2.1 19)] (zR zwM E μ)) (va_Qv K (zR zwM E) (zA E)) 0 0 (zA E) := by
  refine z_head (by decide) (Nat.le_of_ble_eq_true rfl) ?_
  intro p e s m below meth c X hr hlk w ls hl
  have X : zX E p s m _ c prog_8_method_14_code "BeatHeapModel" 2 := X
  have hx := X.1
  have hb := X.2.1
  have hl : lv_has ls 2 [(0, .ref (E.2.1 19))] := hl
  unfold f_Mo_markStep at h
  refine lv_aload_n hx hb d_Mo_markStep_0 rfl (lv_at hl 0 rfl) ?_
  refine gt_19_15 X w w_fl_Mo_64 d_Mo_markStep_1 ?_
  refine lv_iconst (v := (-1)) hx hb d_Mo_markStep_4 (by decide) ?_
  refine lv_icmp_eq (tgt := 86) hx hb d_Mo_markStep_5 (by decide) (fun c1 => ?_) (fun c1 => ?_)
  · have h := h.1 c1
    refine lv_aload_n hx hb d_Mo_markStep_86 rfl (lv_at hl 0 rfl) ?_
    refine gt_19_12 X w w_fl_Mo_58 d_Mo_markStep_87 ?_
    refine lv_if_le (tgt := 124) hx hb d_Mo_markStep_90 (by decide) (fun c2 => ?_) (fun c2 => ?_)
    · have h := h.1 c2
      refine lv_aload_n hx hb d_Mo_markStep_124 rfl (lv_at hl 0 rfl) ?_
      refine lv_iconst (v := 3) hx hb d_Mo_markStep_125 (by decide) ?_
      refine pt_19_13 X w w_fl_Mo_61 d_Mo_markStep_126 (fun μ3 H locs eμ3 w => ?_)
      have h := h μ3 eμ3
      refine lv_aload_n hx hb d_Mo_markStep_129 rfl (lv_at hl 0 rfl) ?_
      refine lv_iconst (v := 0) hx hb d_Mo_markStep_130 (by decide) ?_
      refine pt_19_17 X w w_fl_Mo_67 d_Mo_markStep_131 (fun μ4 H locs eμ4 w => ?_)
      have h := h μ4 eμ4
      refine lv_aload_n hx hb d_Mo_markStep_134 rfl (lv_at hl 0 rfl) ?_
      refine lv_iconst (v := (-1)) hx hb d_Mo_markStep_135 (by decide) ?_
      refine pt_19_15 X w w_fl_Mo_64 d_Mo_markStep_136 (fun μ5 H locs eμ5 w => ?_)
      have h := h μ5 eμ5
      exact z_vret X hr hlk w h d_Mo_markStep_139
    · have h := h.2 c2
      refine lv_aload_n hx hb d_Mo_markStep_93 rfl (lv_at hl 0 rfl) ?_
      refine lv_dup hx hb d_Mo_markStep_94 rfl ?_
      refine gt_19_12 X w w_fl_Mo_58 d_Mo_markStep_95 ?_
      refine lv_iconst (v := 1) hx hb d_Mo_markStep_98 (by decide) ?_
      refine lv_isub hx hb d_Mo_markStep_99 ?_
      refine pt_19_12 X w w_fl_Mo_58 d_Mo_markStep_100 (fun μ6 H locs eμ6 w => ?_)
      have h := h μ6 eμ6
      refine lv_aload_n hx hb d_Mo_markStep_103 rfl (lv_at hl 0 rfl) ?_
      refine lv_aload_n hx hb d_Mo_markStep_104 rfl (lv_at hl 0 rfl) ?_
      refine gt_19_11 X w w_fl_Mo_32 d_Mo_markStep_105 ?_
      refine lv_aload_n hx hb d_Mo_markStep_108 rfl (lv_at hl 0 rfl) ?_
      refine gt_19_12 X w w_fl_Mo_58 d_Mo_markStep_109 ?_
      obtain ⟨hi7, h⟩ := h
      refine al_27 X w hi7 d_Mo_markStep_112 ?_
      refine pt_19_15 X w w_fl_Mo_64 d_Mo_markStep_113 (fun μ8 H locs eμ8 w => ?_)
      have h := h μ8 eμ8
      refine lv_aload_n hx hb d_Mo_markStep_116 rfl (lv_at hl 0 rfl) ?_
      refine lv_iconst (v := 0) hx hb d_Mo_markStep_117 (by decide) ?_
      refine pt_19_16 X w w_fl_Mo_122 d_Mo_markStep_118 (fun μ9 H locs eμ9 w => ?_)
      have h := h μ9 eμ9
      refine lv_goto (tgt := 139) hx hb d_Mo_markStep_121 (by decide) ?_
      exact z_vret X hr hlk w h d_Mo_markStep_139
  · have h := h.2 c1
    refine lv_aload_n hx hb d_Mo_markStep_8 rfl (lv_at hl 0 rfl) ?_
    refine gt_19_16 X w w_fl_Mo_122 d_Mo_markStep_9 ?_
    refine lv_aload_n hx hb d_Mo_markStep_12 rfl (lv_at hl 0 rfl) ?_
    refine gt_19_8 X w w_fl_Mo_23 d_Mo_markStep_13 ?_
    refine lv_aload_n hx hb d_Mo_markStep_16 rfl (lv_at hl 0 rfl) ?_
    refine gt_19_15 X w w_fl_Mo_64 d_Mo_markStep_17 ?_
    obtain ⟨hi10, h⟩ := h
    refine al_24 X w hi10 d_Mo_markStep_20 ?_
    refine lv_icmp_ge (tgt := 86) hx hb d_Mo_markStep_21 (by decide) (fun c11 => ?_) (fun c11 => ?_)
    · have h := h.1 c11
      refine lv_aload_n hx hb d_Mo_markStep_86 rfl (lv_at hl 0 rfl) ?_
      refine gt_19_12 X w w_fl_Mo_58 d_Mo_markStep_87 ?_
      refine lv_if_le (tgt := 124) hx hb d_Mo_markStep_90 (by decide) (fun c12 => ?_) (fun c12 => ?_)
      · have h := h.1 c12
        refine lv_aload_n hx hb d_Mo_markStep_124 rfl (lv_at hl 0 rfl) ?_
        refine lv_iconst (v := 3) hx hb d_Mo_markStep_125 (by decide) ?_
        refine pt_19_13 X w w_fl_Mo_61 d_Mo_markStep_126 (fun μ13 H locs eμ13 w => ?_)
        have h := h μ13 eμ13
        refine lv_aload_n hx hb d_Mo_markStep_129 rfl (lv_at hl 0 rfl) ?_
        refine lv_iconst (v := 0) hx hb d_Mo_markStep_130 (by decide) ?_
        refine pt_19_17 X w w_fl_Mo_67 d_Mo_markStep_131 (fun μ14 H locs eμ14 w => ?_)
        have h := h μ14 eμ14
        refine lv_aload_n hx hb d_Mo_markStep_134 rfl (lv_at hl 0 rfl) ?_
        refine lv_iconst (v := (-1)) hx hb d_Mo_markStep_135 (by decide) ?_
        refine pt_19_15 X w w_fl_Mo_64 d_Mo_markStep_136 (fun μ15 H locs eμ15 w => ?_)
        have h := h μ15 eμ15
        exact z_vret X hr hlk w h d_Mo_markStep_139
      · have h := h.2 c12
        refine lv_aload_n hx hb d_Mo_markStep_93 rfl (lv_at hl 0 rfl) ?_
        refine lv_dup hx hb d_Mo_markStep_94 rfl ?_
        refine gt_19_12 X w w_fl_Mo_58 d_Mo_markStep_95 ?_
        refine lv_iconst (v := 1) hx hb d_Mo_markStep_98 (by decide) ?_
        refine lv_isub hx hb d_Mo_markStep_99 ?_
        refine pt_19_12 X w w_fl_Mo_58 d_Mo_markStep_100 (fun μ16 H locs eμ16 w => ?_)
        have h := h μ16 eμ16
        refine lv_aload_n hx hb d_Mo_markStep_103 rfl (lv_at hl 0 rfl) ?_
        refine lv_aload_n hx hb d_Mo_markStep_104 rfl (lv_at hl 0 rfl) ?_
        refine gt_19_11 X w w_fl_Mo_32 d_Mo_markStep_105 ?_
        refine lv_aload_n hx hb d_Mo_markStep_108 rfl (lv_at hl 0 rfl) ?_
        refine gt_19_12 X w w_fl_Mo_58 d_Mo_markStep_109 ?_
        obtain ⟨hi17, h⟩ := h
        refine al_27 X w hi17 d_Mo_markStep_112 ?_
        refine pt_19_15 X w w_fl_Mo_64 d_Mo_markStep_113 (fun μ18 H locs eμ18 w => ?_)
        have h := h μ18 eμ18
        refine lv_aload_n hx hb d_Mo_markStep_116 rfl (lv_at hl 0 rfl) ?_
        refine lv_iconst (v := 0) hx hb d_Mo_markStep_117 (by decide) ?_
        refine pt_19_16 X w w_fl_Mo_122 d_Mo_markStep_118 (fun μ19 H locs eμ19 w => ?_)
        have h := h μ19 eμ19
        refine lv_goto (tgt := 139) hx hb d_Mo_markStep_121 (by decide) ?_
        exact z_vret X hr hlk w h d_Mo_markStep_139
    · have h := h.2 c11
      refine lv_aload_n hx hb d_Mo_markStep_24 rfl (lv_at hl 0 rfl) ?_
      refine lv_dup hx hb d_Mo_markStep_25 rfl ?_
      refine gt_19_16 X w w_fl_Mo_122 d_Mo_markStep_26 ?_
      refine lv_iconst (v := 1) hx hb d_Mo_markStep_29 (by decide) ?_
      refine lv_iadd hx hb d_Mo_markStep_30 ?_
      refine pt_19_16 X w w_fl_Mo_122 d_Mo_markStep_31 (fun μ20 H locs eμ20 w => ?_)
      have h := h μ20 eμ20
      refine lv_aload_n hx hb d_Mo_markStep_34 rfl (lv_at hl 0 rfl) ?_
      refine gt_19_4 X w w_fl_Mo_7 d_Mo_markStep_35 ?_
      refine lv_aload_n hx hb d_Mo_markStep_38 rfl (lv_at hl 0 rfl) ?_
      refine gt_19_15 X w w_fl_Mo_64 d_Mo_markStep_39 ?_
      refine lv_aload_n hx hb d_Mo_markStep_42 rfl (lv_at hl 0 rfl) ?_
      refine gt_19_16 X w w_fl_Mo_122 d_Mo_markStep_43 ?_
      refine lv_iadd hx hb d_Mo_markStep_46 ?_
      obtain ⟨hi21, h⟩ := h
      refine al_20 X w hi21 d_Mo_markStep_47 ?_
      refine lv_iconst (v := 1) hx hb d_Mo_markStep_48 (by decide) ?_
      refine lv_isub hx hb d_Mo_markStep_49 ?_
      refine lv_topi (fun x22 ex22 => ?_)
      have h := h x22 ex22
      refine lv_istore_n (lv' := [(1, .int x22), (0, .ref (E.2.1 19))]) hx hb d_Mo_markStep_50 rfl hl (by decide) rfl (fun ls hl => ?_)
      refine lv_iload_n hx hb d_Mo_markStep_51 rfl (lv_at hl 0 rfl) ?_
      refine lv_if_lt (tgt := 78) hx hb d_Mo_markStep_52 (by decide) (fun c23 => ?_) (fun c23 => ?_)
      · have h := h.1 c23
        refine lv_aload_n hx hb d_Mo_markStep_78 rfl (lv_at hl 1 rfl) ?_
        refine lv_iload_n hx hb d_Mo_markStep_79 rfl (lv_at hl 0 rfl) ?_
        refine z_cVv (As := [.int x22]) (rest := []) (q0 := 0) (ci := 6) X w (c_Mo_grey l E μ20 x22 _ h) rfl rfl rfl w_ml_Mo_109 ⟨w_im_Mo_grey, w_se_Mo_grey⟩ w_in_Mo w_co_Mo_grey q_Mo_grey.1 q_Mo_grey.2 rfl ⟨Nat.le_of_ble_eq_true rfl, Nat.le_of_ble_eq_true rfl⟩ ⟨Nat.zero_le _, Nat.zero_le _⟩ hl.1 rfl (Nat.le_of_ble_eq_true rfl) d_Mo_markStep_80 (fun μ24 H locs h w => ?_)
        refine lv_goto (tgt := 139) hx hb d_Mo_markStep_83 (by decide) ?_
        exact z_vret X hr hlk w h d_Mo_markStep_139
      · have h := h.2 c23
        refine lv_aload_n hx hb d_Mo_markStep_55 rfl (lv_at hl 1 rfl) ?_
        refine gt_19_6 X w w_fl_Mo_16 d_Mo_markStep_56 ?_
        refine lv_aload_n hx hb d_Mo_markStep_59 rfl (lv_at hl 1 rfl) ?_
        refine gt_19_15 X w w_fl_Mo_64 d_Mo_markStep_60 ?_
        obtain ⟨hi25, h⟩ := h
        refine al_22 X w hi25 d_Mo_markStep_63 ?_
        refine lv_iconst (v := 2) hx hb d_Mo_markStep_64 (by decide) ?_
        refine lv_icmp_ne (tgt := 78) hx hb d_Mo_markStep_65 (by decide) (fun c26 => ?_) (fun c26 => ?_)
        · have h := h.1 c26
          refine lv_aload_n hx hb d_Mo_markStep_78 rfl (lv_at hl 1 rfl) ?_
          refine lv_iload_n hx hb d_Mo_markStep_79 rfl (lv_at hl 0 rfl) ?_
          refine z_cVv (As := [.int x22]) (rest := []) (q0 := 0) (ci := 6) X w (c_Mo_grey l E μ20 x22 _ h) rfl rfl rfl w_ml_Mo_109 ⟨w_im_Mo_grey, w_se_Mo_grey⟩ w_in_Mo w_co_Mo_grey q_Mo_grey.1 q_Mo_grey.2 rfl ⟨Nat.le_of_ble_eq_true rfl, Nat.le_of_ble_eq_true rfl⟩ ⟨Nat.zero_le _, Nat.zero_le _⟩ hl.1 rfl (Nat.le_of_ble_eq_true rfl) d_Mo_markStep_80 (fun μ27 H locs h w => ?_)
          refine lv_goto (tgt := 139) hx hb d_Mo_markStep_83 (by decide) ?_
          exact z_vret X hr hlk w h d_Mo_markStep_139
        · have h := h.2 c26
          refine lv_aload_n hx hb d_Mo_markStep_68 rfl (lv_at hl 1 rfl) ?_
          refine gt_19_7 X w w_fl_Mo_19 d_Mo_markStep_69 ?_
          refine lv_iload_n hx hb d_Mo_markStep_72 rfl (lv_at hl 0 rfl) ?_
          refine lv_iconst (v := 1) hx hb d_Mo_markStep_73 (by decide) ?_
          obtain ⟨hi28, h⟩ := h
          refine as_23 X w hi28 d_Mo_markStep_74 (fun μ29 H locs eμ29 w => ?_)
          have h := h μ29 eμ29
          refine lv_goto (tgt := 83) hx hb d_Mo_markStep_75 (by decide) ?_
          refine lv_goto (tgt := 139) hx hb d_Mo_markStep_83 (by decide) ?_
          exact z_vret X hr hlk w h d_Mo_markStep_139
theorem q_Mo_step : (y_Mo_step.cls ≠ "java/lang/invoke/MethodHandle" ∧ y_Mo_step.cls ≠ "java/lang/invoke/VarHandle") ∧ (parseMethodDescriptor y_Mo_step.desc).map (fun d => d.parameters.length) = some 0 := by decide +kernel
theorem d_Mo_step_0 : decode prog_8_method_13_code 0 = .ok (.aload_n 0, 1) := by decide +kernel
theorem d_Mo_step_1 : decode prog_8_method_13_code 1 = .ok (.iconst 0, 1) := by decide +kernel
theorem d_Mo_step_2 : decode prog_8_method_13_code 2 = .ok (.invokevirtual 95, 3) := by decide +kernel
theorem d_Mo_step_5 : decode prog_8_method_13_code 5 = .ok (.aload_n 0, 1) := by decide +kernel
theorem d_Mo_step_6 : decode prog_8_method_13_code 6 = .ok (.getfield 61, 3) := by decide +kernel
theorem d_Mo_step_9 : decode prog_8_method_13_code 9 = .ok (.iconst 1, 1) := by decide +kernel
theorem d_Mo_step_10 : decode prog_8_method_13_code 10 = .ok (.if_icmp .ne 48, 3) := by decide +kernel
theorem d_Mo_step_13 : decode prog_8_method_13_code 13 = .ok (.aload_n 0, 1) := by decide +kernel
theorem d_Mo_step_14 : decode prog_8_method_13_code 14 = .ok (.aload_n 0, 1) := by decide +kernel
theorem d_Mo_step_15 : decode prog_8_method_13_code 15 = .ok (.getfield 29, 3) := by decide +kernel
theorem d_Mo_step_18 : decode prog_8_method_13_code 18 = .ok (.aload_n 0, 1) := by decide +kernel
theorem d_Mo_step_19 : decode prog_8_method_13_code 19 = .ok (.getfield 92, 3) := by decide +kernel
theorem d_Mo_step_22 : decode prog_8_method_13_code 22 = .ok (.iaload, 1) := by decide +kernel
theorem d_Mo_step_23 : decode prog_8_method_13_code 23 = .ok (.invokevirtual 109, 3) := by decide +kernel
theorem d_Mo_step_26 : decode prog_8_method_13_code 26 = .ok (.aload_n 0, 1) := by decide +kernel
theorem d_Mo_step_27 : decode prog_8_method_13_code 27 = .ok (.dup, 1) := by decide +kernel
theorem d_Mo_step_28 : decode prog_8_method_13_code 28 = .ok (.getfield 92, 3) := by decide +kernel
theorem d_Mo_step_31 : decode prog_8_method_13_code 31 = .ok (.iconst 1, 1) := by decide +kernel
theorem d_Mo_step_32 : decode prog_8_method_13_code 32 = .ok (.iadd, 1) := by decide +kernel
theorem d_Mo_step_33 : decode prog_8_method_13_code 33 = .ok (.putfield 92, 3) := by decide +kernel
theorem d_Mo_step_36 : decode prog_8_method_13_code 36 = .ok (.aload_n 0, 1) := by decide +kernel
theorem d_Mo_step_37 : decode prog_8_method_13_code 37 = .ok (.getfield 92, 3) := by decide +kernel
theorem d_Mo_step_40 : decode prog_8_method_13_code 40 = .ok (.bipush 16, 2) := by decide +kernel
theorem d_Mo_step_42 : decode prog_8_method_13_code 42 = .ok (.if_icmp .ne 35, 3) := by decide +kernel
theorem d_Mo_step_45 : decode prog_8_method_13_code 45 = .ok (.aload_n 0, 1) := by decide +kernel
theorem d_Mo_step_46 : decode prog_8_method_13_code 46 = .ok (.iconst 2, 1) := by decide +kernel
theorem d_Mo_step_47 : decode prog_8_method_13_code 47 = .ok (.putfield 61, 3) := by decide +kernel
theorem d_Mo_step_50 : decode prog_8_method_13_code 50 = .ok (.aload_n 0, 1) := by decide +kernel
theorem d_Mo_step_51 : decode prog_8_method_13_code 51 = .ok (.iconst (-1), 1) := by decide +kernel
theorem d_Mo_step_52 : decode prog_8_method_13_code 52 = .ok (.putfield 64, 3) := by decide +kernel
theorem d_Mo_step_55 : decode prog_8_method_13_code 55 = .ok (.goto 22, 3) := by decide +kernel
theorem d_Mo_step_58 : decode prog_8_method_13_code 58 = .ok (.aload_n 0, 1) := by decide +kernel
theorem d_Mo_step_59 : decode prog_8_method_13_code 59 = .ok (.getfield 61, 3) := by decide +kernel
theorem d_Mo_step_62 : decode prog_8_method_13_code 62 = .ok (.iconst 2, 1) := by decide +kernel
theorem d_Mo_step_63 : decode prog_8_method_13_code 63 = .ok (.if_icmp .ne 10, 3) := by decide +kernel
theorem d_Mo_step_66 : decode prog_8_method_13_code 66 = .ok (.aload_n 0, 1) := by decide +kernel
theorem d_Mo_step_67 : decode prog_8_method_13_code 67 = .ok (.invokevirtual 113, 3) := by decide +kernel
theorem d_Mo_step_70 : decode prog_8_method_13_code 70 = .ok (.goto 7, 3) := by decide +kernel
theorem d_Mo_step_73 : decode prog_8_method_13_code 73 = .ok (.aload_n 0, 1) := by decide +kernel
theorem d_Mo_step_74 : decode prog_8_method_13_code 74 = .ok (.invokevirtual 116, 3) := by decide +kernel
theorem d_Mo_step_77 : decode prog_8_method_13_code 77 = .ok (.aload_n 0, 1) := by decide +kernel
theorem d_Mo_step_78 : decode prog_8_method_13_code 78 = .ok (.getfield 61, 3) := by decide +kernel
theorem d_Mo_step_81 : decode prog_8_method_13_code 81 = .ok (.iconst 3, 1) := by decide +kernel
theorem d_Mo_step_82 : decode prog_8_method_13_code 82 = .ok (.if_icmp .ne 26, 3) := by decide +kernel
theorem d_Mo_step_85 : decode prog_8_method_13_code 85 = .ok (.aload_n 0, 1) := by decide +kernel
theorem d_Mo_step_86 : decode prog_8_method_13_code 86 = .ok (.invokevirtual 119, 3) := by decide +kernel
theorem d_Mo_step_89 : decode prog_8_method_13_code 89 = .ok (.iconst (-1), 1) := by decide +kernel
theorem d_Mo_step_90 : decode prog_8_method_13_code 90 = .ok (.if_icmp .ne 18, 3) := by decide +kernel
theorem d_Mo_step_93 : decode prog_8_method_13_code 93 = .ok (.aload_n 0, 1) := by decide +kernel
theorem d_Mo_step_94 : decode prog_8_method_13_code 94 = .ok (.iconst 0, 1) := by decide +kernel
theorem d_Mo_step_95 : decode prog_8_method_13_code 95 = .ok (.putfield 61, 3) := by decide +kernel
theorem d_Mo_step_98 : decode prog_8_method_13_code 98 = .ok (.aload_n 0, 1) := by decide +kernel
theorem d_Mo_step_99 : decode prog_8_method_13_code 99 = .ok (.dup, 1) := by decide +kernel
theorem d_Mo_step_100 : decode prog_8_method_13_code 100 = .ok (.getfield 73, 3) := by decide +kernel
theorem d_Mo_step_103 : decode prog_8_method_13_code 103 = .ok (.iconst 1, 1) := by decide +kernel
theorem d_Mo_step_104 : decode prog_8_method_13_code 104 = .ok (.iadd, 1) := by decide +kernel
theorem d_Mo_step_105 : decode prog_8_method_13_code 105 = .ok (.putfield 73, 3) := by decide +kernel
theorem d_Mo_step_108 : decode prog_8_method_13_code 108 = .ok (.return_, 1) := by decide +kernel
def f_Mo_step (μ : zM) (K : zM → Prop) : Prop := f_Mo_tick μ (0 : Int32) (fun μ1 => ((¬ (μ1 19 13) = (1 : Int32) → ((¬ (μ1 19 13) = (2 : Int32) → (f_Mo_sweepStep μ1 (fun μ4 => ((¬ (μ4 19 13) = (3 : Int32) → (K μ4)) ∧ ((μ4 19 13) = (3 : Int32) → (f_Mo_nextBlock μ4 (fun r7 μ6 => ((¬ r7 = (-1 : Int32) → (K μ6)) ∧ (r7 = (-1 : Int32) → (∀ μ9 : zM, μ9 = zp μ6 19 13 (0 : Int32) → (∀ μ10 : zM, μ10 = zp μ9 19 19 ((μ9 19 19) + (1 : Int32)) → (K μ10)))))))))))) ∧ ((μ1 19 13) = (2 : Int32) → (f_Mo_markStep μ1 (fun μ11 => ((¬ (μ11 19 13) = (3 : Int32) → (K μ11)) ∧ ((μ11 19 13) = (3 : Int32) → (f_Mo_nextBlock μ11 (fun r14 μ13 => ((¬ r14 = (-1 : Int32) → (K μ13)) ∧ (r14 = (-1 : Int32) → (∀ μ16 : zM, μ16 = zp μ13 19 13 (0 : Int32) → (∀ μ17 : zM, μ17 = zp μ16 19 19 ((μ16 19 19) + (1 : Int32)) → (K μ17)))))))))))))) ∧ ((μ1 19 13) = (1 : Int32) → (vp_in (μ1 19 14) 16 ∧ (f_Mo_grey μ1 (μ1 26 (μ1 19 14).toNatClampNeg) (fun μ19 => (∀ μ20 : zM, μ20 = zp μ19 19 14 ((μ19 19 14) + (1 : Int32)) → ((¬ (μ20 19 14) = (16 : Int32) → ((¬ (μ20 19 13) = (3 : Int32) → (K μ20)) ∧ ((μ20 19 13) = (3 : Int32) → (f_Mo_nextBlock μ20 (fun r24 μ23 => ((¬ r24 = (-1 : Int32) → (K μ23)) ∧ (r24 = (-1 : Int32) → (∀ μ26 : zM, μ26 = zp μ23 19 13 (0 : Int32) → (∀ μ27 : zM, μ27 = zp μ26 19 19 ((μ26 19 19) + (1 : Int32)) → (K μ27)))))))))) ∧ ((μ20 19 14) = (16 : Int32) → (∀ μ28 : zM, μ28 = zp μ20 19 13 (2 : Int32) → (∀ μ29 : zM, μ29 = zp μ28 19 15 (-1 : Int32) → ((¬ (μ29 19 13) = (3 : Int32) → (K μ29)) ∧ ((μ29 19 13) = (3 : Int32) → (f_Mo_nextBlock μ29 (fun r32 μ31 => ((¬ r32 = (-1 : Int32) → (K μ31)) ∧ (r32 = (-1 : Int32) → (∀ μ34 : zM, μ34 = zp μ31 19 13 (0 : Int32) → (∀ μ35 : zM, μ35 = zp μ34 19 19 ((μ34 19 19) + (1 : Int32)) → (K μ35))))))))))))))))))))
set_option maxHeartbeats 4000000 in
set_option maxRecDepth 100000 in
theorem c_Mo_step (l : Launch) (E : zE) (μ : zM) (K : zM → Prop) (h : f_Mo_step μ K) : Met l y_Mo_step (Cond.code y_Mo_step prog_8_method_13_code 1 none :: zT) { frames := 3, cells := 0, slots := 0, locals := 64 } (va_Pc [.ref (E.2.1 19)] (zR zwM E μ)) (va_Qv K (zR zwM E) (zA E)) 0 0 (zA E) := by
  refine z_head (by decide) (Nat.le_of_ble_eq_true rfl) ?_
  intro p e s m below meth c X hr hlk w ls hl
  have X : zX E p s m _ c prog_8_method_13_code "BeatHeapModel" 1 := X
  have hx := X.1
  have hb := X.2.1
  have hl : lv_has ls 1 [(0, .ref (E.2.1 19))] := hl
  unfold f_Mo_step at h
  refine lv_aload_n hx hb d_Mo_step_0 rfl (lv_at hl 0 rfl) ?_
  refine lv_iconst (v := 0) hx hb d_Mo_step_1 (by decide) ?_
  refine z_cVv (As := [.int (0 : Int32)]) (rest := []) (q0 := 0) (ci := 6) X w (c_Mo_tick l E μ (0 : Int32) _ h) rfl rfl rfl w_ml_Mo_95 ⟨w_im_Mo_tick, w_se_Mo_tick⟩ w_in_Mo w_co_Mo_tick q_Mo_tick.1 q_Mo_tick.2 rfl ⟨Nat.le_of_ble_eq_true rfl, Nat.le_of_ble_eq_true rfl⟩ ⟨Nat.zero_le _, Nat.zero_le _⟩ hl.1 rfl (Nat.le_of_ble_eq_true rfl) d_Mo_step_2 (fun μ1 H locs h w => ?_)
  refine lv_aload_n hx hb d_Mo_step_5 rfl (lv_at hl 0 rfl) ?_
  refine gt_19_13 X w w_fl_Mo_61 d_Mo_step_6 ?_
  refine lv_iconst (v := 1) hx hb d_Mo_step_9 (by decide) ?_
  refine lv_icmp_ne (tgt := 58) hx hb d_Mo_step_10 (by decide) (fun c2 => ?_) (fun c2 => ?_)
  · have h := h.1 c2
    refine lv_aload_n hx hb d_Mo_step_58 rfl (lv_at hl 0 rfl) ?_
    refine gt_19_13 X w w_fl_Mo_61 d_Mo_step_59 ?_
    refine lv_iconst (v := 2) hx hb d_Mo_step_62 (by decide) ?_
    refine lv_icmp_ne (tgt := 73) hx hb d_Mo_step_63 (by decide) (fun c3 => ?_) (fun c3 => ?_)
    · have h := h.1 c3
      refine lv_aload_n hx hb d_Mo_step_73 rfl (lv_at hl 0 rfl) ?_
      refine z_cVv (As := []) (rest := []) (q0 := 0) (ci := 6) X w (c_Mo_sweepStep l E μ1 _ h) rfl rfl rfl w_ml_Mo_116 ⟨w_im_Mo_sweepStep, w_se_Mo_sweepStep⟩ w_in_Mo w_co_Mo_sweepStep q_Mo_sweepStep.1 q_Mo_sweepStep.2 rfl ⟨Nat.le_of_ble_eq_true rfl, Nat.le_of_ble_eq_true rfl⟩ ⟨Nat.zero_le _, Nat.zero_le _⟩ hl.1 rfl (Nat.le_of_ble_eq_true rfl) d_Mo_step_74 (fun μ4 H locs h w => ?_)
      refine lv_aload_n hx hb d_Mo_step_77 rfl (lv_at hl 0 rfl) ?_
      refine gt_19_13 X w w_fl_Mo_61 d_Mo_step_78 ?_
      refine lv_iconst (v := 3) hx hb d_Mo_step_81 (by decide) ?_
      refine lv_icmp_ne (tgt := 108) hx hb d_Mo_step_82 (by decide) (fun c5 => ?_) (fun c5 => ?_)
      · have h := h.1 c5
        exact z_vret X hr hlk w h d_Mo_step_108
      · have h := h.2 c5
        refine lv_aload_n hx hb d_Mo_step_85 rfl (lv_at hl 0 rfl) ?_
        refine z_cVi (As := []) (rest := []) (q0 := 0) (ci := 6) X w (c_Mo_nextBlock l E μ4 _ h) rfl rfl rfl w_ml_Mo_119 ⟨w_im_Mo_nextBlock, w_se_Mo_nextBlock⟩ w_in_Mo w_co_Mo_nextBlock q_Mo_nextBlock.1 q_Mo_nextBlock.2 rfl ⟨Nat.le_of_ble_eq_true rfl, Nat.le_of_ble_eq_true rfl⟩ ⟨Nat.zero_le _, Nat.zero_le _⟩ hl.1 rfl (Nat.le_of_ble_eq_true rfl) d_Mo_step_86 (fun r7 μ6 H locs h w => ?_)
        refine lv_iconst (v := (-1)) hx hb d_Mo_step_89 (by decide) ?_
        refine lv_icmp_ne (tgt := 108) hx hb d_Mo_step_90 (by decide) (fun c8 => ?_) (fun c8 => ?_)
        · have h := h.1 c8
          exact z_vret X hr hlk w h d_Mo_step_108
        · have h := h.2 c8
          refine lv_aload_n hx hb d_Mo_step_93 rfl (lv_at hl 0 rfl) ?_
          refine lv_iconst (v := 0) hx hb d_Mo_step_94 (by decide) ?_
          refine pt_19_13 X w w_fl_Mo_61 d_Mo_step_95 (fun μ9 H locs eμ9 w => ?_)
          have h := h μ9 eμ9
          refine lv_aload_n hx hb d_Mo_step_98 rfl (lv_at hl 0 rfl) ?_
          refine lv_dup hx hb d_Mo_step_99 rfl ?_
          refine gt_19_19 X w w_fl_Mo_73 d_Mo_step_100 ?_
          refine lv_iconst (v := 1) hx hb d_Mo_step_103 (by decide) ?_
          refine lv_iadd hx hb d_Mo_step_104 ?_
          refine pt_19_19 X w w_fl_Mo_73 d_Mo_step_105 (fun μ10 H locs eμ10 w => ?_)
          have h := h μ10 eμ10
          exact z_vret X hr hlk w h d_Mo_step_108
    · have h := h.2 c3
      refine lv_aload_n hx hb d_Mo_step_66 rfl (lv_at hl 0 rfl) ?_
      refine z_cVv (As := []) (rest := []) (q0 := 0) (ci := 6) X w (c_Mo_markStep l E μ1 _ h) rfl rfl rfl w_ml_Mo_113 ⟨w_im_Mo_markStep, w_se_Mo_markStep⟩ w_in_Mo w_co_Mo_markStep q_Mo_markStep.1 q_Mo_markStep.2 rfl ⟨Nat.le_of_ble_eq_true rfl, Nat.le_of_ble_eq_true rfl⟩ ⟨Nat.zero_le _, Nat.zero_le _⟩ hl.1 rfl (Nat.le_of_ble_eq_true rfl) d_Mo_step_67 (fun μ11 H locs h w => ?_)
      refine lv_goto (tgt := 77) hx hb d_Mo_step_70 (by decide) ?_
      refine lv_aload_n hx hb d_Mo_step_77 rfl (lv_at hl 0 rfl) ?_
      refine gt_19_13 X w w_fl_Mo_61 d_Mo_step_78 ?_
      refine lv_iconst (v := 3) hx hb d_Mo_step_81 (by decide) ?_
      refine lv_icmp_ne (tgt := 108) hx hb d_Mo_step_82 (by decide) (fun c12 => ?_) (fun c12 => ?_)
      · have h := h.1 c12
        exact z_vret X hr hlk w h d_Mo_step_108
      · have h := h.2 c12
        refine lv_aload_n hx hb d_Mo_step_85 rfl (lv_at hl 0 rfl) ?_
        refine z_cVi (As := []) (rest := []) (q0 := 0) (ci := 6) X w (c_Mo_nextBlock l E μ11 _ h) rfl rfl rfl w_ml_Mo_119 ⟨w_im_Mo_nextBlock, w_se_Mo_nextBlock⟩ w_in_Mo w_co_Mo_nextBlock q_Mo_nextBlock.1 q_Mo_nextBlock.2 rfl ⟨Nat.le_of_ble_eq_true rfl, Nat.le_of_ble_eq_true rfl⟩ ⟨Nat.zero_le _, Nat.zero_le _⟩ hl.1 rfl (Nat.le_of_ble_eq_true rfl) d_Mo_step_86 (fun r14 μ13 H locs h w => ?_)
        refine lv_iconst (v := (-1)) hx hb d_Mo_step_89 (by decide) ?_
        refine lv_icmp_ne (tgt := 108) hx hb d_Mo_step_90 (by decide) (fun c15 => ?_) (fun c15 => ?_)
        · have h := h.1 c15
          exact z_vret X hr hlk w h d_Mo_step_108
        · have h := h.2 c15
          refine lv_aload_n hx hb d_Mo_step_93 rfl (lv_at hl 0 rfl) ?_
          refine lv_iconst (v := 0) hx hb d_Mo_step_94 (by decide) ?_
          refine pt_19_13 X w w_fl_Mo_61 d_Mo_step_95 (fun μ16 H locs eμ16 w => ?_)
          have h := h μ16 eμ16
          refine lv_aload_n hx hb d_Mo_step_98 rfl (lv_at hl 0 rfl) ?_
          refine lv_dup hx hb d_Mo_step_99 rfl ?_
          refine gt_19_19 X w w_fl_Mo_73 d_Mo_step_100 ?_
          refine lv_iconst (v := 1) hx hb d_Mo_step_103 (by decide) ?_
          refine lv_iadd hx hb d_Mo_step_104 ?_
          refine pt_19_19 X w w_fl_Mo_73 d_Mo_step_105 (fun μ17 H locs eμ17 w => ?_)
          have h := h μ17 eμ17
          exact z_vret X hr hlk w h d_Mo_step_108
  · have h := h.2 c2
    refine lv_aload_n hx hb d_Mo_step_13 rfl (lv_at hl 0 rfl) ?_
    refine lv_aload_n hx hb d_Mo_step_14 rfl (lv_at hl 0 rfl) ?_
    refine gt_19_10 X w w_fl_Mo_29 d_Mo_step_15 ?_
    refine lv_aload_n hx hb d_Mo_step_18 rfl (lv_at hl 0 rfl) ?_
    refine gt_19_14 X w w_fl_Mo_92 d_Mo_step_19 ?_
    obtain ⟨hi18, h⟩ := h
    refine al_26 X w hi18 d_Mo_step_22 ?_
    refine z_cVv (As := [.int (μ1 26 (μ1 19 14).toNatClampNeg)]) (rest := []) (q0 := 0) (ci := 6) X w (c_Mo_grey l E μ1 (μ1 26 (μ1 19 14).toNatClampNeg) _ h) rfl rfl rfl w_ml_Mo_109 ⟨w_im_Mo_grey, w_se_Mo_grey⟩ w_in_Mo w_co_Mo_grey q_Mo_grey.1 q_Mo_grey.2 rfl ⟨Nat.le_of_ble_eq_true rfl, Nat.le_of_ble_eq_true rfl⟩ ⟨Nat.zero_le _, Nat.zero_le _⟩ hl.1 rfl (Nat.le_of_ble_eq_true rfl) d_Mo_step_23 (fun μ19 H locs h w => ?_)
    refine lv_aload_n hx hb d_Mo_step_26 rfl (lv_at hl 0 rfl) ?_
    refine lv_dup hx hb d_Mo_step_27 rfl ?_
    refine gt_19_14 X w w_fl_Mo_92 d_Mo_step_28 ?_
    refine lv_iconst (v := 1) hx hb d_Mo_step_31 (by decide) ?_
    refine lv_iadd hx hb d_Mo_step_32 ?_
    refine pt_19_14 X w w_fl_Mo_92 d_Mo_step_33 (fun μ20 H locs eμ20 w => ?_)
    have h := h μ20 eμ20
    refine lv_aload_n hx hb d_Mo_step_36 rfl (lv_at hl 0 rfl) ?_
    refine gt_19_14 X w w_fl_Mo_92 d_Mo_step_37 ?_
    refine lv_bipush (v := 16) hx hb d_Mo_step_40 (by decide) ?_
    refine lv_icmp_ne (tgt := 77) hx hb d_Mo_step_42 (by decide) (fun c21 => ?_) (fun c21 => ?_)
    · have h := h.1 c21
      refine lv_aload_n hx hb d_Mo_step_77 rfl (lv_at hl 0 rfl) ?_
      refine gt_19_13 X w w_fl_Mo_61 d_Mo_step_78 ?_
      refine lv_iconst (v := 3) hx hb d_Mo_step_81 (by decide) ?_
      refine lv_icmp_ne (tgt := 108) hx hb d_Mo_step_82 (by decide) (fun c22 => ?_) (fun c22 => ?_)
      · have h := h.1 c22
        exact z_vret X hr hlk w h d_Mo_step_108
      · have h := h.2 c22
        refine lv_aload_n hx hb d_Mo_step_85 rfl (lv_at hl 0 rfl) ?_
        refine z_cVi (As := []) (rest := []) (q0 := 0) (ci := 6) X w (c_Mo_nextBlock l E μ20 _ h) rfl rfl rfl w_ml_Mo_119 ⟨w_im_Mo_nextBlock, w_se_Mo_nextBlock⟩ w_in_Mo w_co_Mo_nextBlock q_Mo_nextBlock.1 q_Mo_nextBlock.2 rfl ⟨Nat.le_of_ble_eq_true rfl, Nat.le_of_ble_eq_true rfl⟩ ⟨Nat.zero_le _, Nat.zero_le _⟩ hl.1 rfl (Nat.le_of_ble_eq_true rfl) d_Mo_step_86 (fun r24 μ23 H locs h w => ?_)
        refine lv_iconst (v := (-1)) hx hb d_Mo_step_89 (by decide) ?_
        refine lv_icmp_ne (tgt := 108) hx hb d_Mo_step_90 (by decide) (fun c25 => ?_) (fun c25 => ?_)
        · have h := h.1 c25
          exact z_vret X hr hlk w h d_Mo_step_108
        · have h := h.2 c25
          refine lv_aload_n hx hb d_Mo_step_93 rfl (lv_at hl 0 rfl) ?_
          refine lv_iconst (v := 0) hx hb d_Mo_step_94 (by decide) ?_
          refine pt_19_13 X w w_fl_Mo_61 d_Mo_step_95 (fun μ26 H locs eμ26 w => ?_)
          have h := h μ26 eμ26
          refine lv_aload_n hx hb d_Mo_step_98 rfl (lv_at hl 0 rfl) ?_
          refine lv_dup hx hb d_Mo_step_99 rfl ?_
          refine gt_19_19 X w w_fl_Mo_73 d_Mo_step_100 ?_
          refine lv_iconst (v := 1) hx hb d_Mo_step_103 (by decide) ?_
          refine lv_iadd hx hb d_Mo_step_104 ?_
          refine pt_19_19 X w w_fl_Mo_73 d_Mo_step_105 (fun μ27 H locs eμ27 w => ?_)
          have h := h μ27 eμ27
          exact z_vret X hr hlk w h d_Mo_step_108
    · have h := h.2 c21
      refine lv_aload_n hx hb d_Mo_step_45 rfl (lv_at hl 0 rfl) ?_
      refine lv_iconst (v := 2) hx hb d_Mo_step_46 (by decide) ?_
      refine pt_19_13 X w w_fl_Mo_61 d_Mo_step_47 (fun μ28 H locs eμ28 w => ?_)
      have h := h μ28 eμ28
      refine lv_aload_n hx hb d_Mo_step_50 rfl (lv_at hl 0 rfl) ?_
      refine lv_iconst (v := (-1)) hx hb d_Mo_step_51 (by decide) ?_
      refine pt_19_15 X w w_fl_Mo_64 d_Mo_step_52 (fun μ29 H locs eμ29 w => ?_)
      have h := h μ29 eμ29
      refine lv_goto (tgt := 77) hx hb d_Mo_step_55 (by decide) ?_
      refine lv_aload_n hx hb d_Mo_step_77 rfl (lv_at hl 0 rfl) ?_
      refine gt_19_13 X w w_fl_Mo_61 d_Mo_step_78 ?_
      refine lv_iconst (v := 3) hx hb d_Mo_step_81 (by decide) ?_
      refine lv_icmp_ne (tgt := 108) hx hb d_Mo_step_82 (by decide) (fun c30 => ?_) (fun c30 => ?_)
      · have h := h.1 c30
        exact z_vret X hr hlk w h d_Mo_step_108
      · have h := h.2 c30
        refine lv_aload_n hx hb d_Mo_step_85 rfl (lv_at hl 0 rfl) ?_
        refine z_cVi (As := []) (rest := []) (q0 := 0) (ci := 6) X w (c_Mo_nextBlock l E μ29 _ h) rfl rfl rfl w_ml_Mo_119 ⟨w_im_Mo_nextBlock, w_se_Mo_nextBlock⟩ w_in_Mo w_co_Mo_nextBlock q_Mo_nextBlock.1 q_Mo_nextBlock.2 rfl ⟨Nat.le_of_ble_eq_true rfl, Nat.le_of_ble_eq_true rfl⟩ ⟨Nat.zero_le _, Nat.zero_le _⟩ hl.1 rfl (Nat.le_of_ble_eq_true rfl) d_Mo_step_86 (fun r32 μ31 H locs h w => ?_)
        refine lv_iconst (v := (-1)) hx hb d_Mo_step_89 (by decide) ?_
        refine lv_icmp_ne (tgt := 108) hx hb d_Mo_step_90 (by decide) (fun c33 => ?_) (fun c33 => ?_)
        · have h := h.1 c33
          exact z_vret X hr hlk w h d_Mo_step_108
        · have h := h.2 c33
          refine lv_aload_n hx hb d_Mo_step_93 rfl (lv_at hl 0 rfl) ?_
          refine lv_iconst (v := 0) hx hb d_Mo_step_94 (by decide) ?_
          refine pt_19_13 X w w_fl_Mo_61 d_Mo_step_95 (fun μ34 H locs eμ34 w => ?_)
          have h := h μ34 eμ34
          refine lv_aload_n hx hb d_Mo_step_98 rfl (lv_at hl 0 rfl) ?_
          refine lv_dup hx hb d_Mo_step_99 rfl ?_
          refine gt_19_19 X w w_fl_Mo_73 d_Mo_step_100 ?_
          refine lv_iconst (v := 1) hx hb d_Mo_step_103 (by decide) ?_
          refine lv_iadd hx hb d_Mo_step_104 ?_
          refine pt_19_19 X w w_fl_Mo_73 d_Mo_step_105 (fun μ35 H locs eμ35 w => ?_)
          have h := h μ35 eμ35
          exact z_vret X hr hlk w h d_Mo_step_108
theorem q_Mo_did : (y_Mo_did.cls ≠ "java/lang/invoke/MethodHandle" ∧ y_Mo_did.cls ≠ "java/lang/invoke/VarHandle") ∧ (parseMethodDescriptor y_Mo_did.desc).map (fun d => d.parameters.length) = some 1 := by decide +kernel
theorem d_Mo_did_0 : decode prog_8_method_10_code 0 = .ok (.iconst 0, 1) := by decide +kernel
theorem d_Mo_did_1 : decode prog_8_method_10_code 1 = .ok (.istore_n 2, 1) := by decide +kernel
theorem d_Mo_did_2 : decode prog_8_method_10_code 2 = .ok (.iload_n 2, 1) := by decide +kernel
theorem d_Mo_did_3 : decode prog_8_method_10_code 3 = .ok (.iload_n 1, 1) := by decide +kernel
theorem d_Mo_did_4 : decode prog_8_method_10_code 4 = .ok (.if_icmp .ge 14, 3) := by decide +kernel
theorem d_Mo_did_7 : decode prog_8_method_10_code 7 = .ok (.aload_n 0, 1) := by decide +kernel
theorem d_Mo_did_8 : decode prog_8_method_10_code 8 = .ok (.iconst 1, 1) := by decide +kernel
theorem d_Mo_did_9 : decode prog_8_method_10_code 9 = .ok (.invokevirtual 95, 3) := by decide +kernel
theorem d_Mo_did_12 : decode prog_8_method_10_code 12 = .ok (.iinc 2 1, 3) := by decide +kernel
theorem d_Mo_did_15 : decode prog_8_method_10_code 15 = .ok (.goto (-13), 3) := by decide +kernel
theorem d_Mo_did_18 : decode prog_8_method_10_code 18 = .ok (.aload_n 0, 1) := by decide +kernel
theorem d_Mo_did_19 : decode prog_8_method_10_code 19 = .ok (.getfield 61, 3) := by decide +kernel
theorem d_Mo_did_22 : decode prog_8_method_10_code 22 = .ok (.ifCond .eq 70, 3) := by decide +kernel
theorem d_Mo_did_25 : decode prog_8_method_10_code 25 = .ok (.aload_n 0, 1) := by decide +kernel
theorem d_Mo_did_26 : decode prog_8_method_10_code 26 = .ok (.dup, 1) := by decide +kernel
theorem d_Mo_did_27 : decode prog_8_method_10_code 27 = .ok (.getfield 70, 3) := by decide +kernel
theorem d_Mo_did_30 : decode prog_8_method_10_code 30 = .ok (.iload_n 1, 1) := by decide +kernel
theorem d_Mo_did_31 : decode prog_8_method_10_code 31 = .ok (.isub, 1) := by decide +kernel
theorem d_Mo_did_32 : decode prog_8_method_10_code 32 = .ok (.putfield 70, 3) := by decide +kernel
theorem d_Mo_did_35 : decode prog_8_method_10_code 35 = .ok (.aload_n 0, 1) := by decide +kernel
theorem d_Mo_did_36 : decode prog_8_method_10_code 36 = .ok (.getfield 61, 3) := by decide +kernel
theorem d_Mo_did_39 : decode prog_8_method_10_code 39 = .ok (.ifCond .eq 53, 3) := by decide +kernel
theorem d_Mo_did_42 : decode prog_8_method_10_code 42 = .ok (.aload_n 0, 1) := by decide +kernel
theorem d_Mo_did_43 : decode prog_8_method_10_code 43 = .ok (.getfield 70, 3) := by decide +kernel
theorem d_Mo_did_46 : decode prog_8_method_10_code 46 = .ok (.ifCond .gt 46, 3) := by decide +kernel
theorem d_Mo_did_49 : decode prog_8_method_10_code 49 = .ok (.iconst 0, 1) := by decide +kernel
theorem d_Mo_did_50 : decode prog_8_method_10_code 50 = .ok (.istore_n 2, 1) := by decide +kernel
theorem d_Mo_did_51 : decode prog_8_method_10_code 51 = .ok (.iload_n 2, 1) := by decide +kernel
theorem d_Mo_did_52 : decode prog_8_method_10_code 52 = .ok (.aload_n 0, 1) := by decide +kernel
theorem d_Mo_did_53 : decode prog_8_method_10_code 53 = .ok (.getfield 52, 3) := by decide +kernel
theorem d_Mo_did_56 : decode prog_8_method_10_code 56 = .ok (.if_icmp .ge 20, 3) := by decide +kernel
theorem d_Mo_did_59 : decode prog_8_method_10_code 59 = .ok (.aload_n 0, 1) := by decide +kernel
theorem d_Mo_did_60 : decode prog_8_method_10_code 60 = .ok (.getfield 61, 3) := by decide +kernel
theorem d_Mo_did_63 : decode prog_8_method_10_code 63 = .ok (.ifCond .eq 13, 3) := by decide +kernel
theorem d_Mo_did_66 : decode prog_8_method_10_code 66 = .ok (.aload_n 0, 1) := by decide +kernel
theorem d_Mo_did_67 : decode prog_8_method_10_code 67 = .ok (.invokevirtual 99, 3) := by decide +kernel
theorem d_Mo_did_70 : decode prog_8_method_10_code 70 = .ok (.iinc 2 1, 3) := by decide +kernel
theorem d_Mo_did_73 : decode prog_8_method_10_code 73 = .ok (.goto (-22), 3) := by decide +kernel
theorem d_Mo_did_76 : decode prog_8_method_10_code 76 = .ok (.aload_n 0, 1) := by decide +kernel
theorem d_Mo_did_77 : decode prog_8_method_10_code 77 = .ok (.dup, 1) := by decide +kernel
theorem d_Mo_did_78 : decode prog_8_method_10_code 78 = .ok (.getfield 70, 3) := by decide +kernel
theorem d_Mo_did_81 : decode prog_8_method_10_code 81 = .ok (.aload_n 0, 1) := by decide +kernel
theorem d_Mo_did_82 : decode prog_8_method_10_code 82 = .ok (.getfield 49, 3) := by decide +kernel
theorem d_Mo_did_85 : decode prog_8_method_10_code 85 = .ok (.iadd, 1) := by decide +kernel
theorem d_Mo_did_86 : decode prog_8_method_10_code 86 = .ok (.putfield 70, 3) := by decide +kernel
theorem d_Mo_did_89 : decode prog_8_method_10_code 89 = .ok (.goto (-54), 3) := by decide +kernel
theorem d_Mo_did_92 : decode prog_8_method_10_code 92 = .ok (.aload_n 0, 1) := by decide +kernel
theorem d_Mo_did_93 : decode prog_8_method_10_code 93 = .ok (.getfield 61, 3) := by decide +kernel
theorem d_Mo_did_96 : decode prog_8_method_10_code 96 = .ok (.ifCond .ne 18, 3) := by decide +kernel
theorem d_Mo_did_99 : decode prog_8_method_10_code 99 = .ok (.aload_n 0, 1) := by decide +kernel
theorem d_Mo_did_100 : decode prog_8_method_10_code 100 = .ok (.invokevirtual 102, 3) := by decide +kernel
theorem d_Mo_did_103 : decode prog_8_method_10_code 103 = .ok (.aload_n 0, 1) := by decide +kernel
theorem d_Mo_did_104 : decode prog_8_method_10_code 104 = .ok (.getfield 55, 3) := by decide +kernel
theorem d_Mo_did_107 : decode prog_8_method_10_code 107 = .ok (.if_icmp .gt 7, 3) := by decide +kernel
theorem d_Mo_did_110 : decode prog_8_method_10_code 110 = .ok (.aload_n 0, 1) := by decide +kernel
theorem d_Mo_did_111 : decode prog_8_method_10_code 111 = .ok (.invokevirtual 106, 3) := by decide +kernel
theorem d_Mo_did_114 : decode prog_8_method_10_code 114 = .ok (.return_, 1) := by decide +kernel
noncomputable def F_Mo_did_51 (K : zM → Prop) (C35 : zM → Prop) (n : Nat) : Int32 → zM → Prop := Nat.rec (motive := fun _ => Int32 → zM → Prop) (fun _ _ => False) (fun _ ih x2 μ => ((μ 19 2) ≤ x2 → (∀ μ22 : zM, μ22 = zp μ 19 18 ((μ 19 18) + (μ 19 1)) → (C35  μ22))) ∧ (¬ (μ 19 2) ≤ x2 → (((μ 19 13) = 0 → (∀ μ24 : zM, μ24 = zp μ 19 18 ((μ 19 18) + (μ 19 1)) → (C35  μ24))) ∧ (¬ (μ 19 13) = 0 → (f_Mo_step μ (fun μ25 => (∀ x26 : Int32, x26 = x2 + 1 → (ih x26 μ25)))))))) n
noncomputable def F_Mo_did_35 (K : zM → Prop) (n : Nat) : zM → Prop := Nat.rec (motive := fun _ => zM → Prop) (fun _ => False) (fun _ ih  μ => ((μ 19 13) = 0 → ((¬ (μ 19 13) = 0 → (K μ)) ∧ ((μ 19 13) = 0 → (f_Mo_freePages μ (fun r12 μ11 => (((μ11 19 3) < r12 → (K μ11)) ∧ (¬ (μ11 19 3) < r12 → (f_Mo_beginCycle μ11 (fun μ14 => (K μ14)))))))))) ∧ (¬ (μ 19 13) = 0 → ((0 < (μ 19 18) → ((¬ (μ 19 13) = 0 → (K μ)) ∧ ((μ 19 13) = 0 → (f_Mo_freePages μ (fun r18 μ17 => (((μ17 19 3) < r18 → (K μ17)) ∧ (¬ (μ17 19 3) < r18 → (f_Mo_beginCycle μ17 (fun μ20 => (K μ20)))))))))) ∧ (¬ 0 < (μ 19 18) → (∃ n : Nat, F_Mo_did_51 K ih n (0 : Int32) μ))))) n
noncomputable def F_Mo_did_2 (K : zM → Prop) (n : Nat) : Int32 → Int32 → zM → Prop := Nat.rec (motive := fun _ => Int32 → Int32 → zM → Prop) (fun _ _ _ => False) (fun _ ih x1 x2 μ => (x1 ≤ x2 → (((μ 19 13) = 0 → ((¬ (μ 19 13) = 0 → (K μ)) ∧ ((μ 19 13) = 0 → (f_Mo_freePages μ (fun r5 μ4 => (((μ4 19 3) < r5 → (K μ4)) ∧ (¬ (μ4 19 3) < r5 → (f_Mo_beginCycle μ4 (fun μ7 => (K μ7)))))))))) ∧ (¬ (μ 19 13) = 0 → (∀ μ8 : zM, μ8 = zp μ 19 18 ((μ 19 18) - x1) → (∃ n : Nat, F_Mo_did_35 K n  μ8))))) ∧ (¬ x1 ≤ x2 → (f_Mo_tick μ (1 : Int32) (fun μ27 => (∀ x28 : Int32, x28 = x2 + 1 → (ih x1 x28 μ27)))))) n
def f_Mo_did (μ : zM) (a1 : Int32) (K : zM → Prop) : Prop := ∃ n : Nat, F_Mo_did_2 K n a1 (0 : Int32) μ
set_option maxHeartbeats 4000000 in
set_option maxRecDepth 100000 in
theorem L_Mo_did_51 {p : Program} {l : Launch} {e : Env} {s : State} {m : MethodId} {args : Array Value} {below : List Frame} {meth : Method} {c : Code} {E : zE} (X : zX E p s m args c prog_8_method_10_code "BeatHeapModel" 3) (hr : meth.sig.returnType = none) (hlk : meth.locks = false) (K : zM → Prop) (C35 : zM → Prop) (hC35 : ∀ (μ : zM) (H : Heap) (locs : List Loc) (ls : Array Slot), C35  μ → zW zwM E s μ H locs → lv_has ls 3 [(0, .ref (E.2.1 19))] → W p l e { frames := 4, cells := 0, slots := 0, locals := 84 } s m args below meth c H locs 0 0 (MQ below (va_Qv K (zR zwM E) (zA E)) args s 0 0 (zA E)) (F0 m 35 ls [])) : ∀ (n : Nat) (x2 : Int32) (μ : zM) (H : Heap) (locs : List Loc) (ls : Array Slot), F_Mo_did_51 K C35 n x2 μ → zW zwM E s μ H locs → lv_has ls 3 [(0, .ref (E.2.1 19)), (2, .int x2)] → W p l e { frames := 4, cells := 0, slots := 0, locals := 84 } s m args below meth c H locs 0 0 (MQ below (va_Qv K (zR zwM E) (zA E)) args s 0 0 (zA E)) (F0 m 51 ls []) := by
  have hx := X.1
  have hb := X.2.1
  intro n
  induction n with
  | zero => intro x2 μ H locs ls h; exact False.elim h
  | succ n ih =>
    intro x2 μ H locs ls h w hl
    refine lv_iload_n hx hb d_Mo_did_51 rfl (lv_at hl 1 rfl) ?_
    refine lv_aload_n hx hb d_Mo_did_52 rfl (lv_at hl 0 rfl) ?_
    refine gt_19_2 X w w_fl_Mo_52 d_Mo_did_53 ?_
    refine lv_icmp_ge (tgt := 76) hx hb d_Mo_did_56 (by decide) (fun c21 => ?_) (fun c21 => ?_)
    · have h := h.1 c21
      refine lv_aload_n hx hb d_Mo_did_76 rfl (lv_at hl 0 rfl) ?_
      refine lv_dup hx hb d_Mo_did_77 rfl ?_
      refine gt_19_18 X w w_fl_Mo_70 d_Mo_did_78 ?_
      refine lv_aload_n hx hb d_Mo_did_81 rfl (lv_at hl 0 rfl) ?_
      refine gt_19_1 X w w_fl_Mo_49 d_Mo_did_82 ?_
      refine lv_iadd hx hb d_Mo_did_85 ?_
      refine pt_19_18 X w w_fl_Mo_70 d_Mo_did_86 (fun μ22 H locs eμ22 w => ?_)
      have h := h μ22 eμ22
      refine lv_goto (tgt := 35) hx hb d_Mo_did_89 (by decide) ?_
      exact hC35  μ22 _ _ _ h w (lv_sub hl [0] rfl)
    · have h := h.2 c21
      refine lv_aload_n hx hb d_Mo_did_59 rfl (lv_at hl 0 rfl) ?_
      refine gt_19_13 X w w_fl_Mo_61 d_Mo_did_60 ?_
      refine lv_if_eq (tgt := 76) hx hb d_Mo_did_63 (by decide) (fun c23 => ?_) (fun c23 => ?_)
      · have h := h.1 c23
        refine lv_aload_n hx hb d_Mo_did_76 rfl (lv_at hl 0 rfl) ?_
        refine lv_dup hx hb d_Mo_did_77 rfl ?_
        refine gt_19_18 X w w_fl_Mo_70 d_Mo_did_78 ?_
        refine lv_aload_n hx hb d_Mo_did_81 rfl (lv_at hl 0 rfl) ?_
        refine gt_19_1 X w w_fl_Mo_49 d_Mo_did_82 ?_
        refine lv_iadd hx hb d_Mo_did_85 ?_
        refine pt_19_18 X w w_fl_Mo_70 d_Mo_did_86 (fun μ24 H locs eμ24 w => ?_)
        have h := h μ24 eμ24
        refine lv_goto (tgt := 35) hx hb d_Mo_did_89 (by decide) ?_
        exact hC35  μ24 _ _ _ h w (lv_sub hl [0] rfl)
      · have h := h.2 c23
        refine lv_aload_n hx hb d_Mo_did_66 rfl (lv_at hl 0 rfl) ?_
        refine z_cVv (As := []) (rest := []) (q0 := 0) (ci := 6) X w (c_Mo_step l E μ _ h) rfl rfl rfl w_ml_Mo_99 ⟨w_im_Mo_step, w_se_Mo_step⟩ w_in_Mo w_co_Mo_step q_Mo_step.1 q_Mo_step.2 rfl ⟨Nat.le_of_ble_eq_true rfl, Nat.le_of_ble_eq_true rfl⟩ ⟨Nat.zero_le _, Nat.zero_le _⟩ hl.1 rfl (Nat.le_of_ble_eq_true rfl) d_Mo_did_67 (fun μ25 H locs h w => ?_)
        obtain ⟨x26, ex26⟩ : ∃ y : Int32, y = x2 + 1 := ⟨_, rfl⟩
        have h := h x26 ex26
        refine lv_iinc (v := x26) (lv' := [(2, .int x26), (0, .ref (E.2.1 19))]) hx hb d_Mo_did_70 hl (k := 1) rfl (by rw [ex26]; rfl) (by decide) rfl (fun ls hl => ?_)
        refine lv_goto (tgt := 51) hx hb d_Mo_did_73 (by decide) ?_
        exact ih x26 μ25 _ _ _ h w (lv_sub hl [1, 0] rfl)

set_option maxHeartbeats 4000000 in
set_option maxRecDepth 100000 in
theorem L_Mo_did_35 {p : Program} {l : Launch} {e : Env} {s : State} {m : MethodId} {args : Array Value} {below : List Frame} {meth : Method} {c : Code} {E : zE} (X : zX E p s m args c prog_8_method_10_code "BeatHeapModel" 3) (hr : meth.sig.returnType = none) (hlk : meth.locks = false) (K : zM → Prop) : ∀ (n : Nat) (μ : zM) (H : Heap) (locs : List Loc) (ls : Array Slot), F_Mo_did_35 K n  μ → zW zwM E s μ H locs → lv_has ls 3 [(0, .ref (E.2.1 19))] → W p l e { frames := 4, cells := 0, slots := 0, locals := 84 } s m args below meth c H locs 0 0 (MQ below (va_Qv K (zR zwM E) (zA E)) args s 0 0 (zA E)) (F0 m 35 ls []) := by
  have hx := X.1
  have hb := X.2.1
  intro n
  induction n with
  | zero => intro  μ H locs ls h; exact False.elim h
  | succ n ih =>
    intro  μ H locs ls h w hl
    refine lv_aload_n hx hb d_Mo_did_35 rfl (lv_at hl 0 rfl) ?_
    refine gt_19_13 X w w_fl_Mo_61 d_Mo_did_36 ?_
    refine lv_if_eq (tgt := 92) hx hb d_Mo_did_39 (by decide) (fun c9 => ?_) (fun c9 => ?_)
    · have h := h.1 c9
      refine lv_aload_n hx hb d_Mo_did_92 rfl (lv_at hl 0 rfl) ?_
      refine gt_19_13 X w w_fl_Mo_61 d_Mo_did_93 ?_
      refine lv_if_ne (tgt := 114) hx hb d_Mo_did_96 (by decide) (fun c10 => ?_) (fun c10 => ?_)
      · have h := h.1 c10
        exact z_vret X hr hlk w h d_Mo_did_114
      · have h := h.2 c10
        refine lv_aload_n hx hb d_Mo_did_99 rfl (lv_at hl 0 rfl) ?_
        refine z_cVi (As := []) (rest := []) (q0 := 0) (ci := 6) X w (c_Mo_freePages l E μ _ h) rfl rfl rfl w_ml_Mo_102 ⟨w_im_Mo_freePages, w_se_Mo_freePages⟩ w_in_Mo w_co_Mo_freePages q_Mo_freePages.1 q_Mo_freePages.2 rfl ⟨Nat.le_of_ble_eq_true rfl, Nat.le_of_ble_eq_true rfl⟩ ⟨Nat.zero_le _, Nat.zero_le _⟩ hl.1 rfl (Nat.le_of_ble_eq_true rfl) d_Mo_did_100 (fun r12 μ11 H locs h w => ?_)
        refine lv_aload_n hx hb d_Mo_did_103 rfl (lv_at hl 0 rfl) ?_
        refine gt_19_3 X w w_fl_Mo_55 d_Mo_did_104 ?_
        refine lv_icmp_gt (tgt := 114) hx hb d_Mo_did_107 (by decide) (fun c13 => ?_) (fun c13 => ?_)
        · have h := h.1 c13
          exact z_vret X hr hlk w h d_Mo_did_114
        · have h := h.2 c13
          refine lv_aload_n hx hb d_Mo_did_110 rfl (lv_at hl 0 rfl) ?_
          refine z_cVv (As := []) (rest := []) (q0 := 0) (ci := 6) X w (c_Mo_beginCycle l E μ11 _ h) rfl rfl rfl w_ml_Mo_106 ⟨w_im_Mo_beginCycle, w_se_Mo_beginCycle⟩ w_in_Mo w_co_Mo_beginCycle q_Mo_beginCycle.1 q_Mo_beginCycle.2 rfl ⟨Nat.le_of_ble_eq_true rfl, Nat.le_of_ble_eq_true rfl⟩ ⟨Nat.zero_le _, Nat.zero_le _⟩ hl.1 rfl (Nat.le_of_ble_eq_true rfl) d_Mo_did_111 (fun μ14 H locs h w => ?_)
          exact z_vret X hr hlk w h d_Mo_did_114
    · have h := h.2 c9
      refine lv_aload_n hx hb d_Mo_did_42 rfl (lv_at hl 0 rfl) ?_
      refine gt_19_18 X w w_fl_Mo_70 d_Mo_did_43 ?_
      refine lv_if_gt (tgt := 92) hx hb d_Mo_did_46 (by decide) (fun c15 => ?_) (fun c15 => ?_)
      · have h := h.1 c15
        refine lv_aload_n hx hb d_Mo_did_92 rfl (lv_at hl 0 rfl) ?_
        refine gt_19_13 X w w_fl_Mo_61 d_Mo_did_93 ?_
        refine lv_if_ne (tgt := 114) hx hb d_Mo_did_96 (by decide) (fun c16 => ?_) (fun c16 => ?_)
        · have h := h.1 c16
          exact z_vret X hr hlk w h d_Mo_did_114
        · have h := h.2 c16
          refine lv_aload_n hx hb d_Mo_did_99 rfl (lv_at hl 0 rfl) ?_
          refine z_cVi (As := []) (rest := []) (q0 := 0) (ci := 6) X w (c_Mo_freePages l E μ _ h) rfl rfl rfl w_ml_Mo_102 ⟨w_im_Mo_freePages, w_se_Mo_freePages⟩ w_in_Mo w_co_Mo_freePages q_Mo_freePages.1 q_Mo_freePages.2 rfl ⟨Nat.le_of_ble_eq_true rfl, Nat.le_of_ble_eq_true rfl⟩ ⟨Nat.zero_le _, Nat.zero_le _⟩ hl.1 rfl (Nat.le_of_ble_eq_true rfl) d_Mo_did_100 (fun r18 μ17 H locs h w => ?_)
          refine lv_aload_n hx hb d_Mo_did_103 rfl (lv_at hl 0 rfl) ?_
          refine gt_19_3 X w w_fl_Mo_55 d_Mo_did_104 ?_
          refine lv_icmp_gt (tgt := 114) hx hb d_Mo_did_107 (by decide) (fun c19 => ?_) (fun c19 => ?_)
          · have h := h.1 c19
            exact z_vret X hr hlk w h d_Mo_did_114
          · have h := h.2 c19
            refine lv_aload_n hx hb d_Mo_did_110 rfl (lv_at hl 0 rfl) ?_
            refine z_cVv (As := []) (rest := []) (q0 := 0) (ci := 6) X w (c_Mo_beginCycle l E μ17 _ h) rfl rfl rfl w_ml_Mo_106 ⟨w_im_Mo_beginCycle, w_se_Mo_beginCycle⟩ w_in_Mo w_co_Mo_beginCycle q_Mo_beginCycle.1 q_Mo_beginCycle.2 rfl ⟨Nat.le_of_ble_eq_true rfl, Nat.le_of_ble_eq_true rfl⟩ ⟨Nat.zero_le _, Nat.zero_le _⟩ hl.1 rfl (Nat.le_of_ble_eq_true rfl) d_Mo_did_111 (fun μ20 H locs h w => ?_)
            exact z_vret X hr hlk w h d_Mo_did_114
      · have h := h.2 c15
        refine lv_iconst (v := 0) hx hb d_Mo_did_49 (by decide) ?_
        refine lv_istore_n (lv' := [(2, .int (0 : Int32)), (0, .ref (E.2.1 19))]) hx hb d_Mo_did_50 rfl hl (by decide) rfl (fun ls hl => ?_)
        obtain ⟨n, h⟩ := h
        exact L_Mo_did_51 X hr hlk K _ ih n (0 : Int32) μ _ _ _ h w (lv_sub hl [1, 0] rfl)

set_option maxHeartbeats 4000000 in
set_option maxRecDepth 100000 in
theorem L_Mo_did_2 {p : Program} {l : Launch} {e : Env} {s : State} {m : MethodId} {args : Array Value} {below : List Frame} {meth : Method} {c : Code} {E : zE} (X : zX E p s m args c prog_8_method_10_code "BeatHeapModel" 3) (hr : meth.sig.returnType = none) (hlk : meth.locks = false) (K : zM → Prop) : ∀ (n : Nat) (x1 x2 : Int32) (μ : zM) (H : Heap) (locs : List Loc) (ls : Array Slot), F_Mo_did_2 K n x1 x2 μ → zW zwM E s μ H locs → lv_has ls 3 [(0, .ref (E.2.1 19)), (1, .int x1), (2, .int x2)] → W p l e { frames := 4, cells := 0, slots := 0, locals := 84 } s m args below meth c H locs 0 0 (MQ below (va_Qv K (zR zwM E) (zA E)) args s 0 0 (zA E)) (F0 m 2 ls []) := by
  have hx := X.1
  have hb := X.2.1
  intro n
  induction n with
  | zero => intro x1 x2 μ H locs ls h; exact False.elim h
  | succ n ih =>
    intro x1 x2 μ H locs ls h w hl
    refine lv_iload_n hx hb d_Mo_did_2 rfl (lv_at hl 2 rfl) ?_
    refine lv_iload_n hx hb d_Mo_did_3 rfl (lv_at hl 1 rfl) ?_
    refine lv_icmp_ge (tgt := 18) hx hb d_Mo_did_4 (by decide) (fun c1 => ?_) (fun c1 => ?_)
    · have h := h.1 c1
      refine lv_aload_n hx hb d_Mo_did_18 rfl (lv_at hl 0 rfl) ?_
      refine gt_19_13 X w w_fl_Mo_61 d_Mo_did_19 ?_
      refine lv_if_eq (tgt := 92) hx hb d_Mo_did_22 (by decide) (fun c2 => ?_) (fun c2 => ?_)
      · have h := h.1 c2
        refine lv_aload_n hx hb d_Mo_did_92 rfl (lv_at hl 0 rfl) ?_
        refine gt_19_13 X w w_fl_Mo_61 d_Mo_did_93 ?_
        refine lv_if_ne (tgt := 114) hx hb d_Mo_did_96 (by decide) (fun c3 => ?_) (fun c3 => ?_)
        · have h := h.1 c3
          exact z_vret X hr hlk w h d_Mo_did_114
        · have h := h.2 c3
          refine lv_aload_n hx hb d_Mo_did_99 rfl (lv_at hl 0 rfl) ?_
          refine z_cVi (As := []) (rest := []) (q0 := 0) (ci := 6) X w (c_Mo_freePages l E μ _ h) rfl rfl rfl w_ml_Mo_102 ⟨w_im_Mo_freePages, w_se_Mo_freePages⟩ w_in_Mo w_co_Mo_freePages q_Mo_freePages.1 q_Mo_freePages.2 rfl ⟨Nat.le_of_ble_eq_true rfl, Nat.le_of_ble_eq_true rfl⟩ ⟨Nat.zero_le _, Nat.zero_le _⟩ hl.1 rfl (Nat.le_of_ble_eq_true rfl) d_Mo_did_100 (fun r5 μ4 H locs h w => ?_)
          refine lv_aload_n hx hb d_Mo_did_103 rfl (lv_at hl 0 rfl) ?_
          refine gt_19_3 X w w_fl_Mo_55 d_Mo_did_104 ?_
          refine lv_icmp_gt (tgt := 114) hx hb d_Mo_did_107 (by decide) (fun c6 => ?_) (fun c6 => ?_)
          · have h := h.1 c6
            exact z_vret X hr hlk w h d_Mo_did_114
          · have h := h.2 c6
            refine lv_aload_n hx hb d_Mo_did_110 rfl (lv_at hl 0 rfl) ?_
            refine z_cVv (As := []) (rest := []) (q0 := 0) (ci := 6) X w (c_Mo_beginCycle l E μ4 _ h) rfl rfl rfl w_ml_Mo_106 ⟨w_im_Mo_beginCycle, w_se_Mo_beginCycle⟩ w_in_Mo w_co_Mo_beginCycle q_Mo_beginCycle.1 q_Mo_beginCycle.2 rfl ⟨Nat.le_of_ble_eq_true rfl, Nat.le_of_ble_eq_true rfl⟩ ⟨Nat.zero_le _, Nat.zero_le _⟩ hl.1 rfl (Nat.le_of_ble_eq_true rfl) d_Mo_did_111 (fun μ7 H locs h w => ?_)
            exact z_vret X hr hlk w h d_Mo_did_114
      · have h := h.2 c2
        refine lv_aload_n hx hb d_Mo_did_25 rfl (lv_at hl 0 rfl) ?_
        refine lv_dup hx hb d_Mo_did_26 rfl ?_
        refine gt_19_18 X w w_fl_Mo_70 d_Mo_did_27 ?_
        refine lv_iload_n hx hb d_Mo_did_30 rfl (lv_at hl 1 rfl) ?_
        refine lv_isub hx hb d_Mo_did_31 ?_
        refine pt_19_18 X w w_fl_Mo_70 d_Mo_did_32 (fun μ8 H locs eμ8 w => ?_)
        have h := h μ8 eμ8
        obtain ⟨n, h⟩ := h
        exact L_Mo_did_35 X hr hlk K n  μ8 _ _ _ h w (lv_sub hl [0] rfl)
    · have h := h.2 c1
      refine lv_aload_n hx hb d_Mo_did_7 rfl (lv_at hl 0 rfl) ?_
      refine lv_iconst (v := 1) hx hb d_Mo_did_8 (by decide) ?_
      refine z_cVv (As := [.int (1 : Int32)]) (rest := []) (q0 := 0) (ci := 6) X w (c_Mo_tick l E μ (1 : Int32) _ h) rfl rfl rfl w_ml_Mo_95 ⟨w_im_Mo_tick, w_se_Mo_tick⟩ w_in_Mo w_co_Mo_tick q_Mo_tick.1 q_Mo_tick.2 rfl ⟨Nat.le_of_ble_eq_true rfl, Nat.le_of_ble_eq_true rfl⟩ ⟨Nat.zero_le _, Nat.zero_le _⟩ hl.1 rfl (Nat.le_of_ble_eq_true rfl) d_Mo_did_9 (fun μ27 H locs h w => ?_)
      obtain ⟨x28, ex28⟩ : ∃ y : Int32, y = x2 + 1 := ⟨_, rfl⟩
      have h := h x28 ex28
      refine lv_iinc (v := x28) (lv' := [(2, .int x28), (0, .ref (E.2.1 19)), (1, .int x1)]) hx hb d_Mo_did_12 hl (k := 2) rfl (by rw [ex28]; rfl) (by decide) rfl (fun ls hl => ?_)
      refine lv_goto (tgt := 2) hx hb d_Mo_did_15 (by decide) ?_
      exact ih x1 x28 μ27 _ _ _ h w (lv_sub hl [1, 2, 0] rfl)

set_option maxHeartbeats 4000000 in
set_option maxRecDepth 100000 in
theorem c_Mo_did (l : Launch) (E : zE) (μ : zM) (a1 : Int32) (K : zM → Prop) (h : f_Mo_did μ a1 K) : Met l y_Mo_did (Cond.code y_Mo_did prog_8_method_10_code 3 none :: zT) { frames := 4, cells := 0, slots := 0, locals := 84 } (va_Pc [.ref (E.2.1 19), .int a1] (zR zwM E μ)) (va_Qv K (zR zwM E) (zA E)) 0 0 (zA E) := by
  refine z_head (by decide) (Nat.le_of_ble_eq_true rfl) ?_
  intro p e s m below meth c X hr hlk w ls hl
  have X : zX E p s m _ c prog_8_method_10_code "BeatHeapModel" 3 := X
  have hx := X.1
  have hb := X.2.1
  have hl : lv_has ls 3 [(0, .ref (E.2.1 19)), (1, .int a1)] := hl
  unfold f_Mo_did at h
  refine lv_iconst (v := 0) hx hb d_Mo_did_0 (by decide) ?_
  refine lv_istore_n (lv' := [(2, .int (0 : Int32)), (0, .ref (E.2.1 19)), (1, .int a1)]) hx hb d_Mo_did_1 rfl hl (by decide) rfl (fun ls hl => ?_)
  obtain ⟨n, h⟩ := h
  exact L_Mo_did_2 X hr hlk K n a1 (0 : Int32) μ _ _ _ h w (lv_sub hl [1, 2, 0] rfl)
theorem q_Mo_failed : (y_Mo_failed.cls ≠ "java/lang/invoke/MethodHandle" ∧ y_Mo_failed.cls ≠ "java/lang/invoke/VarHandle") ∧ (parseMethodDescriptor y_Mo_failed.desc).map (fun d => d.parameters.length) = some 0 := by decide +kernel
theorem d_Mo_failed_0 : decode prog_8_method_22_code 0 = .ok (.aload_n 0, 1) := by decide +kernel
theorem d_Mo_failed_1 : decode prog_8_method_22_code 1 = .ok (.getfield 61, 3) := by decide +kernel
theorem d_Mo_failed_4 : decode prog_8_method_22_code 4 = .ok (.ifCond .ne 7, 3) := by decide +kernel
theorem d_Mo_failed_7 : decode prog_8_method_22_code 7 = .ok (.aload_n 0, 1) := by decide +kernel
theorem d_Mo_failed_8 : decode prog_8_method_22_code 8 = .ok (.invokevirtual 106, 3) := by decide +kernel
theorem d_Mo_failed_11 : decode prog_8_method_22_code 11 = .ok (.iconst 0, 1) := by decide +kernel
theorem d_Mo_failed_12 : decode prog_8_method_22_code 12 = .ok (.ireturn, 1) := by decide +kernel
def f_Mo_failed (μ : zM) (K : Int32 → zM → Prop) : Prop := (¬ (μ 19 13) = 0 → (K (0 : Int32) μ)) ∧ ((μ 19 13) = 0 → (f_Mo_beginCycle μ (fun μ2 => (K (0 : Int32) μ2))))
set_option maxHeartbeats 4000000 in
set_option maxRecDepth 100000 in
theorem c_Mo_failed (l : Launch) (E : zE) (μ : zM) (K : Int32 → zM → Prop) (h : f_Mo_failed μ K) : Met l y_Mo_failed (Cond.code y_Mo_failed prog_8_method_22_code 1 (some .int) :: zT) { frames := 1, cells := 0, slots := 0, locals := 20 } (va_Pc [.ref (E.2.1 19)] (zR zwM E μ)) (va_Qi K (zR zwM E) (zA E)) 0 0 (zA E) := by
  refine z_head (by decide) (Nat.le_of_ble_eq_true rfl) ?_
  intro p e s m below meth c X hr hlk w ls hl
  have X : zX E p s m _ c prog_8_method_22_code "BeatHeapModel" 1 := X
  have hx := X.1
  have hb := X.2.1
  have hl : lv_has ls 1 [(0, .ref (E.2.1 19))] := hl
  unfold f_Mo_failed at h
  refine lv_aload_n hx hb d_Mo_failed_0 rfl (lv_at hl 0 rfl) ?_
  refine gt_19_13 X w w_fl_Mo_61 d_Mo_failed_1 ?_
  refine lv_if_ne (tgt := 11) hx hb d_Mo_failed_4 (by decide) (fun c1 => ?_) (fun c1 => ?_)
  · have h := h.1 c1
    refine lv_iconst (v := 0) hx hb d_Mo_failed_11 (by decide) ?_
    exact z_iret X hr hlk w h d_Mo_failed_12
  · have h := h.2 c1
    refine lv_aload_n hx hb d_Mo_failed_7 rfl (lv_at hl 0 rfl) ?_
    refine z_cVv (As := []) (rest := []) (q0 := 0) (ci := 6) X w (c_Mo_beginCycle l E μ _ h) rfl rfl rfl w_ml_Mo_106 ⟨w_im_Mo_beginCycle, w_se_Mo_beginCycle⟩ w_in_Mo w_co_Mo_beginCycle q_Mo_beginCycle.1 q_Mo_beginCycle.2 rfl ⟨Nat.le_of_ble_eq_true rfl, Nat.le_of_ble_eq_true rfl⟩ ⟨Nat.zero_le _, Nat.zero_le _⟩ hl.1 rfl (Nat.le_of_ble_eq_true rfl) d_Mo_failed_8 (fun μ2 H locs h w => ?_)
    refine lv_iconst (v := 0) hx hb d_Mo_failed_11 (by decide) ?_
    exact z_iret X hr hlk w h d_Mo_failed_12
