theorem q_Co_spend : (y_Co_spend.cls ≠ "java/lang/invoke/MethodHandle" ∧ y_Co_spend.cls ≠ "java/lang/invoke/VarHandle") ∧ (parseMethodDescriptor y_Co_spend.desc).map (fun d => d.parameters.length) = some 1 := by decide +kernel
theorem d_Co_spend_0 : decode prog_4_method_6_code 0 = .ok (.aload_n 0, 1) := by decide +kernel
theorem d_Co_spend_1 : decode prog_4_method_6_code 1 = .ok (.getfield 21, 3) := by decide +kernel
theorem d_Co_spend_4 : decode prog_4_method_6_code 4 = .ok (.iload_n 1, 1) := by decide +kernel
theorem d_Co_spend_5 : decode prog_4_method_6_code 5 = .ok (.invokevirtual 80, 3) := by decide +kernel
theorem d_Co_spend_8 : decode prog_4_method_6_code 8 = .ok (.aload_n 0, 1) := by decide +kernel
theorem d_Co_spend_9 : decode prog_4_method_6_code 9 = .ok (.getfield 55, 3) := by decide +kernel
theorem d_Co_spend_12 : decode prog_4_method_6_code 12 = .ok (.ifCond .eq 13, 3) := by decide +kernel
theorem d_Co_spend_15 : decode prog_4_method_6_code 15 = .ok (.aload_n 0, 1) := by decide +kernel
theorem d_Co_spend_16 : decode prog_4_method_6_code 16 = .ok (.dup, 1) := by decide +kernel
theorem d_Co_spend_17 : decode prog_4_method_6_code 17 = .ok (.getfield 58, 3) := by decide +kernel
theorem d_Co_spend_20 : decode prog_4_method_6_code 20 = .ok (.iload_n 1, 1) := by decide +kernel
theorem d_Co_spend_21 : decode prog_4_method_6_code 21 = .ok (.isub, 1) := by decide +kernel
theorem d_Co_spend_22 : decode prog_4_method_6_code 22 = .ok (.putfield 58, 3) := by decide +kernel
theorem d_Co_spend_25 : decode prog_4_method_6_code 25 = .ok (.iconst 0, 1) := by decide +kernel
theorem d_Co_spend_26 : decode prog_4_method_6_code 26 = .ok (.istore_n 2, 1) := by decide +kernel
theorem d_Co_spend_27 : decode prog_4_method_6_code 27 = .ok (.iload_n 2, 1) := by decide +kernel
theorem d_Co_spend_28 : decode prog_4_method_6_code 28 = .ok (.sipush 1000, 3) := by decide +kernel
theorem d_Co_spend_31 : decode prog_4_method_6_code 31 = .ok (.if_icmp .ge 63, 3) := by decide +kernel
theorem d_Co_spend_34 : decode prog_4_method_6_code 34 = .ok (.aload_n 0, 1) := by decide +kernel
theorem d_Co_spend_35 : decode prog_4_method_6_code 35 = .ok (.getfield 55, 3) := by decide +kernel
theorem d_Co_spend_38 : decode prog_4_method_6_code 38 = .ok (.ifCond .eq 56, 3) := by decide +kernel
theorem d_Co_spend_41 : decode prog_4_method_6_code 41 = .ok (.aload_n 0, 1) := by decide +kernel
theorem d_Co_spend_42 : decode prog_4_method_6_code 42 = .ok (.getfield 58, 3) := by decide +kernel
theorem d_Co_spend_45 : decode prog_4_method_6_code 45 = .ok (.ifCond .gt 49, 3) := by decide +kernel
theorem d_Co_spend_48 : decode prog_4_method_6_code 48 = .ok (.aload_n 0, 1) := by decide +kernel
theorem d_Co_spend_49 : decode prog_4_method_6_code 49 = .ok (.dup, 1) := by decide +kernel
theorem d_Co_spend_50 : decode prog_4_method_6_code 50 = .ok (.getfield 58, 3) := by decide +kernel
theorem d_Co_spend_53 : decode prog_4_method_6_code 53 = .ok (.aload_n 0, 1) := by decide +kernel
theorem d_Co_spend_54 : decode prog_4_method_6_code 54 = .ok (.getfield 36, 3) := by decide +kernel
theorem d_Co_spend_57 : decode prog_4_method_6_code 57 = .ok (.iadd, 1) := by decide +kernel
theorem d_Co_spend_58 : decode prog_4_method_6_code 58 = .ok (.putfield 58, 3) := by decide +kernel
theorem d_Co_spend_61 : decode prog_4_method_6_code 61 = .ok (.iconst 0, 1) := by decide +kernel
theorem d_Co_spend_62 : decode prog_4_method_6_code 62 = .ok (.istore_n 3, 1) := by decide +kernel
theorem d_Co_spend_63 : decode prog_4_method_6_code 63 = .ok (.iload_n 3, 1) := by decide +kernel
theorem d_Co_spend_64 : decode prog_4_method_6_code 64 = .ok (.aload_n 0, 1) := by decide +kernel
theorem d_Co_spend_65 : decode prog_4_method_6_code 65 = .ok (.getfield 40, 3) := by decide +kernel
theorem d_Co_spend_68 : decode prog_4_method_6_code 68 = .ok (.if_icmp .ge 20, 3) := by decide +kernel
theorem d_Co_spend_71 : decode prog_4_method_6_code 71 = .ok (.aload_n 0, 1) := by decide +kernel
theorem d_Co_spend_72 : decode prog_4_method_6_code 72 = .ok (.getfield 55, 3) := by decide +kernel
theorem d_Co_spend_75 : decode prog_4_method_6_code 75 = .ok (.ifCond .eq 13, 3) := by decide +kernel
theorem d_Co_spend_78 : decode prog_4_method_6_code 78 = .ok (.aload_n 0, 1) := by decide +kernel
theorem d_Co_spend_79 : decode prog_4_method_6_code 79 = .ok (.invokevirtual 84, 3) := by decide +kernel
theorem d_Co_spend_82 : decode prog_4_method_6_code 82 = .ok (.iinc 3 1, 3) := by decide +kernel
theorem d_Co_spend_85 : decode prog_4_method_6_code 85 = .ok (.goto (-22), 3) := by decide +kernel
theorem d_Co_spend_88 : decode prog_4_method_6_code 88 = .ok (.iinc 2 1, 3) := by decide +kernel
theorem d_Co_spend_91 : decode prog_4_method_6_code 91 = .ok (.goto (-64), 3) := by decide +kernel
theorem d_Co_spend_94 : decode prog_4_method_6_code 94 = .ok (.aload_n 0, 1) := by decide +kernel
theorem d_Co_spend_95 : decode prog_4_method_6_code 95 = .ok (.getfield 55, 3) := by decide +kernel
theorem d_Co_spend_98 : decode prog_4_method_6_code 98 = .ok (.ifCond .ne 22, 3) := by decide +kernel
theorem d_Co_spend_101 : decode prog_4_method_6_code 101 = .ok (.aload_n 0, 1) := by decide +kernel
theorem d_Co_spend_102 : decode prog_4_method_6_code 102 = .ok (.getfield 12, 3) := by decide +kernel
theorem d_Co_spend_105 : decode prog_4_method_6_code 105 = .ok (.getfield 87, 3) := by decide +kernel
theorem d_Co_spend_108 : decode prog_4_method_6_code 108 = .ok (.aload_n 0, 1) := by decide +kernel
theorem d_Co_spend_109 : decode prog_4_method_6_code 109 = .ok (.getfield 43, 3) := by decide +kernel
theorem d_Co_spend_112 : decode prog_4_method_6_code 112 = .ok (.if_icmp .gt 8, 3) := by decide +kernel
theorem d_Co_spend_115 : decode prog_4_method_6_code 115 = .ok (.aload_n 0, 1) := by decide +kernel
theorem d_Co_spend_116 : decode prog_4_method_6_code 116 = .ok (.invokevirtual 90, 3) := by decide +kernel
theorem d_Co_spend_119 : decode prog_4_method_6_code 119 = .ok (.pop, 1) := by decide +kernel
theorem d_Co_spend_120 : decode prog_4_method_6_code 120 = .ok (.return_, 1) := by decide +kernel
noncomputable def F_Co_spend_63 (K : zM → Prop) (C27 : Int32 → zM → Prop) (n : Nat) : Int32 → Int32 → zM → Prop := Nat.rec (motive := fun _ => Int32 → Int32 → zM → Prop) (fun _ _ _ => False) (fun _ ih x2 x3 μ => ((μ 1 5) ≤ x3 → (∀ x20 : Int32, x20 = x2 + 1 → (C27 x20 μ))) ∧ (¬ (μ 1 5) ≤ x3 → (((μ 1 7) = 0 → (∀ x22 : Int32, x22 = x2 + 1 → (C27 x22 μ))) ∧ (¬ (μ 1 7) = 0 → (f_Co_step μ (fun μ23 => (∀ x24 : Int32, x24 = x3 + 1 → (ih x2 x24 μ23)))))))) n
noncomputable def F_Co_spend_27 (K : zM → Prop) (n : Nat) : Int32 → zM → Prop := Nat.rec (motive := fun _ => Int32 → zM → Prop) (fun _ _ => False) (fun _ ih x2 μ => ((1000 : Int32) ≤ x2 → ((¬ (μ 1 7) = 0 → (K μ)) ∧ ((μ 1 7) = 0 → (((μ 1 6) < (μ 2 8) → (K μ)) ∧ (¬ (μ 1 6) < (μ 2 8) → (f_Co_beginCycle μ (fun r7 μ6 => (K μ6)))))))) ∧ (¬ (1000 : Int32) ≤ x2 → (((μ 1 7) = 0 → ((¬ (μ 1 7) = 0 → (K μ)) ∧ ((μ 1 7) = 0 → (((μ 1 6) < (μ 2 8) → (K μ)) ∧ (¬ (μ 1 6) < (μ 2 8) → (f_Co_beginCycle μ (fun r12 μ11 => (K μ11)))))))) ∧ (¬ (μ 1 7) = 0 → ((0 < (μ 1 8) → ((¬ (μ 1 7) = 0 → (K μ)) ∧ ((μ 1 7) = 0 → (((μ 1 6) < (μ 2 8) → (K μ)) ∧ (¬ (μ 1 6) < (μ 2 8) → (f_Co_beginCycle μ (fun r17 μ16 => (K μ16)))))))) ∧ (¬ 0 < (μ 1 8) → (∀ μ18 : zM, μ18 = zp μ 1 8 ((μ 1 8) + (μ 1 4)) → (∃ n : Nat, F_Co_spend_63 K ih n x2 (0 : Int32) μ18)))))))) n
def f_Co_spend (μ : zM) (a1 : Int32) (K : zM → Prop) : Prop := f_Ck_programTicks μ a1 (fun μ1 => (((μ1 1 7) = 0 → (∃ n : Nat, F_Co_spend_27 K n (0 : Int32) μ1)) ∧ (¬ (μ1 1 7) = 0 → (∀ μ25 : zM, μ25 = zp μ1 1 8 ((μ1 1 8) - a1) → (∃ n : Nat, F_Co_spend_27 K n (0 : Int32) μ25)))))
set_option maxHeartbeats 4000000 in
set_option maxRecDepth 100000 in
theorem L_Co_spend_63 {p : Program} {l : Launch} {e : Env} {s : State} {m : MethodId} {args : Array Value} {below : List Frame} {meth : Method} {c : Code} {E : zE} (X : zX E p s m args c prog_4_method_6_code "BeatHeap$Collector" 4) (hr : meth.sig.returnType = none) (hlk : meth.locks = false) (K : zM → Prop) (C27 : Int32 → zM → Prop) (hC27 : ∀ (x2 : Int32) (μ : zM) (H : Heap) (locs : List Loc) (ls : Array Slot), C27 x2 μ → zW zwC E s μ H locs → lv_has ls 4 [(0, .ref (E.2.1 1)), (2, .int x2)] → W p l e { frames := 5, cells := 0, slots := 0, locals := 108 } s m args below meth c H locs 0 0 (MQ below (va_Qv K (zR zwC E) (zA E)) args s 0 0 (zA E)) (F0 m 27 ls [])) : ∀ (n : Nat) (x2 x3 : Int32) (μ : zM) (H : Heap) (locs : List Loc) (ls : Array Slot), F_Co_spend_63 K C27 n x2 x3 μ → zW zwC E s μ H locs → lv_has ls 4 [(0, .ref (E.2.1 1)), (2, .int x2), (3, .int x3)] → W p l e { frames := 5, cells := 0, slots := 0, locals := 108 } s m args below meth c H locs 0 0 (MQ below (va_Qv K (zR zwC E) (zA E)) args s 0 0 (zA E)) (F0 m 63 ls []) := by
  have hx := X.1
  have hb := X.2.1
  intro n
  induction n with
  | zero => intro x2 x3 μ H locs ls h; exact False.elim h
  | succ n ih =>
    intro x2 x3 μ H locs ls h w hl
    refine lv_iload_n hx hb d_Co_spend_63 rfl (lv_at hl 2 rfl) ?_
    refine lv_aload_n hx hb d_Co_spend_64 rfl (lv_at hl 0 rfl) ?_
    refine gt_1_5 X w w_fl_Co_40 d_Co_spend_65 ?_
    refine lv_icmp_ge (tgt := 88) hx hb d_Co_spend_68 (by decide) (fun c19 => ?_) (fun c19 => ?_)
    · have h := h.1 c19
      obtain ⟨x20, ex20⟩ : ∃ y : Int32, y = x2 + 1 := ⟨_, rfl⟩
      have h := h x20 ex20
      refine lv_iinc (v := x20) (lv' := [(2, .int x20), (0, .ref (E.2.1 1)), (3, .int x3)]) hx hb d_Co_spend_88 hl (k := 1) rfl (by rw [ex20]; rfl) (by decide) rfl (fun ls hl => ?_)
      refine lv_goto (tgt := 27) hx hb d_Co_spend_91 (by decide) ?_
      exact hC27 x20 μ _ _ _ h w (lv_sub hl [1, 0] rfl)
    · have h := h.2 c19
      refine lv_aload_n hx hb d_Co_spend_71 rfl (lv_at hl 0 rfl) ?_
      refine gt_1_7 X w w_fl_Co_55 d_Co_spend_72 ?_
      refine lv_if_eq (tgt := 88) hx hb d_Co_spend_75 (by decide) (fun c21 => ?_) (fun c21 => ?_)
      · have h := h.1 c21
        obtain ⟨x22, ex22⟩ : ∃ y : Int32, y = x2 + 1 := ⟨_, rfl⟩
        have h := h x22 ex22
        refine lv_iinc (v := x22) (lv' := [(2, .int x22), (0, .ref (E.2.1 1)), (3, .int x3)]) hx hb d_Co_spend_88 hl (k := 1) rfl (by rw [ex22]; rfl) (by decide) rfl (fun ls hl => ?_)
        refine lv_goto (tgt := 27) hx hb d_Co_spend_91 (by decide) ?_
        exact hC27 x22 μ _ _ _ h w (lv_sub hl [1, 0] rfl)
      · have h := h.2 c21
        refine lv_aload_n hx hb d_Co_spend_78 rfl (lv_at hl 0 rfl) ?_
        refine z_cVv (As := []) (rest := []) (q0 := 1) (ci := 2) X w (c_Co_step l E μ _ h) rfl rfl rfl w_ml_Co_84 ⟨w_im_Co_step, w_se_Co_step⟩ w_in_Co w_co_Co_step q_Co_step.1 q_Co_step.2 rfl ⟨Nat.le_of_ble_eq_true rfl, Nat.le_of_ble_eq_true rfl⟩ ⟨Nat.zero_le _, Nat.zero_le _⟩ hl.1 rfl (Nat.le_of_ble_eq_true rfl) d_Co_spend_79 (fun μ23 H locs h w => ?_)
        obtain ⟨x24, ex24⟩ : ∃ y : Int32, y = x3 + 1 := ⟨_, rfl⟩
        have h := h x24 ex24
        refine lv_iinc (v := x24) (lv' := [(3, .int x24), (0, .ref (E.2.1 1)), (2, .int x2)]) hx hb d_Co_spend_82 hl (k := 2) rfl (by rw [ex24]; rfl) (by decide) rfl (fun ls hl => ?_)
        refine lv_goto (tgt := 63) hx hb d_Co_spend_85 (by decide) ?_
        exact ih x2 x24 μ23 _ _ _ h w (lv_sub hl [1, 2, 0] rfl)

set_option maxHeartbeats 4000000 in
set_option maxRecDepth 100000 in
theorem L_Co_spend_27 {p : Program} {l : Launch} {e : Env} {s : State} {m : MethodId} {args : Array Value} {below : List Frame} {meth : Method} {c : Code} {E : zE} (X : zX E p s m args c prog_4_method_6_code "BeatHeap$Collector" 4) (hr : meth.sig.returnType = none) (hlk : meth.locks = false) (K : zM → Prop) : ∀ (n : Nat) (x2 : Int32) (μ : zM) (H : Heap) (locs : List Loc) (ls : Array Slot), F_Co_spend_27 K n x2 μ → zW zwC E s μ H locs → lv_has ls 4 [(0, .ref (E.2.1 1)), (2, .int x2)] → W p l e { frames := 5, cells := 0, slots := 0, locals := 108 } s m args below meth c H locs 0 0 (MQ below (va_Qv K (zR zwC E) (zA E)) args s 0 0 (zA E)) (F0 m 27 ls []) := by
  have hx := X.1
  have hb := X.2.1
  intro n
  induction n with
  | zero => intro x2 μ H locs ls h; exact False.elim h
  | succ n ih =>
    intro x2 μ H locs ls h w hl
    refine lv_iload_n hx hb d_Co_spend_27 rfl (lv_at hl 1 rfl) ?_
    refine lv_sipush (v := 1000) hx hb d_Co_spend_28 (by decide) ?_
    refine lv_icmp_ge (tgt := 94) hx hb d_Co_spend_31 (by decide) (fun c3 => ?_) (fun c3 => ?_)
    · have h := h.1 c3
      refine lv_aload_n hx hb d_Co_spend_94 rfl (lv_at hl 0 rfl) ?_
      refine gt_1_7 X w w_fl_Co_55 d_Co_spend_95 ?_
      refine lv_if_ne (tgt := 120) hx hb d_Co_spend_98 (by decide) (fun c4 => ?_) (fun c4 => ?_)
      · have h := h.1 c4
        exact z_vret X hr hlk w h d_Co_spend_120
      · have h := h.2 c4
        refine lv_aload_n hx hb d_Co_spend_101 rfl (lv_at hl 0 rfl) ?_
        refine gt_1_0 X w w_fl_Co_12 d_Co_spend_102 ?_
        refine gn_2_8 X w w_nf_Co_87 d_Co_spend_105 ?_
        refine lv_aload_n hx hb d_Co_spend_108 rfl (lv_at hl 0 rfl) ?_
        refine gt_1_6 X w w_fl_Co_43 d_Co_spend_109 ?_
        refine lv_icmp_gt (tgt := 120) hx hb d_Co_spend_112 (by decide) (fun c5 => ?_) (fun c5 => ?_)
        · have h := h.1 c5
          exact z_vret X hr hlk w h d_Co_spend_120
        · have h := h.2 c5
          refine lv_aload_n hx hb d_Co_spend_115 rfl (lv_at hl 0 rfl) ?_
          refine z_cVi (As := []) (rest := []) (q0 := 1) (ci := 2) X w (c_Co_beginCycle l E μ _ h) rfl rfl rfl w_ml_Co_90 ⟨w_im_Co_beginCycle, w_se_Co_beginCycle⟩ w_in_Co w_co_Co_beginCycle q_Co_beginCycle.1 q_Co_beginCycle.2 rfl ⟨Nat.le_of_ble_eq_true rfl, Nat.le_of_ble_eq_true rfl⟩ ⟨Nat.zero_le _, Nat.zero_le _⟩ hl.1 rfl (Nat.le_of_ble_eq_true rfl) d_Co_spend_116 (fun r7 μ6 H locs h w => ?_)
          refine lv_pop hx hb d_Co_spend_119 rfl ?_
          exact z_vret X hr hlk w h d_Co_spend_120
    · have h := h.2 c3
      refine lv_aload_n hx hb d_Co_spend_34 rfl (lv_at hl 0 rfl) ?_
      refine gt_1_7 X w w_fl_Co_55 d_Co_spend_35 ?_
      refine lv_if_eq (tgt := 94) hx hb d_Co_spend_38 (by decide) (fun c8 => ?_) (fun c8 => ?_)
      · have h := h.1 c8
        refine lv_aload_n hx hb d_Co_spend_94 rfl (lv_at hl 0 rfl) ?_
        refine gt_1_7 X w w_fl_Co_55 d_Co_spend_95 ?_
        refine lv_if_ne (tgt := 120) hx hb d_Co_spend_98 (by decide) (fun c9 => ?_) (fun c9 => ?_)
        · have h := h.1 c9
          exact z_vret X hr hlk w h d_Co_spend_120
        · have h := h.2 c9
          refine lv_aload_n hx hb d_Co_spend_101 rfl (lv_at hl 0 rfl) ?_
          refine gt_1_0 X w w_fl_Co_12 d_Co_spend_102 ?_
          refine gn_2_8 X w w_nf_Co_87 d_Co_spend_105 ?_
          refine lv_aload_n hx hb d_Co_spend_108 rfl (lv_at hl 0 rfl) ?_
          refine gt_1_6 X w w_fl_Co_43 d_Co_spend_109 ?_
          refine lv_icmp_gt (tgt := 120) hx hb d_Co_spend_112 (by decide) (fun c10 => ?_) (fun c10 => ?_)
          · have h := h.1 c10
            exact z_vret X hr hlk w h d_Co_spend_120
          · have h := h.2 c10
            refine lv_aload_n hx hb d_Co_spend_115 rfl (lv_at hl 0 rfl) ?_
            refine z_cVi (As := []) (rest := []) (q0 := 1) (ci := 2) X w (c_Co_beginCycle l E μ _ h) rfl rfl rfl w_ml_Co_90 ⟨w_im_Co_beginCycle, w_se_Co_beginCycle⟩ w_in_Co w_co_Co_beginCycle q_Co_beginCycle.1 q_Co_beginCycle.2 rfl ⟨Nat.le_of_ble_eq_true rfl, Nat.le_of_ble_eq_true rfl⟩ ⟨Nat.zero_le _, Nat.zero_le _⟩ hl.1 rfl (Nat.le_of_ble_eq_true rfl) d_Co_spend_116 (fun r12 μ11 H locs h w => ?_)
            refine lv_pop hx hb d_Co_spend_119 rfl ?_
            exact z_vret X hr hlk w h d_Co_spend_120
      · have h := h.2 c8
        refine lv_aload_n hx hb d_Co_spend_41 rfl (lv_at hl 0 rfl) ?_
        refine gt_1_8 X w w_fl_Co_58 d_Co_spend_42 ?_
        refine lv_if_gt (tgt := 94) hx hb d_Co_spend_45 (by decide) (fun c13 => ?_) (fun c13 => ?_)
        · have h := h.1 c13
          refine lv_aload_n hx hb d_Co_spend_94 rfl (lv_at hl 0 rfl) ?_
          refine gt_1_7 X w w_fl_Co_55 d_Co_spend_95 ?_
          refine lv_if_ne (tgt := 120) hx hb d_Co_spend_98 (by decide) (fun c14 => ?_) (fun c14 => ?_)
          · have h := h.1 c14
            exact z_vret X hr hlk w h d_Co_spend_120
          · have h := h.2 c14
            refine lv_aload_n hx hb d_Co_spend_101 rfl (lv_at hl 0 rfl) ?_
            refine gt_1_0 X w w_fl_Co_12 d_Co_spend_102 ?_
            refine gn_2_8 X w w_nf_Co_87 d_Co_spend_105 ?_
            refine lv_aload_n hx hb d_Co_spend_108 rfl (lv_at hl 0 rfl) ?_
            refine gt_1_6 X w w_fl_Co_43 d_Co_spend_109 ?_
            refine lv_icmp_gt (tgt := 120) hx hb d_Co_spend_112 (by decide) (fun c15 => ?_) (fun c15 => ?_)
            · have h := h.1 c15
              exact z_vret X hr hlk w h d_Co_spend_120
            · have h := h.2 c15
              refine lv_aload_n hx hb d_Co_spend_115 rfl (lv_at hl 0 rfl) ?_
              refine z_cVi (As := []) (rest := []) (q0 := 1) (ci := 2) X w (c_Co_beginCycle l E μ _ h) rfl rfl rfl w_ml_Co_90 ⟨w_im_Co_beginCycle, w_se_Co_beginCycle⟩ w_in_Co w_co_Co_beginCycle q_Co_beginCycle.1 q_Co_beginCycle.2 rfl ⟨Nat.le_of_ble_eq_true rfl, Nat.le_of_ble_eq_true rfl⟩ ⟨Nat.zero_le _, Nat.zero_le _⟩ hl.1 rfl (Nat.le_of_ble_eq_true rfl) d_Co_spend_116 (fun r17 μ16 H locs h w => ?_)
              refine lv_pop hx hb d_Co_spend_119 rfl ?_
              exact z_vret X hr hlk w h d_Co_spend_120
        · have h := h.2 c13
          refine lv_aload_n hx hb d_Co_spend_48 rfl (lv_at hl 0 rfl) ?_
          refine lv_dup hx hb d_Co_spend_49 rfl ?_
          refine gt_1_8 X w w_fl_Co_58 d_Co_spend_50 ?_
          refine lv_aload_n hx hb d_Co_spend_53 rfl (lv_at hl 0 rfl) ?_
          refine gt_1_4 X w w_fl_Co_36 d_Co_spend_54 ?_
          refine lv_iadd hx hb d_Co_spend_57 ?_
          refine pt_1_8 X w w_fl_Co_58 d_Co_spend_58 (fun μ18 H locs eμ18 w => ?_)
          have h := h μ18 eμ18
          refine lv_iconst (v := 0) hx hb d_Co_spend_61 (by decide) ?_
          refine lv_istore_n (lv' := [(3, .int (0 : Int32)), (0, .ref (E.2.1 1)), (2, .int x2)]) hx hb d_Co_spend_62 rfl hl (by decide) rfl (fun ls hl => ?_)
          obtain ⟨n, h⟩ := h
          exact L_Co_spend_63 X hr hlk K _ ih n x2 (0 : Int32) μ18 _ _ _ h w (lv_sub hl [1, 2, 0] rfl)

set_option maxHeartbeats 4000000 in
set_option maxRecDepth 100000 in
theorem c_Co_spend (l : Launch) (E : zE) (μ : zM) (a1 : Int32) (K : zM → Prop) (h : f_Co_spend μ a1 K) : Met l y_Co_spend (Cond.code y_Co_spend prog_4_method_6_code 4 none :: zT) { frames := 5, cells := 0, slots := 0, locals := 108 } (va_Pc [.ref (E.2.1 1), .int a1] (zR zwC E μ)) (va_Qv K (zR zwC E) (zA E)) 0 0 (zA E) := by
  refine z_head (by decide) (Nat.le_of_ble_eq_true rfl) ?_
  intro p e s m below meth c X hr hlk w ls hl
  have X : zX E p s m _ c prog_4_method_6_code "BeatHeap$Collector" 4 := X
  have hx := X.1
  have hb := X.2.1
  have hl : lv_has ls 4 [(0, .ref (E.2.1 1)), (1, .int a1)] := hl
  unfold f_Co_spend at h
  refine lv_aload_n hx hb d_Co_spend_0 rfl (lv_at hl 0 rfl) ?_
  refine gt_1_1 X w w_fl_Co_21 d_Co_spend_1 ?_
  refine lv_iload_n hx hb d_Co_spend_4 rfl (lv_at hl 1 rfl) ?_
  refine z_cVv (As := [.int a1]) (rest := []) (q0 := 10) (ci := 1) X w (c_Ck_programTicks l E μ a1 _ h) rfl rfl rfl w_ml_Co_80 ⟨w_im_Ck_programTicks, w_se_Ck_programTicks⟩ w_in_Ck w_co_Ck_programTicks q_Ck_programTicks.1 q_Ck_programTicks.2 rfl ⟨Nat.le_of_ble_eq_true rfl, Nat.le_of_ble_eq_true rfl⟩ ⟨Nat.zero_le _, Nat.zero_le _⟩ hl.1 rfl (Nat.le_of_ble_eq_true rfl) d_Co_spend_5 (fun μ1 H locs h w => ?_)
  refine lv_aload_n hx hb d_Co_spend_8 rfl (lv_at hl 0 rfl) ?_
  refine gt_1_7 X w w_fl_Co_55 d_Co_spend_9 ?_
  refine lv_if_eq (tgt := 25) hx hb d_Co_spend_12 (by decide) (fun c2 => ?_) (fun c2 => ?_)
  · have h := h.1 c2
    refine lv_iconst (v := 0) hx hb d_Co_spend_25 (by decide) ?_
    refine lv_istore_n (lv' := [(2, .int (0 : Int32)), (0, .ref (E.2.1 1)), (1, .int a1)]) hx hb d_Co_spend_26 rfl hl (by decide) rfl (fun ls hl => ?_)
    obtain ⟨n, h⟩ := h
    exact L_Co_spend_27 X hr hlk K n (0 : Int32) μ1 _ _ _ h w (lv_sub hl [1, 0] rfl)
  · have h := h.2 c2
    refine lv_aload_n hx hb d_Co_spend_15 rfl (lv_at hl 0 rfl) ?_
    refine lv_dup hx hb d_Co_spend_16 rfl ?_
    refine gt_1_8 X w w_fl_Co_58 d_Co_spend_17 ?_
    refine lv_iload_n hx hb d_Co_spend_20 rfl (lv_at hl 1 rfl) ?_
    refine lv_isub hx hb d_Co_spend_21 ?_
    refine pt_1_8 X w w_fl_Co_58 d_Co_spend_22 (fun μ25 H locs eμ25 w => ?_)
    have h := h μ25 eμ25
    refine lv_iconst (v := 0) hx hb d_Co_spend_25 (by decide) ?_
    refine lv_istore_n (lv' := [(2, .int (0 : Int32)), (0, .ref (E.2.1 1)), (1, .int a1)]) hx hb d_Co_spend_26 rfl hl (by decide) rfl (fun ls hl => ?_)
    obtain ⟨n, h⟩ := h
    exact L_Co_spend_27 X hr hlk K n (0 : Int32) μ25 _ _ _ h w (lv_sub hl [1, 0] rfl)
theorem q_Bh_make : (y_Bh_make.cls ≠ "java/lang/invoke/MethodHandle" ∧ y_Bh_make.cls ≠ "java/lang/invoke/VarHandle") ∧ (parseMethodDescriptor y_Bh_make.desc).map (fun d => d.parameters.length) = some 3 := by decide +kernel
theorem d_Bh_make_0 : decode prog_1_method_3_code 0 = .ok (.iload_n 1, 1) := by decide +kernel
theorem d_Bh_make_1 : decode prog_1_method_3_code 1 = .ok (.invokestatic 46, 3) := by decide +kernel
theorem d_Bh_make_4 : decode prog_1_method_3_code 4 = .ok (.ifCond .eq 23, 3) := by decide +kernel
theorem d_Bh_make_7 : decode prog_1_method_3_code 7 = .ok (.iload_n 2, 1) := by decide +kernel
theorem d_Bh_make_8 : decode prog_1_method_3_code 8 = .ok (.iconst 0, 1) := by decide +kernel
theorem d_Bh_make_9 : decode prog_1_method_3_code 9 = .ok (.bipush 31, 2) := by decide +kernel
theorem d_Bh_make_11 : decode prog_1_method_3_code 11 = .ok (.invokestatic 42, 3) := by decide +kernel
theorem d_Bh_make_14 : decode prog_1_method_3_code 14 = .ok (.ifCond .eq 13, 3) := by decide +kernel
theorem d_Bh_make_17 : decode prog_1_method_3_code 17 = .ok (.iload_n 3, 1) := by decide +kernel
theorem d_Bh_make_18 : decode prog_1_method_3_code 18 = .ok (.iconst 0, 1) := by decide +kernel
theorem d_Bh_make_19 : decode prog_1_method_3_code 19 = .ok (.bipush 31, 2) := by decide +kernel
theorem d_Bh_make_21 : decode prog_1_method_3_code 21 = .ok (.invokestatic 42, 3) := by decide +kernel
theorem d_Bh_make_24 : decode prog_1_method_3_code 24 = .ok (.ifCond .ne 5, 3) := by decide +kernel
theorem d_Bh_make_27 : decode prog_1_method_3_code 27 = .ok (.iconst (-1), 1) := by decide +kernel
theorem d_Bh_make_28 : decode prog_1_method_3_code 28 = .ok (.ireturn, 1) := by decide +kernel
theorem d_Bh_make_29 : decode prog_1_method_3_code 29 = .ok (.iload_n 2, 1) := by decide +kernel
theorem d_Bh_make_30 : decode prog_1_method_3_code 30 = .ok (.iload_n 3, 1) := by decide +kernel
theorem d_Bh_make_31 : decode prog_1_method_3_code 31 = .ok (.iadd, 1) := by decide +kernel
theorem d_Bh_make_32 : decode prog_1_method_3_code 32 = .ok (.iconst 1, 1) := by decide +kernel
theorem d_Bh_make_33 : decode prog_1_method_3_code 33 = .ok (.bipush 31, 2) := by decide +kernel
theorem d_Bh_make_35 : decode prog_1_method_3_code 35 = .ok (.invokestatic 42, 3) := by decide +kernel
theorem d_Bh_make_38 : decode prog_1_method_3_code 38 = .ok (.ifCond .ne 5, 3) := by decide +kernel
theorem d_Bh_make_41 : decode prog_1_method_3_code 41 = .ok (.iconst (-1), 1) := by decide +kernel
theorem d_Bh_make_42 : decode prog_1_method_3_code 42 = .ok (.ireturn, 1) := by decide +kernel
theorem d_Bh_make_43 : decode prog_1_method_3_code 43 = .ok (.iload_n 2, 1) := by decide +kernel
theorem d_Bh_make_44 : decode prog_1_method_3_code 44 = .ok (.iload_n 3, 1) := by decide +kernel
theorem d_Bh_make_45 : decode prog_1_method_3_code 45 = .ok (.iadd, 1) := by decide +kernel
theorem d_Bh_make_46 : decode prog_1_method_3_code 46 = .ok (.iconst 1, 1) := by decide +kernel
theorem d_Bh_make_47 : decode prog_1_method_3_code 47 = .ok (.iadd, 1) := by decide +kernel
theorem d_Bh_make_48 : decode prog_1_method_3_code 48 = .ok (.invokestatic 50, 3) := by decide +kernel
theorem d_Bh_make_51 : decode prog_1_method_3_code 51 = .ok (.istore 4, 2) := by decide +kernel
theorem d_Bh_make_53 : decode prog_1_method_3_code 53 = .ok (.aload_n 0, 1) := by decide +kernel
theorem d_Bh_make_54 : decode prog_1_method_3_code 54 = .ok (.iload_n 1, 1) := by decide +kernel
theorem d_Bh_make_55 : decode prog_1_method_3_code 55 = .ok (.iload 4, 2) := by decide +kernel
theorem d_Bh_make_57 : decode prog_1_method_3_code 57 = .ok (.iconst 1, 1) := by decide +kernel
theorem d_Bh_make_58 : decode prog_1_method_3_code 58 = .ok (.iload_n 2, 1) := by decide +kernel
theorem d_Bh_make_59 : decode prog_1_method_3_code 59 = .ok (.iload_n 3, 1) := by decide +kernel
theorem d_Bh_make_60 : decode prog_1_method_3_code 60 = .ok (.invokevirtual 54, 3) := by decide +kernel
theorem d_Bh_make_63 : decode prog_1_method_3_code 63 = .ok (.ifCond .ne 5, 3) := by decide +kernel
theorem d_Bh_make_66 : decode prog_1_method_3_code 66 = .ok (.iconst 0, 1) := by decide +kernel
theorem d_Bh_make_67 : decode prog_1_method_3_code 67 = .ok (.ireturn, 1) := by decide +kernel
theorem d_Bh_make_68 : decode prog_1_method_3_code 68 = .ok (.aload_n 0, 1) := by decide +kernel
theorem d_Bh_make_69 : decode prog_1_method_3_code 69 = .ok (.getfield 12, 3) := by decide +kernel
theorem d_Bh_make_72 : decode prog_1_method_3_code 72 = .ok (.iload 4, 2) := by decide +kernel
theorem d_Bh_make_74 : decode prog_1_method_3_code 74 = .ok (.invokestatic 58, 3) := by decide +kernel
theorem d_Bh_make_77 : decode prog_1_method_3_code 77 = .ok (.invokevirtual 61, 3) := by decide +kernel
theorem d_Bh_make_80 : decode prog_1_method_3_code 80 = .ok (.iconst 1, 1) := by decide +kernel
theorem d_Bh_make_81 : decode prog_1_method_3_code 81 = .ok (.ireturn, 1) := by decide +kernel
def f_Bh_make (μ : zM) (a1 a2 a3 : Int32) (K : Int32 → zM → Prop) : Prop := f_Bh_isRoot μ a1 (fun r2 μ1 => ((r2 = 0 → (K (-1 : Int32) μ1)) ∧ (¬ r2 = 0 → (f_Bh_within μ1 a2 (0 : Int32) (31 : Int32) (fun r5 μ4 => ((r5 = 0 → (K (-1 : Int32) μ4)) ∧ (¬ r5 = 0 → (f_Bh_within μ4 a3 (0 : Int32) (31 : Int32) (fun r8 μ7 => ((¬ r8 = 0 → (f_Bh_within μ7 (a2 + a3) (1 : Int32) (31 : Int32) (fun r11 μ10 => ((¬ r11 = 0 → (f_Bh_leastClass μ10 ((a2 + a3) + (1 : Int32)) (fun r14 μ13 => (f_Bh_takeForRoot μ13 a1 r14 (1 : Int32) a2 a3 (fun r16 μ15 => ((¬ r16 = 0 → (f_Bh_takeTicks μ15 r14 (fun r19 μ18 => (f_Co_spend μ18 r19 (fun μ20 => (K (1 : Int32) μ20)))))) ∧ (r16 = 0 → (K (0 : Int32) μ15)))))))) ∧ (r11 = 0 → (K (-1 : Int32) μ10)))))) ∧ (r8 = 0 → (K (-1 : Int32) μ7))))))))))))
set_option maxHeartbeats 4000000 in
set_option maxRecDepth 100000 in
theorem c_Bh_make (l : Launch) (E : zE) (μ : zM) (a1 a2 a3 : Int32) (K : Int32 → zM → Prop) (h : f_Bh_make μ a1 a2 a3 K) : Met l y_Bh_make (Cond.code y_Bh_make prog_1_method_3_code 5 (some .int) :: zT) { frames := 6, cells := 0, slots := 0, locals := 142 } (va_Pc [.ref (E.2.1 0), .int a1, .int a2, .int a3] (zR zwC E μ)) (va_Qi K (zR zwC E) (zA E)) 0 0 (zA E) := by
  refine z_head (by decide) (Nat.le_of_ble_eq_true rfl) ?_
  intro p e s m below meth c X hr hlk w ls hl
  have X : zX E p s m _ c prog_1_method_3_code "BeatHeap" 5 := X
  have hx := X.1
  have hb := X.2.1
  have hl : lv_has ls 5 [(0, .ref (E.2.1 0)), (1, .int a1), (2, .int a2), (3, .int a3)] := hl
  unfold f_Bh_make at h
  refine lv_iload_n hx hb d_Bh_make_0 rfl (lv_at hl 1 rfl) ?_
  refine z_cSi (As := [.int a1]) (rest := []) X w (c_Bh_isRoot l E μ a1 _ h) w_ml_Bh_46 w_st_Bh_isRoot w_in_Bh w_co_Bh_isRoot q_Bh_isRoot.1 q_Bh_isRoot.2 rfl ⟨Nat.le_of_ble_eq_true rfl, Nat.le_of_ble_eq_true rfl⟩ ⟨Nat.zero_le _, Nat.zero_le _⟩ hl.1 rfl (Nat.le_of_ble_eq_true rfl) d_Bh_make_1 (fun r2 μ1 H locs h w => ?_)
  refine lv_if_eq (tgt := 27) hx hb d_Bh_make_4 (by decide) (fun c3 => ?_) (fun c3 => ?_)
  · have h := h.1 c3
    refine lv_iconst (v := (-1)) hx hb d_Bh_make_27 (by decide) ?_
    exact z_iret X hr hlk w h d_Bh_make_28
  · have h := h.2 c3
    refine lv_iload_n hx hb d_Bh_make_7 rfl (lv_at hl 2 rfl) ?_
    refine lv_iconst (v := 0) hx hb d_Bh_make_8 (by decide) ?_
    refine lv_bipush (v := 31) hx hb d_Bh_make_9 (by decide) ?_
    refine z_cSi (As := [.int a2, .int (0 : Int32), .int (31 : Int32)]) (rest := []) X w (c_Bh_within l E μ1 a2 (0 : Int32) (31 : Int32) _ h) w_ml_Bh_42 w_st_Bh_within w_in_Bh w_co_Bh_within q_Bh_within.1 q_Bh_within.2 rfl ⟨Nat.le_of_ble_eq_true rfl, Nat.le_of_ble_eq_true rfl⟩ ⟨Nat.zero_le _, Nat.zero_le _⟩ hl.1 rfl (Nat.le_of_ble_eq_true rfl) d_Bh_make_11 (fun r5 μ4 H locs h w => ?_)
    refine lv_if_eq (tgt := 27) hx hb d_Bh_make_14 (by decide) (fun c6 => ?_) (fun c6 => ?_)
    · have h := h.1 c6
      refine lv_iconst (v := (-1)) hx hb d_Bh_make_27 (by decide) ?_
      exact z_iret X hr hlk w h d_Bh_make_28
    · have h := h.2 c6
      refine lv_iload_n hx hb d_Bh_make_17 rfl (lv_at hl 3 rfl) ?_
      refine lv_iconst (v := 0) hx hb d_Bh_make_18 (by decide) ?_
      refine lv_bipush (v := 31) hx hb d_Bh_make_19 (by decide) ?_
      refine z_cSi (As := [.int a3, .int (0 : Int32), .int (31 : Int32)]) (rest := []) X w (c_Bh_within l E μ4 a3 (0 : Int32) (31 : Int32) _ h) w_ml_Bh_42 w_st_Bh_within w_in_Bh w_co_Bh_within q_Bh_within.1 q_Bh_within.2 rfl ⟨Nat.le_of_ble_eq_true rfl, Nat.le_of_ble_eq_true rfl⟩ ⟨Nat.zero_le _, Nat.zero_le _⟩ hl.1 rfl (Nat.le_of_ble_eq_true rfl) d_Bh_make_21 (fun r8 μ7 H locs h w => ?_)
      refine lv_if_ne (tgt := 29) hx hb d_Bh_make_24 (by decide) (fun c9 => ?_) (fun c9 => ?_)
      · have h := h.1 c9
        refine lv_iload_n hx hb d_Bh_make_29 rfl (lv_at hl 2 rfl) ?_
        refine lv_iload_n hx hb d_Bh_make_30 rfl (lv_at hl 3 rfl) ?_
        refine lv_iadd hx hb d_Bh_make_31 ?_
        refine lv_iconst (v := 1) hx hb d_Bh_make_32 (by decide) ?_
        refine lv_bipush (v := 31) hx hb d_Bh_make_33 (by decide) ?_
        refine z_cSi (As := [.int (a2 + a3), .int (1 : Int32), .int (31 : Int32)]) (rest := []) X w (c_Bh_within l E μ7 (a2 + a3) (1 : Int32) (31 : Int32) _ h) w_ml_Bh_42 w_st_Bh_within w_in_Bh w_co_Bh_within q_Bh_within.1 q_Bh_within.2 rfl ⟨Nat.le_of_ble_eq_true rfl, Nat.le_of_ble_eq_true rfl⟩ ⟨Nat.zero_le _, Nat.zero_le _⟩ hl.1 rfl (Nat.le_of_ble_eq_true rfl) d_Bh_make_35 (fun r11 μ10 H locs h w => ?_)
        refine lv_if_ne (tgt := 43) hx hb d_Bh_make_38 (by decide) (fun c12 => ?_) (fun c12 => ?_)
        · have h := h.1 c12
          refine lv_iload_n hx hb d_Bh_make_43 rfl (lv_at hl 2 rfl) ?_
          refine lv_iload_n hx hb d_Bh_make_44 rfl (lv_at hl 3 rfl) ?_
          refine lv_iadd hx hb d_Bh_make_45 ?_
          refine lv_iconst (v := 1) hx hb d_Bh_make_46 (by decide) ?_
          refine lv_iadd hx hb d_Bh_make_47 ?_
          refine z_cSi (As := [.int ((a2 + a3) + (1 : Int32))]) (rest := []) X w (c_Bh_leastClass l E μ10 ((a2 + a3) + (1 : Int32)) _ h) w_ml_Bh_50 w_st_Bh_leastClass w_in_Bh w_co_Bh_leastClass q_Bh_leastClass.1 q_Bh_leastClass.2 rfl ⟨Nat.le_of_ble_eq_true rfl, Nat.le_of_ble_eq_true rfl⟩ ⟨Nat.zero_le _, Nat.zero_le _⟩ hl.1 rfl (Nat.le_of_ble_eq_true rfl) d_Bh_make_48 (fun r14 μ13 H locs h w => ?_)
          refine lv_istore (lv' := [(4, .int r14), (0, .ref (E.2.1 0)), (1, .int a1), (2, .int a2), (3, .int a3)]) hx hb d_Bh_make_51 hl (by decide) rfl (fun ls hl => ?_)
          refine lv_aload_n hx hb d_Bh_make_53 rfl (lv_at hl 1 rfl) ?_
          refine lv_iload_n hx hb d_Bh_make_54 rfl (lv_at hl 2 rfl) ?_
          refine lv_iload hx hb d_Bh_make_55 (lv_at hl 0 rfl) ?_
          refine lv_iconst (v := 1) hx hb d_Bh_make_57 (by decide) ?_
          refine lv_iload_n hx hb d_Bh_make_58 rfl (lv_at hl 3 rfl) ?_
          refine lv_iload_n hx hb d_Bh_make_59 rfl (lv_at hl 4 rfl) ?_
          refine z_cVi (As := [.int a1, .int r14, .int (1 : Int32), .int a2, .int a3]) (rest := []) (q0 := 0) (ci := 5) X w (c_Bh_takeForRoot l E μ13 a1 r14 (1 : Int32) a2 a3 _ h) rfl rfl rfl w_ml_Bh_54 ⟨w_im_Bh_takeForRoot, w_se_Bh_takeForRoot⟩ w_in_Bh w_co_Bh_takeForRoot q_Bh_takeForRoot.1 q_Bh_takeForRoot.2 rfl ⟨Nat.le_of_ble_eq_true rfl, Nat.le_of_ble_eq_true rfl⟩ ⟨Nat.zero_le _, Nat.zero_le _⟩ hl.1 rfl (Nat.le_of_ble_eq_true rfl) d_Bh_make_60 (fun r16 μ15 H locs h w => ?_)
          refine lv_if_ne (tgt := 68) hx hb d_Bh_make_63 (by decide) (fun c17 => ?_) (fun c17 => ?_)
          · have h := h.1 c17
            refine lv_aload_n hx hb d_Bh_make_68 rfl (lv_at hl 1 rfl) ?_
            refine gt_0_0 X w w_fl_Bh_12 d_Bh_make_69 ?_
            refine lv_iload hx hb d_Bh_make_72 (lv_at hl 0 rfl) ?_
            refine z_cSi (As := [.int r14]) (rest := [.ref (E.2.1 1)]) X w (c_Bh_takeTicks l E μ15 r14 _ h) w_ml_Bh_58 w_st_Bh_takeTicks w_in_Bh w_co_Bh_takeTicks q_Bh_takeTicks.1 q_Bh_takeTicks.2 rfl ⟨Nat.le_of_ble_eq_true rfl, Nat.le_of_ble_eq_true rfl⟩ ⟨Nat.zero_le _, Nat.zero_le _⟩ hl.1 rfl (Nat.le_of_ble_eq_true rfl) d_Bh_make_74 (fun r19 μ18 H locs h w => ?_)
            refine z_cVv (As := [.int r19]) (rest := []) (q0 := 1) (ci := 2) X w (c_Co_spend l E μ18 r19 _ h) rfl rfl rfl w_ml_Bh_61 ⟨w_im_Co_spend, w_se_Co_spend⟩ w_in_Co w_co_Co_spend q_Co_spend.1 q_Co_spend.2 rfl ⟨Nat.le_of_ble_eq_true rfl, Nat.le_of_ble_eq_true rfl⟩ ⟨Nat.zero_le _, Nat.zero_le _⟩ hl.1 rfl (Nat.le_of_ble_eq_true rfl) d_Bh_make_77 (fun μ20 H locs h w => ?_)
            refine lv_iconst (v := 1) hx hb d_Bh_make_80 (by decide) ?_
            exact z_iret X hr hlk w h d_Bh_make_81
          · have h := h.2 c17
            refine lv_iconst (v := 0) hx hb d_Bh_make_66 (by decide) ?_
            exact z_iret X hr hlk w h d_Bh_make_67
        · have h := h.2 c12
          refine lv_iconst (v := (-1)) hx hb d_Bh_make_41 (by decide) ?_
          exact z_iret X hr hlk w h d_Bh_make_42
      · have h := h.2 c9
        refine lv_iconst (v := (-1)) hx hb d_Bh_make_27 (by decide) ?_
        exact z_iret X hr hlk w h d_Bh_make_28
theorem q_Bh_rootOrNone : (y_Bh_rootOrNone.cls ≠ "java/lang/invoke/MethodHandle" ∧ y_Bh_rootOrNone.cls ≠ "java/lang/invoke/VarHandle") ∧ (parseMethodDescriptor y_Bh_rootOrNone.desc).map (fun d => d.parameters.length) = some 1 := by decide +kernel
theorem d_Bh_rootOrNone_0 : decode prog_1_method_27_code 0 = .ok (.iload_n 1, 1) := by decide +kernel
theorem d_Bh_rootOrNone_1 : decode prog_1_method_27_code 1 = .ok (.invokestatic 46, 3) := by decide +kernel
theorem d_Bh_rootOrNone_4 : decode prog_1_method_27_code 4 = .ok (.ifCond .eq 12, 3) := by decide +kernel
theorem d_Bh_rootOrNone_7 : decode prog_1_method_27_code 7 = .ok (.aload_n 0, 1) := by decide +kernel
theorem d_Bh_rootOrNone_8 : decode prog_1_method_27_code 8 = .ok (.getfield 30, 3) := by decide +kernel
theorem d_Bh_rootOrNone_11 : decode prog_1_method_27_code 11 = .ok (.iload_n 1, 1) := by decide +kernel
theorem d_Bh_rootOrNone_12 : decode prog_1_method_27_code 12 = .ok (.iaload, 1) := by decide +kernel
theorem d_Bh_rootOrNone_13 : decode prog_1_method_27_code 13 = .ok (.goto 4, 3) := by decide +kernel
theorem d_Bh_rootOrNone_16 : decode prog_1_method_27_code 16 = .ok (.iconst (-1), 1) := by decide +kernel
theorem d_Bh_rootOrNone_17 : decode prog_1_method_27_code 17 = .ok (.ireturn, 1) := by decide +kernel
def f_Bh_rootOrNone (μ : zM) (a1 : Int32) (K : Int32 → zM → Prop) : Prop := f_Bh_isRoot μ a1 (fun r2 μ1 => ((r2 = 0 → (K (-1 : Int32) μ1)) ∧ (¬ r2 = 0 → (vp_in a1 16 ∧ (K (μ1 14 a1.toNatClampNeg) μ1)))))
set_option maxHeartbeats 4000000 in
set_option maxRecDepth 100000 in
theorem c_Bh_rootOrNone (l : Launch) (E : zE) (μ : zM) (a1 : Int32) (K : Int32 → zM → Prop) (h : f_Bh_rootOrNone μ a1 K) : Met l y_Bh_rootOrNone (Cond.code y_Bh_rootOrNone prog_1_method_27_code 2 (some .int) :: zT) { frames := 1, cells := 0, slots := 0, locals := 20 } (va_Pc [.ref (E.2.1 0), .int a1] (zR zwC E μ)) (va_Qi K (zR zwC E) (zA E)) 0 0 (zA E) := by
  refine z_head (by decide) (Nat.le_of_ble_eq_true rfl) ?_
  intro p e s m below meth c X hr hlk w ls hl
  have X : zX E p s m _ c prog_1_method_27_code "BeatHeap" 2 := X
  have hx := X.1
  have hb := X.2.1
  have hl : lv_has ls 2 [(0, .ref (E.2.1 0)), (1, .int a1)] := hl
  unfold f_Bh_rootOrNone at h
  refine lv_iload_n hx hb d_Bh_rootOrNone_0 rfl (lv_at hl 1 rfl) ?_
  refine z_cSi (As := [.int a1]) (rest := []) X w (c_Bh_isRoot l E μ a1 _ h) w_ml_Bh_46 w_st_Bh_isRoot w_in_Bh w_co_Bh_isRoot q_Bh_isRoot.1 q_Bh_isRoot.2 rfl ⟨Nat.le_of_ble_eq_true rfl, Nat.le_of_ble_eq_true rfl⟩ ⟨Nat.zero_le _, Nat.zero_le _⟩ hl.1 rfl (Nat.le_of_ble_eq_true rfl) d_Bh_rootOrNone_1 (fun r2 μ1 H locs h w => ?_)
  refine lv_if_eq (tgt := 16) hx hb d_Bh_rootOrNone_4 (by decide) (fun c3 => ?_) (fun c3 => ?_)
  · have h := h.1 c3
    refine lv_iconst (v := (-1)) hx hb d_Bh_rootOrNone_16 (by decide) ?_
    exact z_iret X hr hlk w h d_Bh_rootOrNone_17
  · have h := h.2 c3
    refine lv_aload_n hx hb d_Bh_rootOrNone_7 rfl (lv_at hl 0 rfl) ?_
    refine gt_0_3 X w w_fl_Bh_30 d_Bh_rootOrNone_8 ?_
    refine lv_iload_n hx hb d_Bh_rootOrNone_11 rfl (lv_at hl 1 rfl) ?_
    obtain ⟨hi4, h⟩ := h
    refine al_14 X w hi4 d_Bh_rootOrNone_12 ?_
    refine lv_goto (tgt := 17) hx hb d_Bh_rootOrNone_13 (by decide) ?_
    exact z_iret X hr hlk w h d_Bh_rootOrNone_17
theorem q_Bk_setPointer : (y_Bk_setPointer.cls ≠ "java/lang/invoke/MethodHandle" ∧ y_Bk_setPointer.cls ≠ "java/lang/invoke/VarHandle") ∧ (parseMethodDescriptor y_Bk_setPointer.desc).map (fun d => d.parameters.length) = some 2 := by decide +kernel
theorem d_Bk_setPointer_0 : decode prog_2_method_8_code 0 = .ok (.aload_n 0, 1) := by decide +kernel
theorem d_Bk_setPointer_1 : decode prog_2_method_8_code 1 = .ok (.iload_n 1, 1) := by decide +kernel
theorem d_Bk_setPointer_2 : decode prog_2_method_8_code 2 = .ok (.iload_n 2, 1) := by decide +kernel
theorem d_Bk_setPointer_3 : decode prog_2_method_8_code 3 = .ok (.iconst 1, 1) := by decide +kernel
theorem d_Bk_setPointer_4 : decode prog_2_method_8_code 4 = .ok (.iadd, 1) := by decide +kernel
theorem d_Bk_setPointer_5 : decode prog_2_method_8_code 5 = .ok (.invokevirtual 70, 3) := by decide +kernel
theorem d_Bk_setPointer_8 : decode prog_2_method_8_code 8 = .ok (.return_, 1) := by decide +kernel
def f_Bk_setPointer (μ : zM) (a1 a2 : Int32) (K : zM → Prop) : Prop := f_Bk_setWord μ a1 (a2 + (1 : Int32)) (fun μ1 => (K μ1))
set_option maxHeartbeats 4000000 in
set_option maxRecDepth 100000 in
theorem c_Bk_setPointer (l : Launch) (E : zE) (μ : zM) (a1 a2 : Int32) (K : zM → Prop) (h : f_Bk_setPointer μ a1 a2 K) : Met l y_Bk_setPointer (Cond.code y_Bk_setPointer prog_2_method_8_code 3 none :: zT) { frames := 2, cells := 0, slots := 0, locals := 43 } (va_Pc [.ref (E.2.1 2), .int a1, .int a2] (zR zwC E μ)) (va_Qv K (zR zwC E) (zA E)) 0 0 (zA E) := by
  refine z_head (by decide) (Nat.le_of_ble_eq_true rfl) ?_
  intro p e s m below meth c X hr hlk w ls hl
  have X : zX E p s m _ c prog_2_method_8_code "BeatHeap$Blocks" 3 := X
  have hx := X.1
  have hb := X.2.1
  have hl : lv_has ls 3 [(0, .ref (E.2.1 2)), (1, .int a1), (2, .int a2)] := hl
  unfold f_Bk_setPointer at h
  refine lv_aload_n hx hb d_Bk_setPointer_0 rfl (lv_at hl 0 rfl) ?_
  refine lv_iload_n hx hb d_Bk_setPointer_1 rfl (lv_at hl 1 rfl) ?_
  refine lv_iload_n hx hb d_Bk_setPointer_2 rfl (lv_at hl 2 rfl) ?_
  refine lv_iconst (v := 1) hx hb d_Bk_setPointer_3 (by decide) ?_
  refine lv_iadd hx hb d_Bk_setPointer_4 ?_
  refine z_cVv (As := [.int a1, .int (a2 + (1 : Int32))]) (rest := []) (q0 := 2) (ci := 0) X w (c_Bk_setWord l E μ a1 (a2 + (1 : Int32)) _ h) rfl rfl rfl w_ml_Bk_70 ⟨w_im_Bk_setWord, w_se_Bk_setWord⟩ w_in_Bk w_co_Bk_setWord q_Bk_setWord.1 q_Bk_setWord.2 rfl ⟨Nat.le_of_ble_eq_true rfl, Nat.le_of_ble_eq_true rfl⟩ ⟨Nat.zero_le _, Nat.zero_le _⟩ hl.1 rfl (Nat.le_of_ble_eq_true rfl) d_Bk_setPointer_5 (fun μ1 H locs h w => ?_)
  exact z_vret X hr hlk w h d_Bk_setPointer_8
theorem q_Bh_takeLeaf : (y_Bh_takeLeaf.cls ≠ "java/lang/invoke/MethodHandle" ∧ y_Bh_takeLeaf.cls ≠ "java/lang/invoke/VarHandle") ∧ (parseMethodDescriptor y_Bh_takeLeaf.desc).map (fun d => d.parameters.length) = some 2 := by decide +kernel
theorem d_Bh_takeLeaf_0 : decode prog_1_method_30_code 0 = .ok (.aload_n 0, 1) := by decide +kernel
theorem d_Bh_takeLeaf_1 : decode prog_1_method_30_code 1 = .ok (.iconst 3, 1) := by decide +kernel
theorem d_Bh_takeLeaf_2 : decode prog_1_method_30_code 2 = .ok (.iconst 3, 1) := by decide +kernel
theorem d_Bh_takeLeaf_3 : decode prog_1_method_30_code 3 = .ok (.iconst 0, 1) := by decide +kernel
theorem d_Bh_takeLeaf_4 : decode prog_1_method_30_code 4 = .ok (.bipush 32, 2) := by decide +kernel
theorem d_Bh_takeLeaf_6 : decode prog_1_method_30_code 6 = .ok (.invokevirtual 189, 3) := by decide +kernel
theorem d_Bh_takeLeaf_9 : decode prog_1_method_30_code 9 = .ok (.istore_n 3, 1) := by decide +kernel
theorem d_Bh_takeLeaf_10 : decode prog_1_method_30_code 10 = .ok (.iload_n 3, 1) := by decide +kernel
theorem d_Bh_takeLeaf_11 : decode prog_1_method_30_code 11 = .ok (.iconst (-1), 1) := by decide +kernel
theorem d_Bh_takeLeaf_12 : decode prog_1_method_30_code 12 = .ok (.if_icmp .ne 19, 3) := by decide +kernel
theorem d_Bh_takeLeaf_15 : decode prog_1_method_30_code 15 = .ok (.aload_n 0, 1) := by decide +kernel
theorem d_Bh_takeLeaf_16 : decode prog_1_method_30_code 16 = .ok (.iload_n 1, 1) := by decide +kernel
theorem d_Bh_takeLeaf_17 : decode prog_1_method_30_code 17 = .ok (.iconst (-1), 1) := by decide +kernel
theorem d_Bh_takeLeaf_18 : decode prog_1_method_30_code 18 = .ok (.invokevirtual 97, 3) := by decide +kernel
theorem d_Bh_takeLeaf_21 : decode prog_1_method_30_code 21 = .ok (.aload_n 0, 1) := by decide +kernel
theorem d_Bh_takeLeaf_22 : decode prog_1_method_30_code 22 = .ok (.getfield 12, 3) := by decide +kernel
theorem d_Bh_takeLeaf_25 : decode prog_1_method_30_code 25 = .ok (.invokevirtual 100, 3) := by decide +kernel
theorem d_Bh_takeLeaf_28 : decode prog_1_method_30_code 28 = .ok (.pop, 1) := by decide +kernel
theorem d_Bh_takeLeaf_29 : decode prog_1_method_30_code 29 = .ok (.iconst 0, 1) := by decide +kernel
theorem d_Bh_takeLeaf_30 : decode prog_1_method_30_code 30 = .ok (.ireturn, 1) := by decide +kernel
theorem d_Bh_takeLeaf_31 : decode prog_1_method_30_code 31 = .ok (.aload_n 0, 1) := by decide +kernel
theorem d_Bh_takeLeaf_32 : decode prog_1_method_30_code 32 = .ok (.getfield 20, 3) := by decide +kernel
theorem d_Bh_takeLeaf_35 : decode prog_1_method_30_code 35 = .ok (.aload_n 0, 1) := by decide +kernel
theorem d_Bh_takeLeaf_36 : decode prog_1_method_30_code 36 = .ok (.iload_n 1, 1) := by decide +kernel
theorem d_Bh_takeLeaf_37 : decode prog_1_method_30_code 37 = .ok (.invokevirtual 91, 3) := by decide +kernel
theorem d_Bh_takeLeaf_40 : decode prog_1_method_30_code 40 = .ok (.iconst 1, 1) := by decide +kernel
theorem d_Bh_takeLeaf_41 : decode prog_1_method_30_code 41 = .ok (.iadd, 1) := by decide +kernel
theorem d_Bh_takeLeaf_42 : decode prog_1_method_30_code 42 = .ok (.iload_n 2, 1) := by decide +kernel
theorem d_Bh_takeLeaf_43 : decode prog_1_method_30_code 43 = .ok (.iadd, 1) := by decide +kernel
theorem d_Bh_takeLeaf_44 : decode prog_1_method_30_code 44 = .ok (.iload_n 3, 1) := by decide +kernel
theorem d_Bh_takeLeaf_45 : decode prog_1_method_30_code 45 = .ok (.invokevirtual 94, 3) := by decide +kernel
theorem d_Bh_takeLeaf_48 : decode prog_1_method_30_code 48 = .ok (.iconst 1, 1) := by decide +kernel
theorem d_Bh_takeLeaf_49 : decode prog_1_method_30_code 49 = .ok (.ireturn, 1) := by decide +kernel
def f_Bh_takeLeaf (μ : zM) (a1 a2 : Int32) (K : Int32 → zM → Prop) : Prop := f_Bh_takeBlock μ (3 : Int32) (3 : Int32) (0 : Int32) (32 : Int32) (fun r2 μ1 => ((¬ r2 = (-1 : Int32) → (f_Bh_rootOrNone μ1 a1 (fun r5 μ4 => (f_Bk_setPointer μ4 ((r5 + (1 : Int32)) + a2) r2 (fun μ6 => (K (1 : Int32) μ6)))))) ∧ (r2 = (-1 : Int32) → (f_Bh_setRoot μ1 a1 (-1 : Int32) (fun μ7 => (f_Co_beginCycle μ7 (fun r9 μ8 => (K (0 : Int32) μ8))))))))
set_option maxHeartbeats 4000000 in
set_option maxRecDepth 100000 in
theorem c_Bh_takeLeaf (l : Launch) (E : zE) (μ : zM) (a1 a2 : Int32) (K : Int32 → zM → Prop) (h : f_Bh_takeLeaf μ a1 a2 K) : Met l y_Bh_takeLeaf (Cond.code y_Bh_takeLeaf prog_1_method_30_code 4 (some .boolean) :: zT) { frames := 5, cells := 0, slots := 0, locals := 116 } (va_Pc [.ref (E.2.1 0), .int a1, .int a2] (zR zwC E μ)) (va_Qi K (zR zwC E) (zA E)) 0 0 (zA E) := by
  refine z_head (by decide) (Nat.le_of_ble_eq_true rfl) ?_
  intro p e s m below meth c X hr hlk w ls hl
  have X : zX E p s m _ c prog_1_method_30_code "BeatHeap" 4 := X
  have hx := X.1
  have hb := X.2.1
  have hl : lv_has ls 4 [(0, .ref (E.2.1 0)), (1, .int a1), (2, .int a2)] := hl
  unfold f_Bh_takeLeaf at h
  refine lv_aload_n hx hb d_Bh_takeLeaf_0 rfl (lv_at hl 0 rfl) ?_
  refine lv_iconst (v := 3) hx hb d_Bh_takeLeaf_1 (by decide) ?_
  refine lv_iconst (v := 3) hx hb d_Bh_takeLeaf_2 (by decide) ?_
  refine lv_iconst (v := 0) hx hb d_Bh_takeLeaf_3 (by decide) ?_
  refine lv_bipush (v := 32) hx hb d_Bh_takeLeaf_4 (by decide) ?_
  refine z_cVi (As := [.int (3 : Int32), .int (3 : Int32), .int (0 : Int32), .int (32 : Int32)]) (rest := []) (q0 := 0) (ci := 5) X w (c_Bh_takeBlock l E μ (3 : Int32) (3 : Int32) (0 : Int32) (32 : Int32) _ h) rfl rfl rfl w_ml_Bh_189 ⟨w_im_Bh_takeBlock, w_se_Bh_takeBlock⟩ w_in_Bh w_co_Bh_takeBlock q_Bh_takeBlock.1 q_Bh_takeBlock.2 rfl ⟨Nat.le_of_ble_eq_true rfl, Nat.le_of_ble_eq_true rfl⟩ ⟨Nat.zero_le _, Nat.zero_le _⟩ hl.1 rfl (Nat.le_of_ble_eq_true rfl) d_Bh_takeLeaf_6 (fun r2 μ1 H locs h w => ?_)
  refine lv_istore_n (lv' := [(3, .int r2), (0, .ref (E.2.1 0)), (1, .int a1), (2, .int a2)]) hx hb d_Bh_takeLeaf_9 rfl hl (by decide) rfl (fun ls hl => ?_)
  refine lv_iload_n hx hb d_Bh_takeLeaf_10 rfl (lv_at hl 0 rfl) ?_
  refine lv_iconst (v := (-1)) hx hb d_Bh_takeLeaf_11 (by decide) ?_
  refine lv_icmp_ne (tgt := 31) hx hb d_Bh_takeLeaf_12 (by decide) (fun c3 => ?_) (fun c3 => ?_)
  · have h := h.1 c3
    refine lv_aload_n hx hb d_Bh_takeLeaf_31 rfl (lv_at hl 1 rfl) ?_
    refine gt_0_1 X w w_fl_Bh_20 d_Bh_takeLeaf_32 ?_
    refine lv_aload_n hx hb d_Bh_takeLeaf_35 rfl (lv_at hl 1 rfl) ?_
    refine lv_iload_n hx hb d_Bh_takeLeaf_36 rfl (lv_at hl 2 rfl) ?_
    refine z_cVi (As := [.int a1]) (rest := [.ref (E.2.1 2)]) (q0 := 0) (ci := 5) X w (c_Bh_rootOrNone l E μ1 a1 _ h) rfl rfl rfl w_ml_Bh_91 ⟨w_im_Bh_rootOrNone, w_se_Bh_rootOrNone⟩ w_in_Bh w_co_Bh_rootOrNone q_Bh_rootOrNone.1 q_Bh_rootOrNone.2 rfl ⟨Nat.le_of_ble_eq_true rfl, Nat.le_of_ble_eq_true rfl⟩ ⟨Nat.zero_le _, Nat.zero_le _⟩ hl.1 rfl (Nat.le_of_ble_eq_true rfl) d_Bh_takeLeaf_37 (fun r5 μ4 H locs h w => ?_)
    refine lv_iconst (v := 1) hx hb d_Bh_takeLeaf_40 (by decide) ?_
    refine lv_iadd hx hb d_Bh_takeLeaf_41 ?_
    refine lv_iload_n hx hb d_Bh_takeLeaf_42 rfl (lv_at hl 3 rfl) ?_
    refine lv_iadd hx hb d_Bh_takeLeaf_43 ?_
    refine lv_iload_n hx hb d_Bh_takeLeaf_44 rfl (lv_at hl 0 rfl) ?_
    refine z_cVv (As := [.int ((r5 + (1 : Int32)) + a2), .int r2]) (rest := []) (q0 := 2) (ci := 0) X w (c_Bk_setPointer l E μ4 ((r5 + (1 : Int32)) + a2) r2 _ h) rfl rfl rfl w_ml_Bh_94 ⟨w_im_Bk_setPointer, w_se_Bk_setPointer⟩ w_in_Bk w_co_Bk_setPointer q_Bk_setPointer.1 q_Bk_setPointer.2 rfl ⟨Nat.le_of_ble_eq_true rfl, Nat.le_of_ble_eq_true rfl⟩ ⟨Nat.zero_le _, Nat.zero_le _⟩ hl.1 rfl (Nat.le_of_ble_eq_true rfl) d_Bh_takeLeaf_45 (fun μ6 H locs h w => ?_)
    refine lv_iconst (v := 1) hx hb d_Bh_takeLeaf_48 (by decide) ?_
    exact z_zret X hr hlk w (by decide) h d_Bh_takeLeaf_49
  · have h := h.2 c3
    refine lv_aload_n hx hb d_Bh_takeLeaf_15 rfl (lv_at hl 1 rfl) ?_
    refine lv_iload_n hx hb d_Bh_takeLeaf_16 rfl (lv_at hl 2 rfl) ?_
    refine lv_iconst (v := (-1)) hx hb d_Bh_takeLeaf_17 (by decide) ?_
    refine z_cVv (As := [.int a1, .int (-1 : Int32)]) (rest := []) (q0 := 0) (ci := 5) X w (c_Bh_setRoot l E μ1 a1 (-1 : Int32) _ h) rfl rfl rfl w_ml_Bh_97 ⟨w_im_Bh_setRoot, w_se_Bh_setRoot⟩ w_in_Bh w_co_Bh_setRoot q_Bh_setRoot.1 q_Bh_setRoot.2 rfl ⟨Nat.le_of_ble_eq_true rfl, Nat.le_of_ble_eq_true rfl⟩ ⟨Nat.zero_le _, Nat.zero_le _⟩ hl.1 rfl (Nat.le_of_ble_eq_true rfl) d_Bh_takeLeaf_18 (fun μ7 H locs h w => ?_)
    refine lv_aload_n hx hb d_Bh_takeLeaf_21 rfl (lv_at hl 1 rfl) ?_
    refine gt_0_0 X w w_fl_Bh_12 d_Bh_takeLeaf_22 ?_
    refine z_cVi (As := []) (rest := []) (q0 := 1) (ci := 2) X w (c_Co_beginCycle l E μ7 _ h) rfl rfl rfl w_ml_Bh_100 ⟨w_im_Co_beginCycle, w_se_Co_beginCycle⟩ w_in_Co w_co_Co_beginCycle q_Co_beginCycle.1 q_Co_beginCycle.2 rfl ⟨Nat.le_of_ble_eq_true rfl, Nat.le_of_ble_eq_true rfl⟩ ⟨Nat.zero_le _, Nat.zero_le _⟩ hl.1 rfl (Nat.le_of_ble_eq_true rfl) d_Bh_takeLeaf_25 (fun r9 μ8 H locs h w => ?_)
    refine lv_pop hx hb d_Bh_takeLeaf_28 rfl ?_
    refine lv_iconst (v := 0) hx hb d_Bh_takeLeaf_29 (by decide) ?_
    exact z_zret X hr hlk w (by decide) h d_Bh_takeLeaf_30
theorem q_Bh_array : (y_Bh_array.cls ≠ "java/lang/invoke/MethodHandle" ∧ y_Bh_array.cls ≠ "java/lang/invoke/VarHandle") ∧ (parseMethodDescriptor y_Bh_array.desc).map (fun d => d.parameters.length) = some 2 := by decide +kernel
theorem d_Bh_array_0 : decode prog_1_method_4_code 0 = .ok (.iload_n 1, 1) := by decide +kernel
theorem d_Bh_array_1 : decode prog_1_method_4_code 1 = .ok (.invokestatic 46, 3) := by decide +kernel
theorem d_Bh_array_4 : decode prog_1_method_4_code 4 = .ok (.ifCond .eq 15, 3) := by decide +kernel
theorem d_Bh_array_7 : decode prog_1_method_4_code 7 = .ok (.iload_n 2, 1) := by decide +kernel
theorem d_Bh_array_8 : decode prog_1_method_4_code 8 = .ok (.bipush 32, 2) := by decide +kernel
theorem d_Bh_array_10 : decode prog_1_method_4_code 10 = .ok (.sipush 512, 3) := by decide +kernel
theorem d_Bh_array_13 : decode prog_1_method_4_code 13 = .ok (.invokestatic 42, 3) := by decide +kernel
theorem d_Bh_array_16 : decode prog_1_method_4_code 16 = .ok (.ifCond .ne 5, 3) := by decide +kernel
theorem d_Bh_array_19 : decode prog_1_method_4_code 19 = .ok (.iconst (-1), 1) := by decide +kernel
theorem d_Bh_array_20 : decode prog_1_method_4_code 20 = .ok (.ireturn, 1) := by decide +kernel
theorem d_Bh_array_21 : decode prog_1_method_4_code 21 = .ok (.iload_n 2, 1) := by decide +kernel
theorem d_Bh_array_22 : decode prog_1_method_4_code 22 = .ok (.bipush 32, 2) := by decide +kernel
theorem d_Bh_array_24 : decode prog_1_method_4_code 24 = .ok (.iadd, 1) := by decide +kernel
theorem d_Bh_array_25 : decode prog_1_method_4_code 25 = .ok (.iconst 1, 1) := by decide +kernel
theorem d_Bh_array_26 : decode prog_1_method_4_code 26 = .ok (.isub, 1) := by decide +kernel
theorem d_Bh_array_27 : decode prog_1_method_4_code 27 = .ok (.bipush 32, 2) := by decide +kernel
theorem d_Bh_array_29 : decode prog_1_method_4_code 29 = .ok (.idiv, 1) := by decide +kernel
theorem d_Bh_array_30 : decode prog_1_method_4_code 30 = .ok (.istore_n 3, 1) := by decide +kernel
theorem d_Bh_array_31 : decode prog_1_method_4_code 31 = .ok (.iload_n 3, 1) := by decide +kernel
theorem d_Bh_array_32 : decode prog_1_method_4_code 32 = .ok (.iconst 1, 1) := by decide +kernel
theorem d_Bh_array_33 : decode prog_1_method_4_code 33 = .ok (.iadd, 1) := by decide +kernel
theorem d_Bh_array_34 : decode prog_1_method_4_code 34 = .ok (.invokestatic 50, 3) := by decide +kernel
theorem d_Bh_array_37 : decode prog_1_method_4_code 37 = .ok (.istore 4, 2) := by decide +kernel
theorem d_Bh_array_39 : decode prog_1_method_4_code 39 = .ok (.aload_n 0, 1) := by decide +kernel
theorem d_Bh_array_40 : decode prog_1_method_4_code 40 = .ok (.iload_n 1, 1) := by decide +kernel
theorem d_Bh_array_41 : decode prog_1_method_4_code 41 = .ok (.iload 4, 2) := by decide +kernel
theorem d_Bh_array_43 : decode prog_1_method_4_code 43 = .ok (.iconst 2, 1) := by decide +kernel
theorem d_Bh_array_44 : decode prog_1_method_4_code 44 = .ok (.iload_n 3, 1) := by decide +kernel
theorem d_Bh_array_45 : decode prog_1_method_4_code 45 = .ok (.iload_n 2, 1) := by decide +kernel
theorem d_Bh_array_46 : decode prog_1_method_4_code 46 = .ok (.invokevirtual 54, 3) := by decide +kernel
theorem d_Bh_array_49 : decode prog_1_method_4_code 49 = .ok (.ifCond .ne 5, 3) := by decide +kernel
theorem d_Bh_array_52 : decode prog_1_method_4_code 52 = .ok (.iconst 0, 1) := by decide +kernel
theorem d_Bh_array_53 : decode prog_1_method_4_code 53 = .ok (.ireturn, 1) := by decide +kernel
theorem d_Bh_array_54 : decode prog_1_method_4_code 54 = .ok (.aload_n 0, 1) := by decide +kernel
theorem d_Bh_array_55 : decode prog_1_method_4_code 55 = .ok (.getfield 12, 3) := by decide +kernel
theorem d_Bh_array_58 : decode prog_1_method_4_code 58 = .ok (.iload 4, 2) := by decide +kernel
theorem d_Bh_array_60 : decode prog_1_method_4_code 60 = .ok (.invokestatic 58, 3) := by decide +kernel
theorem d_Bh_array_63 : decode prog_1_method_4_code 63 = .ok (.invokevirtual 61, 3) := by decide +kernel
theorem d_Bh_array_66 : decode prog_1_method_4_code 66 = .ok (.iconst 0, 1) := by decide +kernel
theorem d_Bh_array_67 : decode prog_1_method_4_code 67 = .ok (.istore 5, 2) := by decide +kernel
theorem d_Bh_array_69 : decode prog_1_method_4_code 69 = .ok (.iload 5, 2) := by decide +kernel
theorem d_Bh_array_71 : decode prog_1_method_4_code 71 = .ok (.iload_n 3, 1) := by decide +kernel
theorem d_Bh_array_72 : decode prog_1_method_4_code 72 = .ok (.if_icmp .ge 32, 3) := by decide +kernel
theorem d_Bh_array_75 : decode prog_1_method_4_code 75 = .ok (.aload_n 0, 1) := by decide +kernel
theorem d_Bh_array_76 : decode prog_1_method_4_code 76 = .ok (.iload_n 1, 1) := by decide +kernel
theorem d_Bh_array_77 : decode prog_1_method_4_code 77 = .ok (.iload 5, 2) := by decide +kernel
theorem d_Bh_array_79 : decode prog_1_method_4_code 79 = .ok (.invokevirtual 65, 3) := by decide +kernel
theorem d_Bh_array_82 : decode prog_1_method_4_code 82 = .ok (.ifCond .ne 5, 3) := by decide +kernel
theorem d_Bh_array_85 : decode prog_1_method_4_code 85 = .ok (.iconst 0, 1) := by decide +kernel
theorem d_Bh_array_86 : decode prog_1_method_4_code 86 = .ok (.ireturn, 1) := by decide +kernel
theorem d_Bh_array_87 : decode prog_1_method_4_code 87 = .ok (.aload_n 0, 1) := by decide +kernel
theorem d_Bh_array_88 : decode prog_1_method_4_code 88 = .ok (.getfield 12, 3) := by decide +kernel
theorem d_Bh_array_91 : decode prog_1_method_4_code 91 = .ok (.iconst 3, 1) := by decide +kernel
theorem d_Bh_array_92 : decode prog_1_method_4_code 92 = .ok (.invokestatic 58, 3) := by decide +kernel
theorem d_Bh_array_95 : decode prog_1_method_4_code 95 = .ok (.invokevirtual 61, 3) := by decide +kernel
theorem d_Bh_array_98 : decode prog_1_method_4_code 98 = .ok (.iinc 5 1, 3) := by decide +kernel
theorem d_Bh_array_101 : decode prog_1_method_4_code 101 = .ok (.goto (-32), 3) := by decide +kernel
theorem d_Bh_array_104 : decode prog_1_method_4_code 104 = .ok (.iconst 1, 1) := by decide +kernel
theorem d_Bh_array_105 : decode prog_1_method_4_code 105 = .ok (.ireturn, 1) := by decide +kernel
noncomputable def F_Bh_array_69 (K : Int32 → zM → Prop) (n : Nat) : Int32 → Int32 → Int32 → zM → Prop := Nat.rec (motive := fun _ => Int32 → Int32 → Int32 → zM → Prop) (fun _ _ _ _ => False) (fun _ ih x1 x3 x5 μ => (x3 ≤ x5 → (K (1 : Int32) μ)) ∧ (¬ x3 ≤ x5 → (f_Bh_takeLeaf μ x1 x5 (fun r18 μ17 => ((¬ r18 = 0 → (f_Bh_takeTicks μ17 (3 : Int32) (fun r21 μ20 => (f_Co_spend μ20 r21 (fun μ22 => (∀ x23 : Int32, x23 = x5 + 1 → (ih x1 x3 x23 μ22))))))) ∧ (r18 = 0 → (K (0 : Int32) μ17))))))) n
def f_Bh_array (μ : zM) (a1 a2 : Int32) (K : Int32 → zM → Prop) : Prop := f_Bh_isRoot μ a1 (fun r2 μ1 => ((r2 = 0 → (K (-1 : Int32) μ1)) ∧ (¬ r2 = 0 → (f_Bh_within μ1 a2 (32 : Int32) (512 : Int32) (fun r5 μ4 => ((¬ r5 = 0 → (∀ x7 : Int32, x7 = (((a2 + (32 : Int32)) - (1 : Int32)) / (32 : Int32)) → (f_Bh_leastClass μ4 (x7 + (1 : Int32)) (fun r9 μ8 => (f_Bh_takeForRoot μ8 a1 r9 (2 : Int32) x7 a2 (fun r11 μ10 => ((¬ r11 = 0 → (f_Bh_takeTicks μ10 r9 (fun r14 μ13 => (f_Co_spend μ13 r14 (fun μ15 => (∃ n : Nat, F_Bh_array_69 K n a1 x7 (0 : Int32) μ15)))))) ∧ (r11 = 0 → (K (0 : Int32) μ10))))))))) ∧ (r5 = 0 → (K (-1 : Int32) μ4))))))))
set_option maxHeartbeats 4000000 in
set_option maxRecDepth 100000 in
theorem L_Bh_array_69 {p : Program} {l : Launch} {e : Env} {s : State} {m : MethodId} {args : Array Value} {below : List Frame} {meth : Method} {c : Code} {E : zE} (X : zX E p s m args c prog_1_method_4_code "BeatHeap" 6) (hr : meth.sig.returnType = (some .int)) (hlk : meth.locks = false) (K : Int32 → zM → Prop) : ∀ (n : Nat) (x1 x3 x5 : Int32) (μ : zM) (H : Heap) (locs : List Loc) (ls : Array Slot), F_Bh_array_69 K n x1 x3 x5 μ → zW zwC E s μ H locs → lv_has ls 6 [(0, .ref (E.2.1 0)), (1, .int x1), (3, .int x3), (5, .int x5)] → W p l e { frames := 6, cells := 0, slots := 0, locals := 142 } s m args below meth c H locs 0 0 (MQ below (va_Qi K (zR zwC E) (zA E)) args s 0 0 (zA E)) (F0 m 69 ls []) := by
  have hx := X.1
  have hb := X.2.1
  intro n
  induction n with
  | zero => intro x1 x3 x5 μ H locs ls h; exact False.elim h
  | succ n ih =>
    intro x1 x3 x5 μ H locs ls h w hl
    refine lv_iload hx hb d_Bh_array_69 (lv_at hl 3 rfl) ?_
    refine lv_iload_n hx hb d_Bh_array_71 rfl (lv_at hl 2 rfl) ?_
    refine lv_icmp_ge (tgt := 104) hx hb d_Bh_array_72 (by decide) (fun c16 => ?_) (fun c16 => ?_)
    · have h := h.1 c16
      refine lv_iconst (v := 1) hx hb d_Bh_array_104 (by decide) ?_
      exact z_iret X hr hlk w h d_Bh_array_105
    · have h := h.2 c16
      refine lv_aload_n hx hb d_Bh_array_75 rfl (lv_at hl 0 rfl) ?_
      refine lv_iload_n hx hb d_Bh_array_76 rfl (lv_at hl 1 rfl) ?_
      refine lv_iload hx hb d_Bh_array_77 (lv_at hl 3 rfl) ?_
      refine z_cVi (As := [.int x1, .int x5]) (rest := []) (q0 := 0) (ci := 5) X w (c_Bh_takeLeaf l E μ x1 x5 _ h) rfl rfl rfl w_ml_Bh_65 ⟨w_im_Bh_takeLeaf, w_se_Bh_takeLeaf⟩ w_in_Bh w_co_Bh_takeLeaf q_Bh_takeLeaf.1 q_Bh_takeLeaf.2 rfl ⟨Nat.le_of_ble_eq_true rfl, Nat.le_of_ble_eq_true rfl⟩ ⟨Nat.zero_le _, Nat.zero_le _⟩ hl.1 rfl (Nat.le_of_ble_eq_true rfl) d_Bh_array_79 (fun r18 μ17 H locs h w => ?_)
      refine lv_if_ne (tgt := 87) hx hb d_Bh_array_82 (by decide) (fun c19 => ?_) (fun c19 => ?_)
      · have h := h.1 c19
        refine lv_aload_n hx hb d_Bh_array_87 rfl (lv_at hl 0 rfl) ?_
        refine gt_0_0 X w w_fl_Bh_12 d_Bh_array_88 ?_
        refine lv_iconst (v := 3) hx hb d_Bh_array_91 (by decide) ?_
        refine z_cSi (As := [.int (3 : Int32)]) (rest := [.ref (E.2.1 1)]) X w (c_Bh_takeTicks l E μ17 (3 : Int32) _ h) w_ml_Bh_58 w_st_Bh_takeTicks w_in_Bh w_co_Bh_takeTicks q_Bh_takeTicks.1 q_Bh_takeTicks.2 rfl ⟨Nat.le_of_ble_eq_true rfl, Nat.le_of_ble_eq_true rfl⟩ ⟨Nat.zero_le _, Nat.zero_le _⟩ hl.1 rfl (Nat.le_of_ble_eq_true rfl) d_Bh_array_92 (fun r21 μ20 H locs h w => ?_)
        refine z_cVv (As := [.int r21]) (rest := []) (q0 := 1) (ci := 2) X w (c_Co_spend l E μ20 r21 _ h) rfl rfl rfl w_ml_Bh_61 ⟨w_im_Co_spend, w_se_Co_spend⟩ w_in_Co w_co_Co_spend q_Co_spend.1 q_Co_spend.2 rfl ⟨Nat.le_of_ble_eq_true rfl, Nat.le_of_ble_eq_true rfl⟩ ⟨Nat.zero_le _, Nat.zero_le _⟩ hl.1 rfl (Nat.le_of_ble_eq_true rfl) d_Bh_array_95 (fun μ22 H locs h w => ?_)
        obtain ⟨x23, ex23⟩ : ∃ y : Int32, y = x5 + 1 := ⟨_, rfl⟩
        have h := h x23 ex23
        refine lv_iinc (v := x23) (lv' := [(5, .int x23), (0, .ref (E.2.1 0)), (1, .int x1), (3, .int x3)]) hx hb d_Bh_array_98 hl (k := 3) rfl (by rw [ex23]; rfl) (by decide) rfl (fun ls hl => ?_)
        refine lv_goto (tgt := 69) hx hb d_Bh_array_101 (by decide) ?_
        exact ih x1 x3 x23 μ22 _ _ _ h w (lv_sub hl [1, 2, 3, 0] rfl)
      · have h := h.2 c19
        refine lv_iconst (v := 0) hx hb d_Bh_array_85 (by decide) ?_
        exact z_iret X hr hlk w h d_Bh_array_86

set_option maxHeartbeats 4000000 in
set_option maxRecDepth 100000 in
theorem c_Bh_array (l : Launch) (E : zE) (μ : zM) (a1 a2 : Int32) (K : Int32 → zM → Prop) (h : f_Bh_array μ a1 a2 K) : Met l y_Bh_array (Cond.code y_Bh_array prog_1_method_4_code 6 (some .int) :: zT) { frames := 6, cells := 0, slots := 0, locals := 142 } (va_Pc [.ref (E.2.1 0), .int a1, .int a2] (zR zwC E μ)) (va_Qi K (zR zwC E) (zA E)) 0 0 (zA E) := by
  refine z_head (by decide) (Nat.le_of_ble_eq_true rfl) ?_
  intro p e s m below meth c X hr hlk w ls hl
  have X : zX E p s m _ c prog_1_method_4_code "BeatHeap" 6 := X
  have hx := X.1
  have hb := X.2.1
  have hl : lv_has ls 6 [(0, .ref (E.2.1 0)), (1, .int a1), (2, .int a2)] := hl
  unfold f_Bh_array at h
  refine lv_iload_n hx hb d_Bh_array_0 rfl (lv_at hl 1 rfl) ?_
  refine z_cSi (As := [.int a1]) (rest := []) X w (c_Bh_isRoot l E μ a1 _ h) w_ml_Bh_46 w_st_Bh_isRoot w_in_Bh w_co_Bh_isRoot q_Bh_isRoot.1 q_Bh_isRoot.2 rfl ⟨Nat.le_of_ble_eq_true rfl, Nat.le_of_ble_eq_true rfl⟩ ⟨Nat.zero_le _, Nat.zero_le _⟩ hl.1 rfl (Nat.le_of_ble_eq_true rfl) d_Bh_array_1 (fun r2 μ1 H locs h w => ?_)
  refine lv_if_eq (tgt := 19) hx hb d_Bh_array_4 (by decide) (fun c3 => ?_) (fun c3 => ?_)
  · have h := h.1 c3
    refine lv_iconst (v := (-1)) hx hb d_Bh_array_19 (by decide) ?_
    exact z_iret X hr hlk w h d_Bh_array_20
  · have h := h.2 c3
    refine lv_iload_n hx hb d_Bh_array_7 rfl (lv_at hl 2 rfl) ?_
    refine lv_bipush (v := 32) hx hb d_Bh_array_8 (by decide) ?_
    refine lv_sipush (v := 512) hx hb d_Bh_array_10 (by decide) ?_
    refine z_cSi (As := [.int a2, .int (32 : Int32), .int (512 : Int32)]) (rest := []) X w (c_Bh_within l E μ1 a2 (32 : Int32) (512 : Int32) _ h) w_ml_Bh_42 w_st_Bh_within w_in_Bh w_co_Bh_within q_Bh_within.1 q_Bh_within.2 rfl ⟨Nat.le_of_ble_eq_true rfl, Nat.le_of_ble_eq_true rfl⟩ ⟨Nat.zero_le _, Nat.zero_le _⟩ hl.1 rfl (Nat.le_of_ble_eq_true rfl) d_Bh_array_13 (fun r5 μ4 H locs h w => ?_)
    refine lv_if_ne (tgt := 21) hx hb d_Bh_array_16 (by decide) (fun c6 => ?_) (fun c6 => ?_)
    · have h := h.1 c6
      refine lv_iload_n hx hb d_Bh_array_21 rfl (lv_at hl 2 rfl) ?_
      refine lv_bipush (v := 32) hx hb d_Bh_array_22 (by decide) ?_
      refine lv_iadd hx hb d_Bh_array_24 ?_
      refine lv_iconst (v := 1) hx hb d_Bh_array_25 (by decide) ?_
      refine lv_isub hx hb d_Bh_array_26 ?_
      refine lv_bipush (v := 32) hx hb d_Bh_array_27 (by decide) ?_
      refine lv_idiv hx hb d_Bh_array_29 (by decide) ?_
      refine lv_topi (fun x7 ex7 => ?_)
      have h := h x7 ex7
      refine lv_istore_n (lv' := [(3, .int x7), (0, .ref (E.2.1 0)), (1, .int a1), (2, .int a2)]) hx hb d_Bh_array_30 rfl hl (by decide) rfl (fun ls hl => ?_)
      refine lv_iload_n hx hb d_Bh_array_31 rfl (lv_at hl 0 rfl) ?_
      refine lv_iconst (v := 1) hx hb d_Bh_array_32 (by decide) ?_
      refine lv_iadd hx hb d_Bh_array_33 ?_
      refine z_cSi (As := [.int (x7 + (1 : Int32))]) (rest := []) X w (c_Bh_leastClass l E μ4 (x7 + (1 : Int32)) _ h) w_ml_Bh_50 w_st_Bh_leastClass w_in_Bh w_co_Bh_leastClass q_Bh_leastClass.1 q_Bh_leastClass.2 rfl ⟨Nat.le_of_ble_eq_true rfl, Nat.le_of_ble_eq_true rfl⟩ ⟨Nat.zero_le _, Nat.zero_le _⟩ hl.1 rfl (Nat.le_of_ble_eq_true rfl) d_Bh_array_34 (fun r9 μ8 H locs h w => ?_)
      refine lv_istore (lv' := [(4, .int r9), (3, .int x7), (0, .ref (E.2.1 0)), (1, .int a1), (2, .int a2)]) hx hb d_Bh_array_37 hl (by decide) rfl (fun ls hl => ?_)
      refine lv_aload_n hx hb d_Bh_array_39 rfl (lv_at hl 2 rfl) ?_
      refine lv_iload_n hx hb d_Bh_array_40 rfl (lv_at hl 3 rfl) ?_
      refine lv_iload hx hb d_Bh_array_41 (lv_at hl 0 rfl) ?_
      refine lv_iconst (v := 2) hx hb d_Bh_array_43 (by decide) ?_
      refine lv_iload_n hx hb d_Bh_array_44 rfl (lv_at hl 1 rfl) ?_
      refine lv_iload_n hx hb d_Bh_array_45 rfl (lv_at hl 4 rfl) ?_
      refine z_cVi (As := [.int a1, .int r9, .int (2 : Int32), .int x7, .int a2]) (rest := []) (q0 := 0) (ci := 5) X w (c_Bh_takeForRoot l E μ8 a1 r9 (2 : Int32) x7 a2 _ h) rfl rfl rfl w_ml_Bh_54 ⟨w_im_Bh_takeForRoot, w_se_Bh_takeForRoot⟩ w_in_Bh w_co_Bh_takeForRoot q_Bh_takeForRoot.1 q_Bh_takeForRoot.2 rfl ⟨Nat.le_of_ble_eq_true rfl, Nat.le_of_ble_eq_true rfl⟩ ⟨Nat.zero_le _, Nat.zero_le _⟩ hl.1 rfl (Nat.le_of_ble_eq_true rfl) d_Bh_array_46 (fun r11 μ10 H locs h w => ?_)
      refine lv_if_ne (tgt := 54) hx hb d_Bh_array_49 (by decide) (fun c12 => ?_) (fun c12 => ?_)
      · have h := h.1 c12
        refine lv_aload_n hx hb d_Bh_array_54 rfl (lv_at hl 2 rfl) ?_
        refine gt_0_0 X w w_fl_Bh_12 d_Bh_array_55 ?_
        refine lv_iload hx hb d_Bh_array_58 (lv_at hl 0 rfl) ?_
        refine z_cSi (As := [.int r9]) (rest := [.ref (E.2.1 1)]) X w (c_Bh_takeTicks l E μ10 r9 _ h) w_ml_Bh_58 w_st_Bh_takeTicks w_in_Bh w_co_Bh_takeTicks q_Bh_takeTicks.1 q_Bh_takeTicks.2 rfl ⟨Nat.le_of_ble_eq_true rfl, Nat.le_of_ble_eq_true rfl⟩ ⟨Nat.zero_le _, Nat.zero_le _⟩ hl.1 rfl (Nat.le_of_ble_eq_true rfl) d_Bh_array_60 (fun r14 μ13 H locs h w => ?_)
        refine z_cVv (As := [.int r14]) (rest := []) (q0 := 1) (ci := 2) X w (c_Co_spend l E μ13 r14 _ h) rfl rfl rfl w_ml_Bh_61 ⟨w_im_Co_spend, w_se_Co_spend⟩ w_in_Co w_co_Co_spend q_Co_spend.1 q_Co_spend.2 rfl ⟨Nat.le_of_ble_eq_true rfl, Nat.le_of_ble_eq_true rfl⟩ ⟨Nat.zero_le _, Nat.zero_le _⟩ hl.1 rfl (Nat.le_of_ble_eq_true rfl) d_Bh_array_63 (fun μ15 H locs h w => ?_)
        refine lv_iconst (v := 0) hx hb d_Bh_array_66 (by decide) ?_
        refine lv_istore (lv' := [(5, .int (0 : Int32)), (4, .int r9), (3, .int x7), (0, .ref (E.2.1 0)), (1, .int a1), (2, .int a2)]) hx hb d_Bh_array_67 hl (by decide) rfl (fun ls hl => ?_)
        obtain ⟨n, h⟩ := h
        exact L_Bh_array_69 X hr hlk K n a1 x7 (0 : Int32) μ15 _ _ _ h w (lv_sub hl [3, 4, 2, 0] rfl)
      · have h := h.2 c12
        refine lv_iconst (v := 0) hx hb d_Bh_array_52 (by decide) ?_
        exact z_iret X hr hlk w h d_Bh_array_53
    · have h := h.2 c6
      refine lv_iconst (v := (-1)) hx hb d_Bh_array_19 (by decide) ?_
      exact z_iret X hr hlk w h d_Bh_array_20
theorem q_Bk_numbersOf : (y_Bk_numbersOf.cls ≠ "java/lang/invoke/MethodHandle" ∧ y_Bk_numbersOf.cls ≠ "java/lang/invoke/VarHandle") ∧ (parseMethodDescriptor y_Bk_numbersOf.desc).map (fun d => d.parameters.length) = some 1 := by decide +kernel
theorem d_Bk_numbersOf_0 : decode prog_2_method_11_code 0 = .ok (.aload_n 0, 1) := by decide +kernel
theorem d_Bk_numbersOf_1 : decode prog_2_method_11_code 1 = .ok (.iload_n 1, 1) := by decide +kernel
theorem d_Bk_numbersOf_2 : decode prog_2_method_11_code 2 = .ok (.invokevirtual 62, 3) := by decide +kernel
theorem d_Bk_numbersOf_5 : decode prog_2_method_11_code 5 = .ok (.ifCond .eq 14, 3) := by decide +kernel
theorem d_Bk_numbersOf_8 : decode prog_2_method_11_code 8 = .ok (.aload_n 0, 1) := by decide +kernel
theorem d_Bk_numbersOf_9 : decode prog_2_method_11_code 9 = .ok (.getfield 25, 3) := by decide +kernel
theorem d_Bk_numbersOf_12 : decode prog_2_method_11_code 12 = .ok (.iload_n 1, 1) := by decide +kernel
theorem d_Bk_numbersOf_13 : decode prog_2_method_11_code 13 = .ok (.iconst 4, 1) := by decide +kernel
theorem d_Bk_numbersOf_14 : decode prog_2_method_11_code 14 = .ok (.idiv, 1) := by decide +kernel
theorem d_Bk_numbersOf_15 : decode prog_2_method_11_code 15 = .ok (.iaload, 1) := by decide +kernel
theorem d_Bk_numbersOf_16 : decode prog_2_method_11_code 16 = .ok (.goto 4, 3) := by decide +kernel
theorem d_Bk_numbersOf_19 : decode prog_2_method_11_code 19 = .ok (.iconst 0, 1) := by decide +kernel
theorem d_Bk_numbersOf_20 : decode prog_2_method_11_code 20 = .ok (.ireturn, 1) := by decide +kernel
def f_Bk_numbersOf (μ : zM) (a1 : Int32) (K : Int32 → zM → Prop) : Prop := f_Bk_isInside μ a1 (fun r2 μ1 => ((r2 = 0 → (K (0 : Int32) μ1)) ∧ (¬ r2 = 0 → (vp_in (a1 / (4 : Int32)) 1024 ∧ (K (μ1 7 (a1 / (4 : Int32)).toNatClampNeg) μ1)))))
set_option maxHeartbeats 4000000 in
set_option maxRecDepth 100000 in
theorem c_Bk_numbersOf (l : Launch) (E : zE) (μ : zM) (a1 : Int32) (K : Int32 → zM → Prop) (h : f_Bk_numbersOf μ a1 K) : Met l y_Bk_numbersOf (Cond.code y_Bk_numbersOf prog_2_method_11_code 2 (some .int) :: zT) { frames := 1, cells := 0, slots := 0, locals := 21 } (va_Pc [.ref (E.2.1 2), .int a1] (zR zwC E μ)) (va_Qi K (zR zwC E) (zA E)) 0 0 (zA E) := by
  refine z_head (by decide) (Nat.le_of_ble_eq_true rfl) ?_
  intro p e s m below meth c X hr hlk w ls hl
  have X : zX E p s m _ c prog_2_method_11_code "BeatHeap$Blocks" 2 := X
  have hx := X.1
  have hb := X.2.1
  have hl : lv_has ls 2 [(0, .ref (E.2.1 2)), (1, .int a1)] := hl
  unfold f_Bk_numbersOf at h
  refine lv_aload_n hx hb d_Bk_numbersOf_0 rfl (lv_at hl 0 rfl) ?_
  refine lv_iload_n hx hb d_Bk_numbersOf_1 rfl (lv_at hl 1 rfl) ?_
  refine z_cVi (As := [.int a1]) (rest := []) (q0 := 2) (ci := 0) X w (c_Bk_isInside l E μ a1 _ h) rfl rfl rfl w_ml_Bk_62 ⟨w_im_Bk_isInside, w_se_Bk_isInside⟩ w_in_Bk w_co_Bk_isInside q_Bk_isInside.1 q_Bk_isInside.2 rfl ⟨Nat.le_of_ble_eq_true rfl, Nat.le_of_ble_eq_true rfl⟩ ⟨Nat.zero_le _, Nat.zero_le _⟩ hl.1 rfl (Nat.le_of_ble_eq_true rfl) d_Bk_numbersOf_2 (fun r2 μ1 H locs h w => ?_)
  refine lv_if_eq (tgt := 19) hx hb d_Bk_numbersOf_5 (by decide) (fun c3 => ?_) (fun c3 => ?_)
  · have h := h.1 c3
    refine lv_iconst (v := 0) hx hb d_Bk_numbersOf_19 (by decide) ?_
    exact z_iret X hr hlk w h d_Bk_numbersOf_20
  · have h := h.2 c3
    refine lv_aload_n hx hb d_Bk_numbersOf_8 rfl (lv_at hl 0 rfl) ?_
    refine gt_2_4 X w w_fl_Bk_25 d_Bk_numbersOf_9 ?_
    refine lv_iload_n hx hb d_Bk_numbersOf_12 rfl (lv_at hl 1 rfl) ?_
    refine lv_iconst (v := 4) hx hb d_Bk_numbersOf_13 (by decide) ?_
    refine lv_idiv hx hb d_Bk_numbersOf_14 (by decide) ?_
    obtain ⟨hi4, h⟩ := h
    refine al_7 X w hi4 d_Bk_numbersOf_15 ?_
    refine lv_goto (tgt := 20) hx hb d_Bk_numbersOf_16 (by decide) ?_
    exact z_iret X hr hlk w h d_Bk_numbersOf_20
