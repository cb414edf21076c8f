theorem q_Bh_begin : (y_Bh_begin.cls ≠ "java/lang/invoke/MethodHandle" ∧ y_Bh_begin.cls ≠ "java/lang/invoke/VarHandle") ∧ (parseMethodDescriptor y_Bh_begin.desc).map (fun d => d.parameters.length) = some 4 := by decide +kernel
theorem d_Bh_begin_0 : decode prog_1_method_2_code 0 = .ok (.iload_n 1, 1) := by decide +kernel
theorem d_Bh_begin_1 : decode prog_1_method_2_code 1 = .ok (.iconst 4, 1) := by decide +kernel
theorem d_Bh_begin_2 : decode prog_1_method_2_code 2 = .ok (.bipush 64, 2) := by decide +kernel
theorem d_Bh_begin_4 : decode prog_1_method_2_code 4 = .ok (.invokestatic 42, 3) := by decide +kernel
theorem d_Bh_begin_7 : decode prog_1_method_2_code 7 = .ok (.ifCond .eq 13, 3) := by decide +kernel
theorem d_Bh_begin_10 : decode prog_1_method_2_code 10 = .ok (.iload 4, 2) := by decide +kernel
theorem d_Bh_begin_12 : decode prog_1_method_2_code 12 = .ok (.iconst 0, 1) := by decide +kernel
theorem d_Bh_begin_13 : decode prog_1_method_2_code 13 = .ok (.iload_n 1, 1) := by decide +kernel
theorem d_Bh_begin_14 : decode prog_1_method_2_code 14 = .ok (.invokestatic 42, 3) := by decide +kernel
theorem d_Bh_begin_17 : decode prog_1_method_2_code 17 = .ok (.ifCond .ne 5, 3) := by decide +kernel
theorem d_Bh_begin_20 : decode prog_1_method_2_code 20 = .ok (.iconst 0, 1) := by decide +kernel
theorem d_Bh_begin_21 : decode prog_1_method_2_code 21 = .ok (.ireturn, 1) := by decide +kernel
theorem d_Bh_begin_22 : decode prog_1_method_2_code 22 = .ok (.iload_n 2, 1) := by decide +kernel
theorem d_Bh_begin_23 : decode prog_1_method_2_code 23 = .ok (.iconst 1, 1) := by decide +kernel
theorem d_Bh_begin_24 : decode prog_1_method_2_code 24 = .ok (.sipush 200, 3) := by decide +kernel
theorem d_Bh_begin_27 : decode prog_1_method_2_code 27 = .ok (.invokestatic 42, 3) := by decide +kernel
theorem d_Bh_begin_30 : decode prog_1_method_2_code 30 = .ok (.ifCond .eq 14, 3) := by decide +kernel
theorem d_Bh_begin_33 : decode prog_1_method_2_code 33 = .ok (.iload_n 3, 1) := by decide +kernel
theorem d_Bh_begin_34 : decode prog_1_method_2_code 34 = .ok (.iconst 1, 1) := by decide +kernel
theorem d_Bh_begin_35 : decode prog_1_method_2_code 35 = .ok (.sipush 200, 3) := by decide +kernel
theorem d_Bh_begin_38 : decode prog_1_method_2_code 38 = .ok (.invokestatic 42, 3) := by decide +kernel
theorem d_Bh_begin_41 : decode prog_1_method_2_code 41 = .ok (.ifCond .ne 5, 3) := by decide +kernel
theorem d_Bh_begin_44 : decode prog_1_method_2_code 44 = .ok (.iconst 0, 1) := by decide +kernel
theorem d_Bh_begin_45 : decode prog_1_method_2_code 45 = .ok (.ireturn, 1) := by decide +kernel
theorem d_Bh_begin_46 : decode prog_1_method_2_code 46 = .ok (.aload_n 0, 1) := by decide +kernel
theorem d_Bh_begin_47 : decode prog_1_method_2_code 47 = .ok (.iload_n 1, 1) := by decide +kernel
theorem d_Bh_begin_48 : decode prog_1_method_2_code 48 = .ok (.iload_n 2, 1) := by decide +kernel
theorem d_Bh_begin_49 : decode prog_1_method_2_code 49 = .ok (.iload_n 3, 1) := by decide +kernel
theorem d_Bh_begin_50 : decode prog_1_method_2_code 50 = .ok (.iload 4, 2) := by decide +kernel
theorem d_Bh_begin_52 : decode prog_1_method_2_code 52 = .ok (.invokevirtual 38, 3) := by decide +kernel
theorem d_Bh_begin_55 : decode prog_1_method_2_code 55 = .ok (.iconst 1, 1) := by decide +kernel
theorem d_Bh_begin_56 : decode prog_1_method_2_code 56 = .ok (.ireturn, 1) := by decide +kernel
def f_Bh_begin (μ : zM) (a1 a2 a3 a4 : Int32) (K : Int32 → zM → Prop) : Prop := f_Bh_within μ a1 (4 : Int32) (64 : Int32) (fun r2 μ1 => ((r2 = 0 → (K (0 : Int32) μ1)) ∧ (¬ r2 = 0 → (f_Bh_within μ1 a4 (0 : Int32) a1 (fun r5 μ4 => ((¬ r5 = 0 → (f_Bh_within μ4 a2 (1 : Int32) (200 : Int32) (fun r8 μ7 => ((r8 = 0 → (K (0 : Int32) μ7)) ∧ (¬ r8 = 0 → (f_Bh_within μ7 a3 (1 : Int32) (200 : Int32) (fun r11 μ10 => ((¬ r11 = 0 → (f_Bh_setAll μ10 a1 a2 a3 a4 (fun μ13 => (K (1 : Int32) μ13)))) ∧ (r11 = 0 → (K (0 : Int32) μ10)))))))))) ∧ (r5 = 0 → (K (0 : Int32) μ4))))))))
set_option maxHeartbeats 4000000 in
set_option maxRecDepth 100000 in
theorem c_Bh_begin (l : Launch) (E : zE) (μ : zM) (a1 a2 a3 a4 : Int32) (K : Int32 → zM → Prop) (h : f_Bh_begin μ a1 a2 a3 a4 K) : Met l y_Bh_begin (Cond.code y_Bh_begin prog_1_method_2_code 5 (some .boolean) :: zT) { frames := 3, cells := 0, slots := 0, locals := 68 } (va_Pc [.ref (E.2.1 0), .int a1, .int a2, .int a3, .int a4] (zR zwC E μ)) (va_Qi K (zR zwC E) (zA E)) 0 0 (zA E) := by
  refine z_head (by decide) (Nat.le_of_ble_eq_true rfl) ?_
  intro p e s m below meth c X hr hlk w ls hl
  have X : zX E p s m _ c prog_1_method_2_code "BeatHeap" 5 := X
  have hx := X.1
  have hb := X.2.1
  have hl : lv_has ls 5 [(0, .ref (E.2.1 0)), (1, .int a1), (2, .int a2), (3, .int a3), (4, .int a4)] := hl
  unfold f_Bh_begin at h
  refine lv_iload_n hx hb d_Bh_begin_0 rfl (lv_at hl 1 rfl) ?_
  refine lv_iconst (v := 4) hx hb d_Bh_begin_1 (by decide) ?_
  refine lv_bipush (v := 64) hx hb d_Bh_begin_2 (by decide) ?_
  refine z_cSi (As := [.int a1, .int (4 : Int32), .int (64 : Int32)]) (rest := []) X w (c_Bh_within l E μ a1 (4 : Int32) (64 : Int32) _ h) w_ml_Bh_42 w_st_Bh_within w_in_Bh w_co_Bh_within q_Bh_within.1 q_Bh_within.2 rfl ⟨Nat.le_of_ble_eq_true rfl, Nat.le_of_ble_eq_true rfl⟩ ⟨Nat.zero_le _, Nat.zero_le _⟩ hl.1 rfl (Nat.le_of_ble_eq_true rfl) d_Bh_begin_4 (fun r2 μ1 H locs h w => ?_)
  refine lv_if_eq (tgt := 20) hx hb d_Bh_begin_7 (by decide) (fun c3 => ?_) (fun c3 => ?_)
  · have h := h.1 c3
    refine lv_iconst (v := 0) hx hb d_Bh_begin_20 (by decide) ?_
    exact z_zret X hr hlk w (by decide) h d_Bh_begin_21
  · have h := h.2 c3
    refine lv_iload hx hb d_Bh_begin_10 (lv_at hl 4 rfl) ?_
    refine lv_iconst (v := 0) hx hb d_Bh_begin_12 (by decide) ?_
    refine lv_iload_n hx hb d_Bh_begin_13 rfl (lv_at hl 1 rfl) ?_
    refine z_cSi (As := [.int a4, .int (0 : Int32), .int a1]) (rest := []) X w (c_Bh_within l E μ1 a4 (0 : Int32) a1 _ h) w_ml_Bh_42 w_st_Bh_within w_in_Bh w_co_Bh_within q_Bh_within.1 q_Bh_within.2 rfl ⟨Nat.le_of_ble_eq_true rfl, Nat.le_of_ble_eq_true rfl⟩ ⟨Nat.zero_le _, Nat.zero_le _⟩ hl.1 rfl (Nat.le_of_ble_eq_true rfl) d_Bh_begin_14 (fun r5 μ4 H locs h w => ?_)
    refine lv_if_ne (tgt := 22) hx hb d_Bh_begin_17 (by decide) (fun c6 => ?_) (fun c6 => ?_)
    · have h := h.1 c6
      refine lv_iload_n hx hb d_Bh_begin_22 rfl (lv_at hl 2 rfl) ?_
      refine lv_iconst (v := 1) hx hb d_Bh_begin_23 (by decide) ?_
      refine lv_sipush (v := 200) hx hb d_Bh_begin_24 (by decide) ?_
      refine z_cSi (As := [.int a2, .int (1 : Int32), .int (200 : Int32)]) (rest := []) X w (c_Bh_within l E μ4 a2 (1 : Int32) (200 : Int32) _ h) w_ml_Bh_42 w_st_Bh_within w_in_Bh w_co_Bh_within q_Bh_within.1 q_Bh_within.2 rfl ⟨Nat.le_of_ble_eq_true rfl, Nat.le_of_ble_eq_true rfl⟩ ⟨Nat.zero_le _, Nat.zero_le _⟩ hl.1 rfl (Nat.le_of_ble_eq_true rfl) d_Bh_begin_27 (fun r8 μ7 H locs h w => ?_)
      refine lv_if_eq (tgt := 44) hx hb d_Bh_begin_30 (by decide) (fun c9 => ?_) (fun c9 => ?_)
      · have h := h.1 c9
        refine lv_iconst (v := 0) hx hb d_Bh_begin_44 (by decide) ?_
        exact z_zret X hr hlk w (by decide) h d_Bh_begin_45
      · have h := h.2 c9
        refine lv_iload_n hx hb d_Bh_begin_33 rfl (lv_at hl 3 rfl) ?_
        refine lv_iconst (v := 1) hx hb d_Bh_begin_34 (by decide) ?_
        refine lv_sipush (v := 200) hx hb d_Bh_begin_35 (by decide) ?_
        refine z_cSi (As := [.int a3, .int (1 : Int32), .int (200 : Int32)]) (rest := []) X w (c_Bh_within l E μ7 a3 (1 : Int32) (200 : Int32) _ h) w_ml_Bh_42 w_st_Bh_within w_in_Bh w_co_Bh_within q_Bh_within.1 q_Bh_within.2 rfl ⟨Nat.le_of_ble_eq_true rfl, Nat.le_of_ble_eq_true rfl⟩ ⟨Nat.zero_le _, Nat.zero_le _⟩ hl.1 rfl (Nat.le_of_ble_eq_true rfl) d_Bh_begin_38 (fun r11 μ10 H locs h w => ?_)
        refine lv_if_ne (tgt := 46) hx hb d_Bh_begin_41 (by decide) (fun c12 => ?_) (fun c12 => ?_)
        · have h := h.1 c12
          refine lv_aload_n hx hb d_Bh_begin_46 rfl (lv_at hl 0 rfl) ?_
          refine lv_iload_n hx hb d_Bh_begin_47 rfl (lv_at hl 1 rfl) ?_
          refine lv_iload_n hx hb d_Bh_begin_48 rfl (lv_at hl 2 rfl) ?_
          refine lv_iload_n hx hb d_Bh_begin_49 rfl (lv_at hl 3 rfl) ?_
          refine lv_iload hx hb d_Bh_begin_50 (lv_at hl 4 rfl) ?_
          refine z_cVv (As := [.int a1, .int a2, .int a3, .int a4]) (rest := []) (q0 := 0) (ci := 5) X w (c_Bh_setAll l E μ10 a1 a2 a3 a4 _ h) rfl rfl rfl w_ml_Bh_38 ⟨w_im_Bh_setAll, w_se_Bh_setAll⟩ w_in_Bh w_co_Bh_setAll q_Bh_setAll.1 q_Bh_setAll.2 rfl ⟨Nat.le_of_ble_eq_true rfl, Nat.le_of_ble_eq_true rfl⟩ ⟨Nat.zero_le _, Nat.zero_le _⟩ hl.1 rfl (Nat.le_of_ble_eq_true rfl) d_Bh_begin_52 (fun μ13 H locs h w => ?_)
          refine lv_iconst (v := 1) hx hb d_Bh_begin_55 (by decide) ?_
          exact z_zret X hr hlk w (by decide) h d_Bh_begin_56
        · have h := h.2 c12
          refine lv_iconst (v := 0) hx hb d_Bh_begin_44 (by decide) ?_
          exact z_zret X hr hlk w (by decide) h d_Bh_begin_45
    · have h := h.2 c6
      refine lv_iconst (v := 0) hx hb d_Bh_begin_20 (by decide) ?_
      exact z_zret X hr hlk w (by decide) h d_Bh_begin_21
theorem q_Bh_isRoot : (y_Bh_isRoot.cls ≠ "java/lang/invoke/MethodHandle" ∧ y_Bh_isRoot.cls ≠ "java/lang/invoke/VarHandle") ∧ (parseMethodDescriptor y_Bh_isRoot.desc).map (fun d => d.parameters.length) = some 1 := by decide +kernel
theorem d_Bh_isRoot_0 : decode prog_1_method_21_code 0 = .ok (.iload_n 0, 1) := by decide +kernel
theorem d_Bh_isRoot_1 : decode prog_1_method_21_code 1 = .ok (.ifCond .lt 13, 3) := by decide +kernel
theorem d_Bh_isRoot_4 : decode prog_1_method_21_code 4 = .ok (.iload_n 0, 1) := by decide +kernel
theorem d_Bh_isRoot_5 : decode prog_1_method_21_code 5 = .ok (.bipush 16, 2) := by decide +kernel
theorem d_Bh_isRoot_7 : decode prog_1_method_21_code 7 = .ok (.if_icmp .ge 7, 3) := by decide +kernel
theorem d_Bh_isRoot_10 : decode prog_1_method_21_code 10 = .ok (.iconst 1, 1) := by decide +kernel
theorem d_Bh_isRoot_11 : decode prog_1_method_21_code 11 = .ok (.goto 4, 3) := by decide +kernel
theorem d_Bh_isRoot_14 : decode prog_1_method_21_code 14 = .ok (.iconst 0, 1) := by decide +kernel
theorem d_Bh_isRoot_15 : decode prog_1_method_21_code 15 = .ok (.ireturn, 1) := by decide +kernel
def f_Bh_isRoot (μ : zM) (a0 : Int32) (K : Int32 → zM → Prop) : Prop := (a0 < 0 → (K (0 : Int32) μ)) ∧ (¬ a0 < 0 → (((16 : Int32) ≤ a0 → (K (0 : Int32) μ)) ∧ (¬ (16 : Int32) ≤ a0 → (K (1 : Int32) μ))))
set_option maxHeartbeats 4000000 in
set_option maxRecDepth 100000 in
theorem c_Bh_isRoot (l : Launch) (E : zE) (μ : zM) (a0 : Int32) (K : Int32 → zM → Prop) (h : f_Bh_isRoot μ a0 K) : Met l y_Bh_isRoot (Cond.code y_Bh_isRoot prog_1_method_21_code 1 (some .boolean) :: zT) { frames := 0, cells := 0, slots := 0, locals := 0 } (va_Pc [.int a0] (zR zwC E μ)) (va_Qi K (zR zwC E) (zA E)) 0 0 (zA E) := by
  refine z_head (by decide) (Nat.le_of_ble_eq_true rfl) ?_
  intro p e s m below meth c X hr hlk w ls hl
  have X : zX E p s m _ c prog_1_method_21_code "BeatHeap" 1 := X
  have hx := X.1
  have hb := X.2.1
  have hl : lv_has ls 1 [(0, .int a0)] := hl
  unfold f_Bh_isRoot at h
  refine lv_iload_n hx hb d_Bh_isRoot_0 rfl (lv_at hl 0 rfl) ?_
  refine lv_if_lt (tgt := 14) hx hb d_Bh_isRoot_1 (by decide) (fun c1 => ?_) (fun c1 => ?_)
  · have h := h.1 c1
    refine lv_iconst (v := 0) hx hb d_Bh_isRoot_14 (by decide) ?_
    exact z_zret X hr hlk w (by decide) h d_Bh_isRoot_15
  · have h := h.2 c1
    refine lv_iload_n hx hb d_Bh_isRoot_4 rfl (lv_at hl 0 rfl) ?_
    refine lv_bipush (v := 16) hx hb d_Bh_isRoot_5 (by decide) ?_
    refine lv_icmp_ge (tgt := 14) hx hb d_Bh_isRoot_7 (by decide) (fun c2 => ?_) (fun c2 => ?_)
    · have h := h.1 c2
      refine lv_iconst (v := 0) hx hb d_Bh_isRoot_14 (by decide) ?_
      exact z_zret X hr hlk w (by decide) h d_Bh_isRoot_15
    · have h := h.2 c2
      refine lv_iconst (v := 1) hx hb d_Bh_isRoot_10 (by decide) ?_
      refine lv_goto (tgt := 15) hx hb d_Bh_isRoot_11 (by decide) ?_
      exact z_zret X hr hlk w (by decide) h d_Bh_isRoot_15
theorem q_Bh_leastClass : (y_Bh_leastClass.cls ≠ "java/lang/invoke/MethodHandle" ∧ y_Bh_leastClass.cls ≠ "java/lang/invoke/VarHandle") ∧ (parseMethodDescriptor y_Bh_leastClass.desc).map (fun d => d.parameters.length) = some 1 := by decide +kernel
theorem d_Bh_leastClass_0 : decode prog_1_method_25_code 0 = .ok (.iconst 0, 1) := by decide +kernel
theorem d_Bh_leastClass_1 : decode prog_1_method_25_code 1 = .ok (.istore_n 1, 1) := by decide +kernel
theorem d_Bh_leastClass_2 : decode prog_1_method_25_code 2 = .ok (.iload_n 1, 1) := by decide +kernel
theorem d_Bh_leastClass_3 : decode prog_1_method_25_code 3 = .ok (.getstatic 166, 3) := by decide +kernel
theorem d_Bh_leastClass_6 : decode prog_1_method_25_code 6 = .ok (.arraylength, 1) := by decide +kernel
theorem d_Bh_leastClass_7 : decode prog_1_method_25_code 7 = .ok (.if_icmp .ge 20, 3) := by decide +kernel
theorem d_Bh_leastClass_10 : decode prog_1_method_25_code 10 = .ok (.iload_n 0, 1) := by decide +kernel
theorem d_Bh_leastClass_11 : decode prog_1_method_25_code 11 = .ok (.getstatic 166, 3) := by decide +kernel
theorem d_Bh_leastClass_14 : decode prog_1_method_25_code 14 = .ok (.iload_n 1, 1) := by decide +kernel
theorem d_Bh_leastClass_15 : decode prog_1_method_25_code 15 = .ok (.iaload, 1) := by decide +kernel
theorem d_Bh_leastClass_16 : decode prog_1_method_25_code 16 = .ok (.if_icmp .gt 5, 3) := by decide +kernel
theorem d_Bh_leastClass_19 : decode prog_1_method_25_code 19 = .ok (.iload_n 1, 1) := by decide +kernel
theorem d_Bh_leastClass_20 : decode prog_1_method_25_code 20 = .ok (.ireturn, 1) := by decide +kernel
theorem d_Bh_leastClass_21 : decode prog_1_method_25_code 21 = .ok (.iinc 1 1, 3) := by decide +kernel
theorem d_Bh_leastClass_24 : decode prog_1_method_25_code 24 = .ok (.goto (-22), 3) := by decide +kernel
theorem d_Bh_leastClass_27 : decode prog_1_method_25_code 27 = .ok (.iconst (-1), 1) := by decide +kernel
theorem d_Bh_leastClass_28 : decode prog_1_method_25_code 28 = .ok (.ireturn, 1) := by decide +kernel
noncomputable def F_Bh_leastClass_2 (K : Int32 → zM → Prop) (n : Nat) : Int32 → Int32 → zM → Prop := Nat.rec (motive := fun _ => Int32 → Int32 → zM → Prop) (fun _ _ _ => False) (fun _ ih x0 x1 μ => ((4 : Int32) ≤ x1 → (K (-1 : Int32) μ)) ∧ (¬ (4 : Int32) ≤ x1 → (vp_in x1 4 ∧ (((zb1 x1.toNatClampNeg) < x0 → (∀ x4 : Int32, x4 = x1 + 1 → (ih x0 x4 μ))) ∧ (¬ (zb1 x1.toNatClampNeg) < x0 → (K x1 μ)))))) n
def f_Bh_leastClass (μ : zM) (a0 : Int32) (K : Int32 → zM → Prop) : Prop := ∃ n : Nat, F_Bh_leastClass_2 K n a0 (0 : Int32) μ
set_option maxHeartbeats 4000000 in
set_option maxRecDepth 100000 in
theorem L_Bh_leastClass_2 {p : Program} {l : Launch} {e : Env} {s : State} {m : MethodId} {args : Array Value} {below : List Frame} {meth : Method} {c : Code} {E : zE} (X : zX E p s m args c prog_1_method_25_code "BeatHeap" 2) (hr : meth.sig.returnType = (some .int)) (hlk : meth.locks = false) (K : Int32 → zM → Prop) : ∀ (n : Nat) (x0 x1 : Int32) (μ : zM) (H : Heap) (locs : List Loc) (ls : Array Slot), F_Bh_leastClass_2 K n x0 x1 μ → zW zwC E s μ H locs → lv_has ls 2 [(0, .int x0), (1, .int x1)] → W p l e { frames := 0, cells := 0, slots := 0, locals := 0 } s m args below meth c H locs 0 0 (MQ below (va_Qi K (zR zwC E) (zA E)) args s 0 0 (zA E)) (F0 m 2 ls []) := by
  have hx := X.1
  have hb := X.2.1
  intro n
  induction n with
  | zero => intro x0 x1 μ H locs ls h; exact False.elim h
  | succ n ih =>
    intro x0 x1 μ H locs ls h w hl
    refine lv_iload_n hx hb d_Bh_leastClass_2 rfl (lv_at hl 1 rfl) ?_
    refine sg_1 X w w_fl_Bh_166 d_Bh_leastClass_3 ?_
    refine sn_1 (v := 4) X w (by decide) d_Bh_leastClass_6 ?_
    refine lv_icmp_ge (tgt := 27) hx hb d_Bh_leastClass_7 (by decide) (fun c1 => ?_) (fun c1 => ?_)
    · have h := h.1 c1
      refine lv_iconst (v := (-1)) hx hb d_Bh_leastClass_27 (by decide) ?_
      exact z_iret X hr hlk w h d_Bh_leastClass_28
    · have h := h.2 c1
      refine lv_iload_n hx hb d_Bh_leastClass_10 rfl (lv_at hl 0 rfl) ?_
      refine sg_1 X w w_fl_Bh_166 d_Bh_leastClass_11 ?_
      refine lv_iload_n hx hb d_Bh_leastClass_14 rfl (lv_at hl 1 rfl) ?_
      obtain ⟨hi2, h⟩ := h
      refine sl_1 X w hi2 d_Bh_leastClass_15 ?_
      refine lv_icmp_gt (tgt := 21) hx hb d_Bh_leastClass_16 (by decide) (fun c3 => ?_) (fun c3 => ?_)
      · have h := h.1 c3
        obtain ⟨x4, ex4⟩ : ∃ y : Int32, y = x1 + 1 := ⟨_, rfl⟩
        have h := h x4 ex4
        refine lv_iinc (v := x4) (lv' := [(1, .int x4), (0, .int x0)]) hx hb d_Bh_leastClass_21 hl (k := 1) rfl (by rw [ex4]; rfl) (by decide) rfl (fun ls hl => ?_)
        refine lv_goto (tgt := 2) hx hb d_Bh_leastClass_24 (by decide) ?_
        exact ih x0 x4 μ _ _ _ h w (lv_sub hl [1, 0] rfl)
      · have h := h.2 c3
        refine lv_iload_n hx hb d_Bh_leastClass_19 rfl (lv_at hl 1 rfl) ?_
        exact z_iret X hr hlk w h d_Bh_leastClass_20

set_option maxHeartbeats 4000000 in
set_option maxRecDepth 100000 in
theorem c_Bh_leastClass (l : Launch) (E : zE) (μ : zM) (a0 : Int32) (K : Int32 → zM → Prop) (h : f_Bh_leastClass μ a0 K) : Met l y_Bh_leastClass (Cond.code y_Bh_leastClass prog_1_method_25_code 2 (some .int) :: zT) { frames := 0, cells := 0, slots := 0, locals := 0 } (va_Pc [.int a0] (zR zwC E μ)) (va_Qi K (zR zwC E) (zA E)) 0 0 (zA E) := by
  refine z_head (by decide) (Nat.le_of_ble_eq_true rfl) ?_
  intro p e s m below meth c X hr hlk w ls hl
  have X : zX E p s m _ c prog_1_method_25_code "BeatHeap" 2 := X
  have hx := X.1
  have hb := X.2.1
  have hl : lv_has ls 2 [(0, .int a0)] := hl
  unfold f_Bh_leastClass at h
  refine lv_iconst (v := 0) hx hb d_Bh_leastClass_0 (by decide) ?_
  refine lv_istore_n (lv' := [(1, .int (0 : Int32)), (0, .int a0)]) hx hb d_Bh_leastClass_1 rfl hl (by decide) rfl (fun ls hl => ?_)
  obtain ⟨n, h⟩ := h
  exact L_Bh_leastClass_2 X hr hlk K n a0 (0 : Int32) μ _ _ _ h w (lv_sub hl [1, 0] rfl)
theorem q_Bh_isClass : (y_Bh_isClass.cls ≠ "java/lang/invoke/MethodHandle" ∧ y_Bh_isClass.cls ≠ "java/lang/invoke/VarHandle") ∧ (parseMethodDescriptor y_Bh_isClass.desc).map (fun d => d.parameters.length) = some 1 := by decide +kernel
theorem d_Bh_isClass_0 : decode prog_1_method_22_code 0 = .ok (.iload_n 0, 1) := by decide +kernel
theorem d_Bh_isClass_1 : decode prog_1_method_22_code 1 = .ok (.ifCond .lt 15, 3) := by decide +kernel
theorem d_Bh_isClass_4 : decode prog_1_method_22_code 4 = .ok (.iload_n 0, 1) := by decide +kernel
theorem d_Bh_isClass_5 : decode prog_1_method_22_code 5 = .ok (.getstatic 166, 3) := by decide +kernel
theorem d_Bh_isClass_8 : decode prog_1_method_22_code 8 = .ok (.arraylength, 1) := by decide +kernel
theorem d_Bh_isClass_9 : decode prog_1_method_22_code 9 = .ok (.if_icmp .ge 7, 3) := by decide +kernel
theorem d_Bh_isClass_12 : decode prog_1_method_22_code 12 = .ok (.iconst 1, 1) := by decide +kernel
theorem d_Bh_isClass_13 : decode prog_1_method_22_code 13 = .ok (.goto 4, 3) := by decide +kernel
theorem d_Bh_isClass_16 : decode prog_1_method_22_code 16 = .ok (.iconst 0, 1) := by decide +kernel
theorem d_Bh_isClass_17 : decode prog_1_method_22_code 17 = .ok (.ireturn, 1) := by decide +kernel
def f_Bh_isClass (μ : zM) (a0 : Int32) (K : Int32 → zM → Prop) : Prop := (a0 < 0 → (K (0 : Int32) μ)) ∧ (¬ a0 < 0 → (((4 : Int32) ≤ a0 → (K (0 : Int32) μ)) ∧ (¬ (4 : Int32) ≤ a0 → (K (1 : Int32) μ))))
set_option maxHeartbeats 4000000 in
set_option maxRecDepth 100000 in
theorem c_Bh_isClass (l : Launch) (E : zE) (μ : zM) (a0 : Int32) (K : Int32 → zM → Prop) (h : f_Bh_isClass μ a0 K) : Met l y_Bh_isClass (Cond.code y_Bh_isClass prog_1_method_22_code 1 (some .boolean) :: zT) { frames := 0, cells := 0, slots := 0, locals := 0 } (va_Pc [.int a0] (zR zwC E μ)) (va_Qi K (zR zwC E) (zA E)) 0 0 (zA E) := by
  refine z_head (by decide) (Nat.le_of_ble_eq_true rfl) ?_
  intro p e s m below meth c X hr hlk w ls hl
  have X : zX E p s m _ c prog_1_method_22_code "BeatHeap" 1 := X
  have hx := X.1
  have hb := X.2.1
  have hl : lv_has ls 1 [(0, .int a0)] := hl
  unfold f_Bh_isClass at h
  refine lv_iload_n hx hb d_Bh_isClass_0 rfl (lv_at hl 0 rfl) ?_
  refine lv_if_lt (tgt := 16) hx hb d_Bh_isClass_1 (by decide) (fun c1 => ?_) (fun c1 => ?_)
  · have h := h.1 c1
    refine lv_iconst (v := 0) hx hb d_Bh_isClass_16 (by decide) ?_
    exact z_zret X hr hlk w (by decide) h d_Bh_isClass_17
  · have h := h.2 c1
    refine lv_iload_n hx hb d_Bh_isClass_4 rfl (lv_at hl 0 rfl) ?_
    refine sg_1 X w w_fl_Bh_166 d_Bh_isClass_5 ?_
    refine sn_1 (v := 4) X w (by decide) d_Bh_isClass_8 ?_
    refine lv_icmp_ge (tgt := 16) hx hb d_Bh_isClass_9 (by decide) (fun c2 => ?_) (fun c2 => ?_)
    · have h := h.1 c2
      refine lv_iconst (v := 0) hx hb d_Bh_isClass_16 (by decide) ?_
      exact z_zret X hr hlk w (by decide) h d_Bh_isClass_17
    · have h := h.2 c2
      refine lv_iconst (v := 1) hx hb d_Bh_isClass_12 (by decide) ?_
      refine lv_goto (tgt := 17) hx hb d_Bh_isClass_13 (by decide) ?_
      exact z_zret X hr hlk w (by decide) h d_Bh_isClass_17
theorem q_Bh_blockWords : (y_Bh_blockWords.cls ≠ "java/lang/invoke/MethodHandle" ∧ y_Bh_blockWords.cls ≠ "java/lang/invoke/VarHandle") ∧ (parseMethodDescriptor y_Bh_blockWords.desc).map (fun d => d.parameters.length) = some 1 := by decide +kernel
theorem d_Bh_blockWords_0 : decode prog_1_method_23_code 0 = .ok (.iload_n 0, 1) := by decide +kernel
theorem d_Bh_blockWords_1 : decode prog_1_method_23_code 1 = .ok (.invokestatic 169, 3) := by decide +kernel
theorem d_Bh_blockWords_4 : decode prog_1_method_23_code 4 = .ok (.ifCond .eq 11, 3) := by decide +kernel
theorem d_Bh_blockWords_7 : decode prog_1_method_23_code 7 = .ok (.getstatic 166, 3) := by decide +kernel
theorem d_Bh_blockWords_10 : decode prog_1_method_23_code 10 = .ok (.iload_n 0, 1) := by decide +kernel
theorem d_Bh_blockWords_11 : decode prog_1_method_23_code 11 = .ok (.iaload, 1) := by decide +kernel
theorem d_Bh_blockWords_12 : decode prog_1_method_23_code 12 = .ok (.goto 5, 3) := by decide +kernel
theorem d_Bh_blockWords_15 : decode prog_1_method_23_code 15 = .ok (.bipush 64, 2) := by decide +kernel
theorem d_Bh_blockWords_17 : decode prog_1_method_23_code 17 = .ok (.ireturn, 1) := by decide +kernel
def f_Bh_blockWords (μ : zM) (a0 : Int32) (K : Int32 → zM → Prop) : Prop := f_Bh_isClass μ a0 (fun r2 μ1 => ((r2 = 0 → (K (64 : Int32) μ1)) ∧ (¬ r2 = 0 → (vp_in a0 4 ∧ (K (zb1 a0.toNatClampNeg) μ1)))))
set_option maxHeartbeats 4000000 in
set_option maxRecDepth 100000 in
theorem c_Bh_blockWords (l : Launch) (E : zE) (μ : zM) (a0 : Int32) (K : Int32 → zM → Prop) (h : f_Bh_blockWords μ a0 K) : Met l y_Bh_blockWords (Cond.code y_Bh_blockWords prog_1_method_23_code 1 (some .int) :: zT) { frames := 1, cells := 0, slots := 0, locals := 20 } (va_Pc [.int a0] (zR zwC E μ)) (va_Qi K (zR zwC E) (zA E)) 0 0 (zA E) := by
  refine z_head (by decide) (Nat.le_of_ble_eq_true rfl) ?_
  intro p e s m below meth c X hr hlk w ls hl
  have X : zX E p s m _ c prog_1_method_23_code "BeatHeap" 1 := X
  have hx := X.1
  have hb := X.2.1
  have hl : lv_has ls 1 [(0, .int a0)] := hl
  unfold f_Bh_blockWords at h
  refine lv_iload_n hx hb d_Bh_blockWords_0 rfl (lv_at hl 0 rfl) ?_
  refine z_cSi (As := [.int a0]) (rest := []) X w (c_Bh_isClass l E μ a0 _ h) w_ml_Bh_169 w_st_Bh_isClass w_in_Bh w_co_Bh_isClass q_Bh_isClass.1 q_Bh_isClass.2 rfl ⟨Nat.le_of_ble_eq_true rfl, Nat.le_of_ble_eq_true rfl⟩ ⟨Nat.zero_le _, Nat.zero_le _⟩ hl.1 rfl (Nat.le_of_ble_eq_true rfl) d_Bh_blockWords_1 (fun r2 μ1 H locs h w => ?_)
  refine lv_if_eq (tgt := 15) hx hb d_Bh_blockWords_4 (by decide) (fun c3 => ?_) (fun c3 => ?_)
  · have h := h.1 c3
    refine lv_bipush (v := 64) hx hb d_Bh_blockWords_15 (by decide) ?_
    exact z_iret X hr hlk w h d_Bh_blockWords_17
  · have h := h.2 c3
    refine sg_1 X w w_fl_Bh_166 d_Bh_blockWords_7 ?_
    refine lv_iload_n hx hb d_Bh_blockWords_10 rfl (lv_at hl 0 rfl) ?_
    obtain ⟨hi4, h⟩ := h
    refine sl_1 X w hi4 d_Bh_blockWords_11 ?_
    refine lv_goto (tgt := 17) hx hb d_Bh_blockWords_12 (by decide) ?_
    exact z_iret X hr hlk w h d_Bh_blockWords_17
theorem q_Bk_openPage : (y_Bk_openPage.cls ≠ "java/lang/invoke/MethodHandle" ∧ y_Bk_openPage.cls ≠ "java/lang/invoke/VarHandle") ∧ (parseMethodDescriptor y_Bk_openPage.desc).map (fun d => d.parameters.length) = some 1 := by decide +kernel
theorem d_Bk_openPage_0 : decode prog_2_method_19_code 0 = .ok (.iconst 0, 1) := by decide +kernel
theorem d_Bk_openPage_1 : decode prog_2_method_19_code 1 = .ok (.istore_n 2, 1) := by decide +kernel
theorem d_Bk_openPage_2 : decode prog_2_method_19_code 2 = .ok (.iload_n 2, 1) := by decide +kernel
theorem d_Bk_openPage_3 : decode prog_2_method_19_code 3 = .ok (.aload_n 0, 1) := by decide +kernel
theorem d_Bk_openPage_4 : decode prog_2_method_19_code 4 = .ok (.getfield 49, 3) := by decide +kernel
theorem d_Bk_openPage_7 : decode prog_2_method_19_code 7 = .ok (.if_icmp .ge 38, 3) := by decide +kernel
theorem d_Bk_openPage_10 : decode prog_2_method_19_code 10 = .ok (.aload_n 0, 1) := by decide +kernel
theorem d_Bk_openPage_11 : decode prog_2_method_19_code 11 = .ok (.getfield 28, 3) := by decide +kernel
theorem d_Bk_openPage_14 : decode prog_2_method_19_code 14 = .ok (.iload_n 2, 1) := by decide +kernel
theorem d_Bk_openPage_15 : decode prog_2_method_19_code 15 = .ok (.iaload, 1) := by decide +kernel
theorem d_Bk_openPage_16 : decode prog_2_method_19_code 16 = .ok (.iconst (-1), 1) := by decide +kernel
theorem d_Bk_openPage_17 : decode prog_2_method_19_code 17 = .ok (.if_icmp .ne 22, 3) := by decide +kernel
theorem d_Bk_openPage_20 : decode prog_2_method_19_code 20 = .ok (.aload_n 0, 1) := by decide +kernel
theorem d_Bk_openPage_21 : decode prog_2_method_19_code 21 = .ok (.getfield 28, 3) := by decide +kernel
theorem d_Bk_openPage_24 : decode prog_2_method_19_code 24 = .ok (.iload_n 2, 1) := by decide +kernel
theorem d_Bk_openPage_25 : decode prog_2_method_19_code 25 = .ok (.iload_n 1, 1) := by decide +kernel
theorem d_Bk_openPage_26 : decode prog_2_method_19_code 26 = .ok (.iastore, 1) := by decide +kernel
theorem d_Bk_openPage_27 : decode prog_2_method_19_code 27 = .ok (.aload_n 0, 1) := by decide +kernel
theorem d_Bk_openPage_28 : decode prog_2_method_19_code 28 = .ok (.dup, 1) := by decide +kernel
theorem d_Bk_openPage_29 : decode prog_2_method_19_code 29 = .ok (.getfield 53, 3) := by decide +kernel
theorem d_Bk_openPage_32 : decode prog_2_method_19_code 32 = .ok (.iconst 1, 1) := by decide +kernel
theorem d_Bk_openPage_33 : decode prog_2_method_19_code 33 = .ok (.isub, 1) := by decide +kernel
theorem d_Bk_openPage_34 : decode prog_2_method_19_code 34 = .ok (.putfield 53, 3) := by decide +kernel
theorem d_Bk_openPage_37 : decode prog_2_method_19_code 37 = .ok (.iload_n 2, 1) := by decide +kernel
theorem d_Bk_openPage_38 : decode prog_2_method_19_code 38 = .ok (.ireturn, 1) := by decide +kernel
theorem d_Bk_openPage_39 : decode prog_2_method_19_code 39 = .ok (.iinc 2 1, 3) := by decide +kernel
theorem d_Bk_openPage_42 : decode prog_2_method_19_code 42 = .ok (.goto (-40), 3) := by decide +kernel
theorem d_Bk_openPage_45 : decode prog_2_method_19_code 45 = .ok (.iconst (-1), 1) := by decide +kernel
theorem d_Bk_openPage_46 : decode prog_2_method_19_code 46 = .ok (.ireturn, 1) := by decide +kernel
noncomputable def F_Bk_openPage_2 (K : Int32 → zM → Prop) (n : Nat) : Int32 → Int32 → zM → Prop := Nat.rec (motive := fun _ => Int32 → Int32 → zM → Prop) (fun _ _ _ => False) (fun _ ih x1 x2 μ => ((μ 2 7) ≤ x2 → (K (-1 : Int32) μ)) ∧ (¬ (μ 2 7) ≤ x2 → (vp_in x2 64 ∧ ((¬ (μ 8 x2.toNatClampNeg) = (-1 : Int32) → (∀ x4 : Int32, x4 = x2 + 1 → (ih x1 x4 μ))) ∧ ((μ 8 x2.toNatClampNeg) = (-1 : Int32) → (vp_in x2 64 ∧ ∀ μ6 : zM, μ6 = zp μ 8 x2.toNatClampNeg x1 → (∀ μ7 : zM, μ7 = zp μ6 2 8 ((μ6 2 8) - (1 : Int32)) → (K x2 μ7)))))))) n
def f_Bk_openPage (μ : zM) (a1 : Int32) (K : Int32 → zM → Prop) : Prop := ∃ n : Nat, F_Bk_openPage_2 K n a1 (0 : Int32) μ
set_option maxHeartbeats 4000000 in
set_option maxRecDepth 100000 in
theorem L_Bk_openPage_2 {p : Program} {l : Launch} {e : Env} {s : State} {m : MethodId} {args : Array Value} {below : List Frame} {meth : Method} {c : Code} {E : zE} (X : zX E p s m args c prog_2_method_19_code "BeatHeap$Blocks" 3) (hr : meth.sig.returnType = (some .int)) (hlk : meth.locks = false) (K : Int32 → zM → Prop) : ∀ (n : Nat) (x1 x2 : Int32) (μ : zM) (H : Heap) (locs : List Loc) (ls : Array Slot), F_Bk_openPage_2 K n x1 x2 μ → zW zwC E s μ H locs → lv_has ls 3 [(0, .ref (E.2.1 2)), (1, .int x1), (2, .int x2)] → W p l e { frames := 0, cells := 0, slots := 0, locals := 0 } s m args below meth c H locs 0 0 (MQ below (va_Qi K (zR zwC E) (zA E)) args s 0 0 (zA E)) (F0 m 2 ls []) := by
  have hx := X.1
  have hb := X.2.1
  intro n
  induction n with
  | zero => intro x1 x2 μ H locs ls h; exact False.elim h
  | succ n ih =>
    intro x1 x2 μ H locs ls h w hl
    refine lv_iload_n hx hb d_Bk_openPage_2 rfl (lv_at hl 2 rfl) ?_
    refine lv_aload_n hx hb d_Bk_openPage_3 rfl (lv_at hl 0 rfl) ?_
    refine gt_2_7 X w w_fl_Bk_49 d_Bk_openPage_4 ?_
    refine lv_icmp_ge (tgt := 45) hx hb d_Bk_openPage_7 (by decide) (fun c1 => ?_) (fun c1 => ?_)
    · have h := h.1 c1
      refine lv_iconst (v := (-1)) hx hb d_Bk_openPage_45 (by decide) ?_
      exact z_iret X hr hlk w h d_Bk_openPage_46
    · have h := h.2 c1
      refine lv_aload_n hx hb d_Bk_openPage_10 rfl (lv_at hl 0 rfl) ?_
      refine gt_2_5 X w w_fl_Bk_28 d_Bk_openPage_11 ?_
      refine lv_iload_n hx hb d_Bk_openPage_14 rfl (lv_at hl 2 rfl) ?_
      obtain ⟨hi2, h⟩ := h
      refine al_8 X w hi2 d_Bk_openPage_15 ?_
      refine lv_iconst (v := (-1)) hx hb d_Bk_openPage_16 (by decide) ?_
      refine lv_icmp_ne (tgt := 39) hx hb d_Bk_openPage_17 (by decide) (fun c3 => ?_) (fun c3 => ?_)
      · have h := h.1 c3
        obtain ⟨x4, ex4⟩ : ∃ y : Int32, y = x2 + 1 := ⟨_, rfl⟩
        have h := h x4 ex4
        refine lv_iinc (v := x4) (lv' := [(2, .int x4), (0, .ref (E.2.1 2)), (1, .int x1)]) hx hb d_Bk_openPage_39 hl (k := 2) rfl (by rw [ex4]; rfl) (by decide) rfl (fun ls hl => ?_)
        refine lv_goto (tgt := 2) hx hb d_Bk_openPage_42 (by decide) ?_
        exact ih x1 x4 μ _ _ _ h w (lv_sub hl [1, 2, 0] rfl)
      · have h := h.2 c3
        refine lv_aload_n hx hb d_Bk_openPage_20 rfl (lv_at hl 0 rfl) ?_
        refine gt_2_5 X w w_fl_Bk_28 d_Bk_openPage_21 ?_
        refine lv_iload_n hx hb d_Bk_openPage_24 rfl (lv_at hl 2 rfl) ?_
        refine lv_iload_n hx hb d_Bk_openPage_25 rfl (lv_at hl 1 rfl) ?_
        obtain ⟨hi5, h⟩ := h
        refine as_8 X w hi5 d_Bk_openPage_26 (fun μ6 H locs eμ6 w => ?_)
        have h := h μ6 eμ6
        refine lv_aload_n hx hb d_Bk_openPage_27 rfl (lv_at hl 0 rfl) ?_
        refine lv_dup hx hb d_Bk_openPage_28 rfl ?_
        refine gt_2_8 X w w_fl_Bk_53 d_Bk_openPage_29 ?_
        refine lv_iconst (v := 1) hx hb d_Bk_openPage_32 (by decide) ?_
        refine lv_isub hx hb d_Bk_openPage_33 ?_
        refine pt_2_8 X w w_fl_Bk_53 d_Bk_openPage_34 (fun μ7 H locs eμ7 w => ?_)
        have h := h μ7 eμ7
        refine lv_iload_n hx hb d_Bk_openPage_37 rfl (lv_at hl 2 rfl) ?_
        exact z_iret X hr hlk w h d_Bk_openPage_38

set_option maxHeartbeats 4000000 in
set_option maxRecDepth 100000 in
theorem c_Bk_openPage (l : Launch) (E : zE) (μ : zM) (a1 : Int32) (K : Int32 → zM → Prop) (h : f_Bk_openPage μ a1 K) : Met l y_Bk_openPage (Cond.code y_Bk_openPage prog_2_method_19_code 3 (some .int) :: zT) { frames := 0, cells := 0, slots := 0, locals := 0 } (va_Pc [.ref (E.2.1 2), .int a1] (zR zwC E μ)) (va_Qi K (zR zwC E) (zA E)) 0 0 (zA E) := by
  refine z_head (by decide) (Nat.le_of_ble_eq_true rfl) ?_
  intro p e s m below meth c X hr hlk w ls hl
  have X : zX E p s m _ c prog_2_method_19_code "BeatHeap$Blocks" 3 := X
  have hx := X.1
  have hb := X.2.1
  have hl : lv_has ls 3 [(0, .ref (E.2.1 2)), (1, .int a1)] := hl
  unfold f_Bk_openPage at h
  refine lv_iconst (v := 0) hx hb d_Bk_openPage_0 (by decide) ?_
  refine lv_istore_n (lv' := [(2, .int (0 : Int32)), (0, .ref (E.2.1 2)), (1, .int a1)]) hx hb d_Bk_openPage_1 rfl hl (by decide) rfl (fun ls hl => ?_)
  obtain ⟨n, h⟩ := h
  exact L_Bk_openPage_2 X hr hlk K n a1 (0 : Int32) μ _ _ _ h w (lv_sub hl [1, 2, 0] rfl)
theorem q_Bk_pageWithRoom : (y_Bk_pageWithRoom.cls ≠ "java/lang/invoke/MethodHandle" ∧ y_Bk_pageWithRoom.cls ≠ "java/lang/invoke/VarHandle") ∧ (parseMethodDescriptor y_Bk_pageWithRoom.desc).map (fun d => d.parameters.length) = some 1 := by decide +kernel
theorem d_Bk_pageWithRoom_0 : decode prog_2_method_18_code 0 = .ok (.iload_n 1, 1) := by decide +kernel
theorem d_Bk_pageWithRoom_1 : decode prog_2_method_18_code 1 = .ok (.invokestatic 83, 3) := by decide +kernel
theorem d_Bk_pageWithRoom_4 : decode prog_2_method_18_code 4 = .ok (.ifCond .ne 5, 3) := by decide +kernel
theorem d_Bk_pageWithRoom_7 : decode prog_2_method_18_code 7 = .ok (.iconst (-1), 1) := by decide +kernel
theorem d_Bk_pageWithRoom_8 : decode prog_2_method_18_code 8 = .ok (.ireturn, 1) := by decide +kernel
theorem d_Bk_pageWithRoom_9 : decode prog_2_method_18_code 9 = .ok (.bipush 64, 2) := by decide +kernel
theorem d_Bk_pageWithRoom_11 : decode prog_2_method_18_code 11 = .ok (.iload_n 1, 1) := by decide +kernel
theorem d_Bk_pageWithRoom_12 : decode prog_2_method_18_code 12 = .ok (.invokestatic 86, 3) := by decide +kernel
theorem d_Bk_pageWithRoom_15 : decode prog_2_method_18_code 15 = .ok (.idiv, 1) := by decide +kernel
theorem d_Bk_pageWithRoom_16 : decode prog_2_method_18_code 16 = .ok (.istore_n 2, 1) := by decide +kernel
theorem d_Bk_pageWithRoom_17 : decode prog_2_method_18_code 17 = .ok (.iconst 0, 1) := by decide +kernel
theorem d_Bk_pageWithRoom_18 : decode prog_2_method_18_code 18 = .ok (.istore_n 3, 1) := by decide +kernel
theorem d_Bk_pageWithRoom_19 : decode prog_2_method_18_code 19 = .ok (.iload_n 3, 1) := by decide +kernel
theorem d_Bk_pageWithRoom_20 : decode prog_2_method_18_code 20 = .ok (.aload_n 0, 1) := by decide +kernel
theorem d_Bk_pageWithRoom_21 : decode prog_2_method_18_code 21 = .ok (.getfield 49, 3) := by decide +kernel
theorem d_Bk_pageWithRoom_24 : decode prog_2_method_18_code 24 = .ok (.if_icmp .ge 31, 3) := by decide +kernel
theorem d_Bk_pageWithRoom_27 : decode prog_2_method_18_code 27 = .ok (.aload_n 0, 1) := by decide +kernel
theorem d_Bk_pageWithRoom_28 : decode prog_2_method_18_code 28 = .ok (.getfield 28, 3) := by decide +kernel
theorem d_Bk_pageWithRoom_31 : decode prog_2_method_18_code 31 = .ok (.iload_n 3, 1) := by decide +kernel
theorem d_Bk_pageWithRoom_32 : decode prog_2_method_18_code 32 = .ok (.iaload, 1) := by decide +kernel
theorem d_Bk_pageWithRoom_33 : decode prog_2_method_18_code 33 = .ok (.iload_n 1, 1) := by decide +kernel
theorem d_Bk_pageWithRoom_34 : decode prog_2_method_18_code 34 = .ok (.if_icmp .ne 15, 3) := by decide +kernel
theorem d_Bk_pageWithRoom_37 : decode prog_2_method_18_code 37 = .ok (.aload_n 0, 1) := by decide +kernel
theorem d_Bk_pageWithRoom_38 : decode prog_2_method_18_code 38 = .ok (.getfield 31, 3) := by decide +kernel
theorem d_Bk_pageWithRoom_41 : decode prog_2_method_18_code 41 = .ok (.iload_n 3, 1) := by decide +kernel
theorem d_Bk_pageWithRoom_42 : decode prog_2_method_18_code 42 = .ok (.iaload, 1) := by decide +kernel
theorem d_Bk_pageWithRoom_43 : decode prog_2_method_18_code 43 = .ok (.iload_n 2, 1) := by decide +kernel
theorem d_Bk_pageWithRoom_44 : decode prog_2_method_18_code 44 = .ok (.if_icmp .ge 5, 3) := by decide +kernel
theorem d_Bk_pageWithRoom_47 : decode prog_2_method_18_code 47 = .ok (.iload_n 3, 1) := by decide +kernel
theorem d_Bk_pageWithRoom_48 : decode prog_2_method_18_code 48 = .ok (.ireturn, 1) := by decide +kernel
theorem d_Bk_pageWithRoom_49 : decode prog_2_method_18_code 49 = .ok (.iinc 3 1, 3) := by decide +kernel
theorem d_Bk_pageWithRoom_52 : decode prog_2_method_18_code 52 = .ok (.goto (-33), 3) := by decide +kernel
theorem d_Bk_pageWithRoom_55 : decode prog_2_method_18_code 55 = .ok (.aload_n 0, 1) := by decide +kernel
theorem d_Bk_pageWithRoom_56 : decode prog_2_method_18_code 56 = .ok (.iload_n 1, 1) := by decide +kernel
theorem d_Bk_pageWithRoom_57 : decode prog_2_method_18_code 57 = .ok (.invokevirtual 89, 3) := by decide +kernel
theorem d_Bk_pageWithRoom_60 : decode prog_2_method_18_code 60 = .ok (.ireturn, 1) := by decide +kernel
noncomputable def F_Bk_pageWithRoom_19 (K : Int32 → zM → Prop) (n : Nat) : Int32 → Int32 → Int32 → zM → Prop := Nat.rec (motive := fun _ => Int32 → Int32 → Int32 → zM → Prop) (fun _ _ _ _ => False) (fun _ ih x1 x2 x3 μ => ((μ 2 7) ≤ x3 → (f_Bk_openPage μ x1 (fun r10 μ9 => (K r10 μ9)))) ∧ (¬ (μ 2 7) ≤ x3 → (vp_in x3 64 ∧ ((¬ (μ 8 x3.toNatClampNeg) = x1 → (∀ x13 : Int32, x13 = x3 + 1 → (ih x1 x2 x13 μ))) ∧ ((μ 8 x3.toNatClampNeg) = x1 → (vp_in x3 64 ∧ ((x2 ≤ (μ 9 x3.toNatClampNeg) → (∀ x16 : Int32, x16 = x3 + 1 → (ih x1 x2 x16 μ))) ∧ (¬ x2 ≤ (μ 9 x3.toNatClampNeg) → (K x3 μ))))))))) n
def f_Bk_pageWithRoom (μ : zM) (a1 : Int32) (K : Int32 → zM → Prop) : Prop := f_Bh_isClass μ a1 (fun r2 μ1 => ((¬ r2 = 0 → (f_Bh_blockWords μ1 a1 (fun r5 μ4 => (¬ r5 = 0 ∧ (∀ x7 : Int32, x7 = ((64 : Int32) / r5) → (∃ n : Nat, F_Bk_pageWithRoom_19 K n a1 x7 (0 : Int32) μ4)))))) ∧ (r2 = 0 → (K (-1 : Int32) μ1))))
set_option maxHeartbeats 4000000 in
set_option maxRecDepth 100000 in
theorem L_Bk_pageWithRoom_19 {p : Program} {l : Launch} {e : Env} {s : State} {m : MethodId} {args : Array Value} {below : List Frame} {meth : Method} {c : Code} {E : zE} (X : zX E p s m args c prog_2_method_18_code "BeatHeap$Blocks" 4) (hr : meth.sig.returnType = (some .int)) (hlk : meth.locks = false) (K : Int32 → zM → Prop) : ∀ (n : Nat) (x1 x2 x3 : Int32) (μ : zM) (H : Heap) (locs : List Loc) (ls : Array Slot), F_Bk_pageWithRoom_19 K n x1 x2 x3 μ → zW zwC E s μ H locs → lv_has ls 4 [(0, .ref (E.2.1 2)), (1, .int x1), (2, .int x2), (3, .int x3)] → W p l e { frames := 2, cells := 0, slots := 0, locals := 40 } s m args below meth c H locs 0 0 (MQ below (va_Qi K (zR zwC E) (zA E)) args s 0 0 (zA E)) (F0 m 19 ls []) := by
  have hx := X.1
  have hb := X.2.1
  intro n
  induction n with
  | zero => intro x1 x2 x3 μ H locs ls h; exact False.elim h
  | succ n ih =>
    intro x1 x2 x3 μ H locs ls h w hl
    refine lv_iload_n hx hb d_Bk_pageWithRoom_19 rfl (lv_at hl 3 rfl) ?_
    refine lv_aload_n hx hb d_Bk_pageWithRoom_20 rfl (lv_at hl 0 rfl) ?_
    refine gt_2_7 X w w_fl_Bk_49 d_Bk_pageWithRoom_21 ?_
    refine lv_icmp_ge (tgt := 55) hx hb d_Bk_pageWithRoom_24 (by decide) (fun c8 => ?_) (fun c8 => ?_)
    · have h := h.1 c8
      refine lv_aload_n hx hb d_Bk_pageWithRoom_55 rfl (lv_at hl 0 rfl) ?_
      refine lv_iload_n hx hb d_Bk_pageWithRoom_56 rfl (lv_at hl 1 rfl) ?_
      refine z_cVi (As := [.int x1]) (rest := []) (q0 := 2) (ci := 0) X w (c_Bk_openPage l E μ x1 _ h) rfl rfl rfl w_ml_Bk_89 ⟨w_im_Bk_openPage, w_se_Bk_openPage⟩ w_in_Bk w_co_Bk_openPage q_Bk_openPage.1 q_Bk_openPage.2 rfl ⟨Nat.le_of_ble_eq_true rfl, Nat.le_of_ble_eq_true rfl⟩ ⟨Nat.zero_le _, Nat.zero_le _⟩ hl.1 rfl (Nat.le_of_ble_eq_true rfl) d_Bk_pageWithRoom_57 (fun r10 μ9 H locs h w => ?_)
      exact z_iret X hr hlk w h d_Bk_pageWithRoom_60
    · have h := h.2 c8
      refine lv_aload_n hx hb d_Bk_pageWithRoom_27 rfl (lv_at hl 0 rfl) ?_
      refine gt_2_5 X w w_fl_Bk_28 d_Bk_pageWithRoom_28 ?_
      refine lv_iload_n hx hb d_Bk_pageWithRoom_31 rfl (lv_at hl 3 rfl) ?_
      obtain ⟨hi11, h⟩ := h
      refine al_8 X w hi11 d_Bk_pageWithRoom_32 ?_
      refine lv_iload_n hx hb d_Bk_pageWithRoom_33 rfl (lv_at hl 1 rfl) ?_
      refine lv_icmp_ne (tgt := 49) hx hb d_Bk_pageWithRoom_34 (by decide) (fun c12 => ?_) (fun c12 => ?_)
      · have h := h.1 c12
        obtain ⟨x13, ex13⟩ : ∃ y : Int32, y = x3 + 1 := ⟨_, rfl⟩
        have h := h x13 ex13
        refine lv_iinc (v := x13) (lv' := [(3, .int x13), (0, .ref (E.2.1 2)), (1, .int x1), (2, .int x2)]) hx hb d_Bk_pageWithRoom_49 hl (k := 3) rfl (by rw [ex13]; rfl) (by decide) rfl (fun ls hl => ?_)
        refine lv_goto (tgt := 19) hx hb d_Bk_pageWithRoom_52 (by decide) ?_
        exact ih x1 x2 x13 μ _ _ _ h w (lv_sub hl [1, 2, 3, 0] rfl)
      · have h := h.2 c12
        refine lv_aload_n hx hb d_Bk_pageWithRoom_37 rfl (lv_at hl 0 rfl) ?_
        refine gt_2_6 X w w_fl_Bk_31 d_Bk_pageWithRoom_38 ?_
        refine lv_iload_n hx hb d_Bk_pageWithRoom_41 rfl (lv_at hl 3 rfl) ?_
        obtain ⟨hi14, h⟩ := h
        refine al_9 X w hi14 d_Bk_pageWithRoom_42 ?_
        refine lv_iload_n hx hb d_Bk_pageWithRoom_43 rfl (lv_at hl 2 rfl) ?_
        refine lv_icmp_ge (tgt := 49) hx hb d_Bk_pageWithRoom_44 (by decide) (fun c15 => ?_) (fun c15 => ?_)
        · have h := h.1 c15
          obtain ⟨x16, ex16⟩ : ∃ y : Int32, y = x3 + 1 := ⟨_, rfl⟩
          have h := h x16 ex16
          refine lv_iinc (v := x16) (lv' := [(3, .int x16), (0, .ref (E.2.1 2)), (1, .int x1), (2, .int x2)]) hx hb d_Bk_pageWithRoom_49 hl (k := 3) rfl (by rw [ex16]; rfl) (by decide) rfl (fun ls hl => ?_)
          refine lv_goto (tgt := 19) hx hb d_Bk_pageWithRoom_52 (by decide) ?_
          exact ih x1 x2 x16 μ _ _ _ h w (lv_sub hl [1, 2, 3, 0] rfl)
        · have h := h.2 c15
          refine lv_iload_n hx hb d_Bk_pageWithRoom_47 rfl (lv_at hl 3 rfl) ?_
          exact z_iret X hr hlk w h d_Bk_pageWithRoom_48

set_option maxHeartbeats 4000000 in
set_option maxRecDepth 100000 in
theorem c_Bk_pageWithRoom (l : Launch) (E : zE) (μ : zM) (a1 : Int32) (K : Int32 → zM → Prop) (h : f_Bk_pageWithRoom μ a1 K) : Met l y_Bk_pageWithRoom (Cond.code y_Bk_pageWithRoom prog_2_method_18_code 4 (some .int) :: zT) { frames := 2, cells := 0, slots := 0, locals := 40 } (va_Pc [.ref (E.2.1 2), .int a1] (zR zwC E μ)) (va_Qi K (zR zwC E) (zA E)) 0 0 (zA E) := by
  refine z_head (by decide) (Nat.le_of_ble_eq_true rfl) ?_
  intro p e s m below meth c X hr hlk w ls hl
  have X : zX E p s m _ c prog_2_method_18_code "BeatHeap$Blocks" 4 := X
  have hx := X.1
  have hb := X.2.1
  have hl : lv_has ls 4 [(0, .ref (E.2.1 2)), (1, .int a1)] := hl
  unfold f_Bk_pageWithRoom at h
  refine lv_iload_n hx hb d_Bk_pageWithRoom_0 rfl (lv_at hl 1 rfl) ?_
  refine z_cNi (As := [.int a1]) (rest := []) X w (c_Bh_isClass l E μ a1 _ h) w_nm_Bk_83 w_st_Bh_isClass w_in_Bh w_co_Bh_isClass q_Bh_isClass.1 q_Bh_isClass.2 rfl ⟨Nat.le_of_ble_eq_true rfl, Nat.le_of_ble_eq_true rfl⟩ ⟨Nat.zero_le _, Nat.zero_le _⟩ hl.1 rfl (Nat.le_of_ble_eq_true rfl) d_Bk_pageWithRoom_1 (fun r2 μ1 H locs h w => ?_)
  refine lv_if_ne (tgt := 9) hx hb d_Bk_pageWithRoom_4 (by decide) (fun c3 => ?_) (fun c3 => ?_)
  · have h := h.1 c3
    refine lv_bipush (v := 64) hx hb d_Bk_pageWithRoom_9 (by decide) ?_
    refine lv_iload_n hx hb d_Bk_pageWithRoom_11 rfl (lv_at hl 1 rfl) ?_
    refine z_cNi (As := [.int a1]) (rest := [.int (64 : Int32)]) X w (c_Bh_blockWords l E μ1 a1 _ h) w_nm_Bk_86 w_st_Bh_blockWords w_in_Bh w_co_Bh_blockWords q_Bh_blockWords.1 q_Bh_blockWords.2 rfl ⟨Nat.le_of_ble_eq_true rfl, Nat.le_of_ble_eq_true rfl⟩ ⟨Nat.zero_le _, Nat.zero_le _⟩ hl.1 rfl (Nat.le_of_ble_eq_true rfl) d_Bk_pageWithRoom_12 (fun r5 μ4 H locs h w => ?_)
    obtain ⟨hn6, h⟩ := h
    refine lv_idiv hx hb d_Bk_pageWithRoom_15 hn6 ?_
    refine lv_topi (fun x7 ex7 => ?_)
    have h := h x7 ex7
    refine lv_istore_n (lv' := [(2, .int x7), (0, .ref (E.2.1 2)), (1, .int a1)]) hx hb d_Bk_pageWithRoom_16 rfl hl (by decide) rfl (fun ls hl => ?_)
    refine lv_iconst (v := 0) hx hb d_Bk_pageWithRoom_17 (by decide) ?_
    refine lv_istore_n (lv' := [(3, .int (0 : Int32)), (2, .int x7), (0, .ref (E.2.1 2)), (1, .int a1)]) hx hb d_Bk_pageWithRoom_18 rfl hl (by decide) rfl (fun ls hl => ?_)
    obtain ⟨n, h⟩ := h
    exact L_Bk_pageWithRoom_19 X hr hlk K n a1 x7 (0 : Int32) μ4 _ _ _ h w (lv_sub hl [2, 3, 1, 0] rfl)
  · have h := h.2 c3
    refine lv_iconst (v := (-1)) hx hb d_Bk_pageWithRoom_7 (by decide) ?_
    exact z_iret X hr hlk w h d_Bk_pageWithRoom_8
theorem q_Bk_isPage : (y_Bk_isPage.cls ≠ "java/lang/invoke/MethodHandle" ∧ y_Bk_isPage.cls ≠ "java/lang/invoke/VarHandle") ∧ (parseMethodDescriptor y_Bk_isPage.desc).map (fun d => d.parameters.length) = some 1 := by decide +kernel
theorem d_Bk_isPage_0 : decode prog_2_method_4_code 0 = .ok (.iload_n 1, 1) := by decide +kernel
theorem d_Bk_isPage_1 : decode prog_2_method_4_code 1 = .ok (.ifCond .lt 15, 3) := by decide +kernel
theorem d_Bk_isPage_4 : decode prog_2_method_4_code 4 = .ok (.iload_n 1, 1) := by decide +kernel
theorem d_Bk_isPage_5 : decode prog_2_method_4_code 5 = .ok (.aload_n 0, 1) := by decide +kernel
theorem d_Bk_isPage_6 : decode prog_2_method_4_code 6 = .ok (.getfield 49, 3) := by decide +kernel
theorem d_Bk_isPage_9 : decode prog_2_method_4_code 9 = .ok (.if_icmp .ge 7, 3) := by decide +kernel
theorem d_Bk_isPage_12 : decode prog_2_method_4_code 12 = .ok (.iconst 1, 1) := by decide +kernel
theorem d_Bk_isPage_13 : decode prog_2_method_4_code 13 = .ok (.goto 4, 3) := by decide +kernel
theorem d_Bk_isPage_16 : decode prog_2_method_4_code 16 = .ok (.iconst 0, 1) := by decide +kernel
theorem d_Bk_isPage_17 : decode prog_2_method_4_code 17 = .ok (.ireturn, 1) := by decide +kernel
def f_Bk_isPage (μ : zM) (a1 : Int32) (K : Int32 → zM → Prop) : Prop := (a1 < 0 → (K (0 : Int32) μ)) ∧ (¬ a1 < 0 → (((μ 2 7) ≤ a1 → (K (0 : Int32) μ)) ∧ (¬ (μ 2 7) ≤ a1 → (K (1 : Int32) μ))))
set_option maxHeartbeats 4000000 in
set_option maxRecDepth 100000 in
theorem c_Bk_isPage (l : Launch) (E : zE) (μ : zM) (a1 : Int32) (K : Int32 → zM → Prop) (h : f_Bk_isPage μ a1 K) : Met l y_Bk_isPage (Cond.code y_Bk_isPage prog_2_method_4_code 2 (some .boolean) :: zT) { frames := 0, cells := 0, slots := 0, locals := 0 } (va_Pc [.ref (E.2.1 2), .int a1] (zR zwC E μ)) (va_Qi K (zR zwC E) (zA E)) 0 0 (zA E) := by
  refine z_head (by decide) (Nat.le_of_ble_eq_true rfl) ?_
  intro p e s m below meth c X hr hlk w ls hl
  have X : zX E p s m _ c prog_2_method_4_code "BeatHeap$Blocks" 2 := X
  have hx := X.1
  have hb := X.2.1
  have hl : lv_has ls 2 [(0, .ref (E.2.1 2)), (1, .int a1)] := hl
  unfold f_Bk_isPage at h
  refine lv_iload_n hx hb d_Bk_isPage_0 rfl (lv_at hl 1 rfl) ?_
  refine lv_if_lt (tgt := 16) hx hb d_Bk_isPage_1 (by decide) (fun c1 => ?_) (fun c1 => ?_)
  · have h := h.1 c1
    refine lv_iconst (v := 0) hx hb d_Bk_isPage_16 (by decide) ?_
    exact z_zret X hr hlk w (by decide) h d_Bk_isPage_17
  · have h := h.2 c1
    refine lv_iload_n hx hb d_Bk_isPage_4 rfl (lv_at hl 1 rfl) ?_
    refine lv_aload_n hx hb d_Bk_isPage_5 rfl (lv_at hl 0 rfl) ?_
    refine gt_2_7 X w w_fl_Bk_49 d_Bk_isPage_6 ?_
    refine lv_icmp_ge (tgt := 16) hx hb d_Bk_isPage_9 (by decide) (fun c2 => ?_) (fun c2 => ?_)
    · have h := h.1 c2
      refine lv_iconst (v := 0) hx hb d_Bk_isPage_16 (by decide) ?_
      exact z_zret X hr hlk w (by decide) h d_Bk_isPage_17
    · have h := h.2 c2
      refine lv_iconst (v := 1) hx hb d_Bk_isPage_12 (by decide) ?_
      refine lv_goto (tgt := 17) hx hb d_Bk_isPage_13 (by decide) ?_
      exact z_zret X hr hlk w (by decide) h d_Bk_isPage_17
theorem q_Bk_isInside : (y_Bk_isInside.cls ≠ "java/lang/invoke/MethodHandle" ∧ y_Bk_isInside.cls ≠ "java/lang/invoke/VarHandle") ∧ (parseMethodDescriptor y_Bk_isInside.desc).map (fun d => d.parameters.length) = some 1 := by decide +kernel
theorem d_Bk_isInside_0 : decode prog_2_method_3_code 0 = .ok (.iload_n 1, 1) := by decide +kernel
theorem d_Bk_isInside_1 : decode prog_2_method_3_code 1 = .ok (.ifCond .lt 18, 3) := by decide +kernel
theorem d_Bk_isInside_4 : decode prog_2_method_3_code 4 = .ok (.iload_n 1, 1) := by decide +kernel
theorem d_Bk_isInside_5 : decode prog_2_method_3_code 5 = .ok (.aload_n 0, 1) := by decide +kernel
theorem d_Bk_isInside_6 : decode prog_2_method_3_code 6 = .ok (.getfield 49, 3) := by decide +kernel
theorem d_Bk_isInside_9 : decode prog_2_method_3_code 9 = .ok (.bipush 64, 2) := by decide +kernel
theorem d_Bk_isInside_11 : decode prog_2_method_3_code 11 = .ok (.imul, 1) := by decide +kernel
theorem d_Bk_isInside_12 : decode prog_2_method_3_code 12 = .ok (.if_icmp .ge 7, 3) := by decide +kernel
theorem d_Bk_isInside_15 : decode prog_2_method_3_code 15 = .ok (.iconst 1, 1) := by decide +kernel
theorem d_Bk_isInside_16 : decode prog_2_method_3_code 16 = .ok (.goto 4, 3) := by decide +kernel
theorem d_Bk_isInside_19 : decode prog_2_method_3_code 19 = .ok (.iconst 0, 1) := by decide +kernel
theorem d_Bk_isInside_20 : decode prog_2_method_3_code 20 = .ok (.ireturn, 1) := by decide +kernel
def f_Bk_isInside (μ : zM) (a1 : Int32) (K : Int32 → zM → Prop) : Prop := (a1 < 0 → (K (0 : Int32) μ)) ∧ (¬ a1 < 0 → ((((μ 2 7) * (64 : Int32)) ≤ a1 → (K (0 : Int32) μ)) ∧ (¬ ((μ 2 7) * (64 : Int32)) ≤ a1 → (K (1 : Int32) μ))))
set_option maxHeartbeats 4000000 in
set_option maxRecDepth 100000 in
theorem c_Bk_isInside (l : Launch) (E : zE) (μ : zM) (a1 : Int32) (K : Int32 → zM → Prop) (h : f_Bk_isInside μ a1 K) : Met l y_Bk_isInside (Cond.code y_Bk_isInside prog_2_method_3_code 2 (some .boolean) :: zT) { frames := 0, cells := 0, slots := 0, locals := 0 } (va_Pc [.ref (E.2.1 2), .int a1] (zR zwC E μ)) (va_Qi K (zR zwC E) (zA E)) 0 0 (zA E) := by
  refine z_head (by decide) (Nat.le_of_ble_eq_true rfl) ?_
  intro p e s m below meth c X hr hlk w ls hl
  have X : zX E p s m _ c prog_2_method_3_code "BeatHeap$Blocks" 2 := X
  have hx := X.1
  have hb := X.2.1
  have hl : lv_has ls 2 [(0, .ref (E.2.1 2)), (1, .int a1)] := hl
  unfold f_Bk_isInside at h
  refine lv_iload_n hx hb d_Bk_isInside_0 rfl (lv_at hl 1 rfl) ?_
  refine lv_if_lt (tgt := 19) hx hb d_Bk_isInside_1 (by decide) (fun c1 => ?_) (fun c1 => ?_)
  · have h := h.1 c1
    refine lv_iconst (v := 0) hx hb d_Bk_isInside_19 (by decide) ?_
    exact z_zret X hr hlk w (by decide) h d_Bk_isInside_20
  · have h := h.2 c1
    refine lv_iload_n hx hb d_Bk_isInside_4 rfl (lv_at hl 1 rfl) ?_
    refine lv_aload_n hx hb d_Bk_isInside_5 rfl (lv_at hl 0 rfl) ?_
    refine gt_2_7 X w w_fl_Bk_49 d_Bk_isInside_6 ?_
    refine lv_bipush (v := 64) hx hb d_Bk_isInside_9 (by decide) ?_
    refine lv_imul hx hb d_Bk_isInside_11 ?_
    refine lv_icmp_ge (tgt := 19) hx hb d_Bk_isInside_12 (by decide) (fun c2 => ?_) (fun c2 => ?_)
    · have h := h.1 c2
      refine lv_iconst (v := 0) hx hb d_Bk_isInside_19 (by decide) ?_
      exact z_zret X hr hlk w (by decide) h d_Bk_isInside_20
    · have h := h.2 c2
      refine lv_iconst (v := 1) hx hb d_Bk_isInside_15 (by decide) ?_
      refine lv_goto (tgt := 20) hx hb d_Bk_isInside_16 (by decide) ?_
      exact z_zret X hr hlk w (by decide) h d_Bk_isInside_20
theorem q_Bk_kindOf : (y_Bk_kindOf.cls ≠ "java/lang/invoke/MethodHandle" ∧ y_Bk_kindOf.cls ≠ "java/lang/invoke/VarHandle") ∧ (parseMethodDescriptor y_Bk_kindOf.desc).map (fun d => d.parameters.length) = some 1 := by decide +kernel
theorem d_Bk_kindOf_0 : decode prog_2_method_9_code 0 = .ok (.aload_n 0, 1) := by decide +kernel
theorem d_Bk_kindOf_1 : decode prog_2_method_9_code 1 = .ok (.iload_n 1, 1) := by decide +kernel
theorem d_Bk_kindOf_2 : decode prog_2_method_9_code 2 = .ok (.invokevirtual 62, 3) := by decide +kernel
theorem d_Bk_kindOf_5 : decode prog_2_method_9_code 5 = .ok (.ifCond .eq 14, 3) := by decide +kernel
theorem d_Bk_kindOf_8 : decode prog_2_method_9_code 8 = .ok (.aload_n 0, 1) := by decide +kernel
theorem d_Bk_kindOf_9 : decode prog_2_method_9_code 9 = .ok (.getfield 15, 3) := by decide +kernel
theorem d_Bk_kindOf_12 : decode prog_2_method_9_code 12 = .ok (.iload_n 1, 1) := by decide +kernel
theorem d_Bk_kindOf_13 : decode prog_2_method_9_code 13 = .ok (.iconst 4, 1) := by decide +kernel
theorem d_Bk_kindOf_14 : decode prog_2_method_9_code 14 = .ok (.idiv, 1) := by decide +kernel
theorem d_Bk_kindOf_15 : decode prog_2_method_9_code 15 = .ok (.baload, 1) := by decide +kernel
theorem d_Bk_kindOf_16 : decode prog_2_method_9_code 16 = .ok (.goto 4, 3) := by decide +kernel
theorem d_Bk_kindOf_19 : decode prog_2_method_9_code 19 = .ok (.iconst 0, 1) := by decide +kernel
theorem d_Bk_kindOf_20 : decode prog_2_method_9_code 20 = .ok (.ireturn, 1) := by decide +kernel
def f_Bk_kindOf (μ : zM) (a1 : Int32) (K : Int32 → zM → Prop) : Prop := f_Bk_isInside μ a1 (fun r2 μ1 => ((r2 = 0 → (K (0 : Int32) μ1)) ∧ (¬ r2 = 0 → (vp_in (a1 / (4 : Int32)) 1024 ∧ (K (μ1 4 (a1 / (4 : Int32)).toNatClampNeg) μ1)))))
set_option maxHeartbeats 4000000 in
set_option maxRecDepth 100000 in
theorem c_Bk_kindOf (l : Launch) (E : zE) (μ : zM) (a1 : Int32) (K : Int32 → zM → Prop) (h : f_Bk_kindOf μ a1 K) : Met l y_Bk_kindOf (Cond.code y_Bk_kindOf prog_2_method_9_code 2 (some .int) :: zT) { frames := 1, cells := 0, slots := 0, locals := 21 } (va_Pc [.ref (E.2.1 2), .int a1] (zR zwC E μ)) (va_Qi K (zR zwC E) (zA E)) 0 0 (zA E) := by
  refine z_head (by decide) (Nat.le_of_ble_eq_true rfl) ?_
  intro p e s m below meth c X hr hlk w ls hl
  have X : zX E p s m _ c prog_2_method_9_code "BeatHeap$Blocks" 2 := X
  have hx := X.1
  have hb := X.2.1
  have hl : lv_has ls 2 [(0, .ref (E.2.1 2)), (1, .int a1)] := hl
  unfold f_Bk_kindOf at h
  refine lv_aload_n hx hb d_Bk_kindOf_0 rfl (lv_at hl 0 rfl) ?_
  refine lv_iload_n hx hb d_Bk_kindOf_1 rfl (lv_at hl 1 rfl) ?_
  refine z_cVi (As := [.int a1]) (rest := []) (q0 := 2) (ci := 0) X w (c_Bk_isInside l E μ a1 _ h) rfl rfl rfl w_ml_Bk_62 ⟨w_im_Bk_isInside, w_se_Bk_isInside⟩ w_in_Bk w_co_Bk_isInside q_Bk_isInside.1 q_Bk_isInside.2 rfl ⟨Nat.le_of_ble_eq_true rfl, Nat.le_of_ble_eq_true rfl⟩ ⟨Nat.zero_le _, Nat.zero_le _⟩ hl.1 rfl (Nat.le_of_ble_eq_true rfl) d_Bk_kindOf_2 (fun r2 μ1 H locs h w => ?_)
  refine lv_if_eq (tgt := 19) hx hb d_Bk_kindOf_5 (by decide) (fun c3 => ?_) (fun c3 => ?_)
  · have h := h.1 c3
    refine lv_iconst (v := 0) hx hb d_Bk_kindOf_19 (by decide) ?_
    exact z_iret X hr hlk w h d_Bk_kindOf_20
  · have h := h.2 c3
    refine lv_aload_n hx hb d_Bk_kindOf_8 rfl (lv_at hl 0 rfl) ?_
    refine gt_2_1 X w w_fl_Bk_15 d_Bk_kindOf_9 ?_
    refine lv_iload_n hx hb d_Bk_kindOf_12 rfl (lv_at hl 1 rfl) ?_
    refine lv_iconst (v := 4) hx hb d_Bk_kindOf_13 (by decide) ?_
    refine lv_idiv hx hb d_Bk_kindOf_14 (by decide) ?_
    obtain ⟨hi4, h⟩ := h
    refine al_4 X w hi4 d_Bk_kindOf_15 ?_
    refine lv_goto (tgt := 20) hx hb d_Bk_kindOf_16 (by decide) ?_
    exact z_iret X hr hlk w h d_Bk_kindOf_20
theorem q_Bk_firstVacant : (y_Bk_firstVacant.cls ≠ "java/lang/invoke/MethodHandle" ∧ y_Bk_firstVacant.cls ≠ "java/lang/invoke/VarHandle") ∧ (parseMethodDescriptor y_Bk_firstVacant.desc).map (fun d => d.parameters.length) = some 1 := by decide +kernel
theorem d_Bk_firstVacant_0 : decode prog_2_method_20_code 0 = .ok (.aload_n 0, 1) := by decide +kernel
theorem d_Bk_firstVacant_1 : decode prog_2_method_20_code 1 = .ok (.iload_n 1, 1) := by decide +kernel
theorem d_Bk_firstVacant_2 : decode prog_2_method_20_code 2 = .ok (.invokevirtual 74, 3) := by decide +kernel
theorem d_Bk_firstVacant_5 : decode prog_2_method_20_code 5 = .ok (.ifCond .ne 5, 3) := by decide +kernel
theorem d_Bk_firstVacant_8 : decode prog_2_method_20_code 8 = .ok (.iconst (-1), 1) := by decide +kernel
theorem d_Bk_firstVacant_9 : decode prog_2_method_20_code 9 = .ok (.ireturn, 1) := by decide +kernel
theorem d_Bk_firstVacant_10 : decode prog_2_method_20_code 10 = .ok (.aload_n 0, 1) := by decide +kernel
theorem d_Bk_firstVacant_11 : decode prog_2_method_20_code 11 = .ok (.getfield 28, 3) := by decide +kernel
theorem d_Bk_firstVacant_14 : decode prog_2_method_20_code 14 = .ok (.iload_n 1, 1) := by decide +kernel
theorem d_Bk_firstVacant_15 : decode prog_2_method_20_code 15 = .ok (.iaload, 1) := by decide +kernel
theorem d_Bk_firstVacant_16 : decode prog_2_method_20_code 16 = .ok (.invokestatic 86, 3) := by decide +kernel
theorem d_Bk_firstVacant_19 : decode prog_2_method_20_code 19 = .ok (.istore_n 2, 1) := by decide +kernel
theorem d_Bk_firstVacant_20 : decode prog_2_method_20_code 20 = .ok (.iload_n 1, 1) := by decide +kernel
theorem d_Bk_firstVacant_21 : decode prog_2_method_20_code 21 = .ok (.bipush 64, 2) := by decide +kernel
theorem d_Bk_firstVacant_23 : decode prog_2_method_20_code 23 = .ok (.imul, 1) := by decide +kernel
theorem d_Bk_firstVacant_24 : decode prog_2_method_20_code 24 = .ok (.istore_n 3, 1) := by decide +kernel
theorem d_Bk_firstVacant_25 : decode prog_2_method_20_code 25 = .ok (.iload_n 3, 1) := by decide +kernel
theorem d_Bk_firstVacant_26 : decode prog_2_method_20_code 26 = .ok (.iload_n 1, 1) := by decide +kernel
theorem d_Bk_firstVacant_27 : decode prog_2_method_20_code 27 = .ok (.iconst 1, 1) := by decide +kernel
theorem d_Bk_firstVacant_28 : decode prog_2_method_20_code 28 = .ok (.iadd, 1) := by decide +kernel
theorem d_Bk_firstVacant_29 : decode prog_2_method_20_code 29 = .ok (.bipush 64, 2) := by decide +kernel
theorem d_Bk_firstVacant_31 : decode prog_2_method_20_code 31 = .ok (.imul, 1) := by decide +kernel
theorem d_Bk_firstVacant_32 : decode prog_2_method_20_code 32 = .ok (.if_icmp .ge 20, 3) := by decide +kernel
theorem d_Bk_firstVacant_35 : decode prog_2_method_20_code 35 = .ok (.aload_n 0, 1) := by decide +kernel
theorem d_Bk_firstVacant_36 : decode prog_2_method_20_code 36 = .ok (.iload_n 3, 1) := by decide +kernel
theorem d_Bk_firstVacant_37 : decode prog_2_method_20_code 37 = .ok (.invokevirtual 92, 3) := by decide +kernel
theorem d_Bk_firstVacant_40 : decode prog_2_method_20_code 40 = .ok (.ifCond .ne 5, 3) := by decide +kernel
theorem d_Bk_firstVacant_43 : decode prog_2_method_20_code 43 = .ok (.iload_n 3, 1) := by decide +kernel
theorem d_Bk_firstVacant_44 : decode prog_2_method_20_code 44 = .ok (.ireturn, 1) := by decide +kernel
theorem d_Bk_firstVacant_45 : decode prog_2_method_20_code 45 = .ok (.iload_n 3, 1) := by decide +kernel
theorem d_Bk_firstVacant_46 : decode prog_2_method_20_code 46 = .ok (.iload_n 2, 1) := by decide +kernel
theorem d_Bk_firstVacant_47 : decode prog_2_method_20_code 47 = .ok (.iadd, 1) := by decide +kernel
theorem d_Bk_firstVacant_48 : decode prog_2_method_20_code 48 = .ok (.istore_n 3, 1) := by decide +kernel
theorem d_Bk_firstVacant_49 : decode prog_2_method_20_code 49 = .ok (.goto (-24), 3) := by decide +kernel
theorem d_Bk_firstVacant_52 : decode prog_2_method_20_code 52 = .ok (.iconst (-1), 1) := by decide +kernel
theorem d_Bk_firstVacant_53 : decode prog_2_method_20_code 53 = .ok (.ireturn, 1) := by decide +kernel
noncomputable def F_Bk_firstVacant_25 (K : Int32 → zM → Prop) (n : Nat) : Int32 → Int32 → Int32 → zM → Prop := Nat.rec (motive := fun _ => Int32 → Int32 → Int32 → zM → Prop) (fun _ _ _ _ => False) (fun _ ih x1 x2 x3 μ => (((x1 + (1 : Int32)) * (64 : Int32)) ≤ x3 → (K (-1 : Int32) μ)) ∧ (¬ ((x1 + (1 : Int32)) * (64 : Int32)) ≤ x3 → (f_Bk_kindOf μ x3 (fun r10 μ9 => ((¬ r10 = 0 → (∀ x12 : Int32, x12 = (x3 + x2) → (ih x1 x2 x12 μ9))) ∧ (r10 = 0 → (K x3 μ9))))))) n
def f_Bk_firstVacant (μ : zM) (a1 : Int32) (K : Int32 → zM → Prop) : Prop := f_Bk_isPage μ a1 (fun r2 μ1 => ((¬ r2 = 0 → (vp_in a1 64 ∧ (f_Bh_blockWords μ1 (μ1 8 a1.toNatClampNeg) (fun r6 μ5 => (∀ x7 : Int32, x7 = (a1 * (64 : Int32)) → (∃ n : Nat, F_Bk_firstVacant_25 K n a1 r6 x7 μ5)))))) ∧ (r2 = 0 → (K (-1 : Int32) μ1))))
set_option maxHeartbeats 4000000 in
set_option maxRecDepth 100000 in
theorem L_Bk_firstVacant_25 {p : Program} {l : Launch} {e : Env} {s : State} {m : MethodId} {args : Array Value} {below : List Frame} {meth : Method} {c : Code} {E : zE} (X : zX E p s m args c prog_2_method_20_code "BeatHeap$Blocks" 4) (hr : meth.sig.returnType = (some .int)) (hlk : meth.locks = false) (K : Int32 → zM → Prop) : ∀ (n : Nat) (x1 x2 x3 : Int32) (μ : zM) (H : Heap) (locs : List Loc) (ls : Array Slot), F_Bk_firstVacant_25 K n x1 x2 x3 μ → zW zwC E s μ H locs → lv_has ls 4 [(0, .ref (E.2.1 2)), (1, .int x1), (2, .int x2), (3, .int x3)] → W p l e { frames := 2, cells := 0, slots := 0, locals := 42 } s m args below meth c H locs 0 0 (MQ below (va_Qi K (zR zwC E) (zA E)) args s 0 0 (zA E)) (F0 m 25 ls []) := by
  have hx := X.1
  have hb := X.2.1
  intro n
  induction n with
  | zero => intro x1 x2 x3 μ H locs ls h; exact False.elim h
  | succ n ih =>
    intro x1 x2 x3 μ H locs ls h w hl
    refine lv_iload_n hx hb d_Bk_firstVacant_25 rfl (lv_at hl 3 rfl) ?_
    refine lv_iload_n hx hb d_Bk_firstVacant_26 rfl (lv_at hl 1 rfl) ?_
    refine lv_iconst (v := 1) hx hb d_Bk_firstVacant_27 (by decide) ?_
    refine lv_iadd hx hb d_Bk_firstVacant_28 ?_
    refine lv_bipush (v := 64) hx hb d_Bk_firstVacant_29 (by decide) ?_
    refine lv_imul hx hb d_Bk_firstVacant_31 ?_
    refine lv_icmp_ge (tgt := 52) hx hb d_Bk_firstVacant_32 (by decide) (fun c8 => ?_) (fun c8 => ?_)
    · have h := h.1 c8
      refine lv_iconst (v := (-1)) hx hb d_Bk_firstVacant_52 (by decide) ?_
      exact z_iret X hr hlk w h d_Bk_firstVacant_53
    · have h := h.2 c8
      refine lv_aload_n hx hb d_Bk_firstVacant_35 rfl (lv_at hl 0 rfl) ?_
      refine lv_iload_n hx hb d_Bk_firstVacant_36 rfl (lv_at hl 3 rfl) ?_
      refine z_cVi (As := [.int x3]) (rest := []) (q0 := 2) (ci := 0) X w (c_Bk_kindOf l E μ x3 _ h) rfl rfl rfl w_ml_Bk_92 ⟨w_im_Bk_kindOf, w_se_Bk_kindOf⟩ w_in_Bk w_co_Bk_kindOf q_Bk_kindOf.1 q_Bk_kindOf.2 rfl ⟨Nat.le_of_ble_eq_true rfl, Nat.le_of_ble_eq_true rfl⟩ ⟨Nat.zero_le _, Nat.zero_le _⟩ hl.1 rfl (Nat.le_of_ble_eq_true rfl) d_Bk_firstVacant_37 (fun r10 μ9 H locs h w => ?_)
      refine lv_if_ne (tgt := 45) hx hb d_Bk_firstVacant_40 (by decide) (fun c11 => ?_) (fun c11 => ?_)
      · have h := h.1 c11
        refine lv_iload_n hx hb d_Bk_firstVacant_45 rfl (lv_at hl 3 rfl) ?_
        refine lv_iload_n hx hb d_Bk_firstVacant_46 rfl (lv_at hl 2 rfl) ?_
        refine lv_iadd hx hb d_Bk_firstVacant_47 ?_
        refine lv_topi (fun x12 ex12 => ?_)
        have h := h x12 ex12
        refine lv_istore_n (lv' := [(3, .int x12), (0, .ref (E.2.1 2)), (1, .int x1), (2, .int x2)]) hx hb d_Bk_firstVacant_48 rfl hl (by decide) rfl (fun ls hl => ?_)
        refine lv_goto (tgt := 25) hx hb d_Bk_firstVacant_49 (by decide) ?_
        exact ih x1 x2 x12 μ9 _ _ _ h w (lv_sub hl [1, 2, 3, 0] rfl)
      · have h := h.2 c11
        refine lv_iload_n hx hb d_Bk_firstVacant_43 rfl (lv_at hl 3 rfl) ?_
        exact z_iret X hr hlk w h d_Bk_firstVacant_44

set_option maxHeartbeats 4000000 in
set_option maxRecDepth 100000 in
theorem c_Bk_firstVacant (l : Launch) (E : zE) (μ : zM) (a1 : Int32) (K : Int32 → zM → Prop) (h : f_Bk_firstVacant μ a1 K) : Met l y_Bk_firstVacant (Cond.code y_Bk_firstVacant prog_2_method_20_code 4 (some .int) :: zT) { frames := 2, cells := 0, slots := 0, locals := 42 } (va_Pc [.ref (E.2.1 2), .int a1] (zR zwC E μ)) (va_Qi K (zR zwC E) (zA E)) 0 0 (zA E) := by
  refine z_head (by decide) (Nat.le_of_ble_eq_true rfl) ?_
  intro p e s m below meth c X hr hlk w ls hl
  have X : zX E p s m _ c prog_2_method_20_code "BeatHeap$Blocks" 4 := X
  have hx := X.1
  have hb := X.2.1
  have hl : lv_has ls 4 [(0, .ref (E.2.1 2)), (1, .int a1)] := hl
  unfold f_Bk_firstVacant at h
  refine lv_aload_n hx hb d_Bk_firstVacant_0 rfl (lv_at hl 0 rfl) ?_
  refine lv_iload_n hx hb d_Bk_firstVacant_1 rfl (lv_at hl 1 rfl) ?_
  refine z_cVi (As := [.int a1]) (rest := []) (q0 := 2) (ci := 0) X w (c_Bk_isPage l E μ a1 _ h) rfl rfl rfl w_ml_Bk_74 ⟨w_im_Bk_isPage, w_se_Bk_isPage⟩ w_in_Bk w_co_Bk_isPage q_Bk_isPage.1 q_Bk_isPage.2 rfl ⟨Nat.le_of_ble_eq_true rfl, Nat.le_of_ble_eq_true rfl⟩ ⟨Nat.zero_le _, Nat.zero_le _⟩ hl.1 rfl (Nat.le_of_ble_eq_true rfl) d_Bk_firstVacant_2 (fun r2 μ1 H locs h w => ?_)
  refine lv_if_ne (tgt := 10) hx hb d_Bk_firstVacant_5 (by decide) (fun c3 => ?_) (fun c3 => ?_)
  · have h := h.1 c3
    refine lv_aload_n hx hb d_Bk_firstVacant_10 rfl (lv_at hl 0 rfl) ?_
    refine gt_2_5 X w w_fl_Bk_28 d_Bk_firstVacant_11 ?_
    refine lv_iload_n hx hb d_Bk_firstVacant_14 rfl (lv_at hl 1 rfl) ?_
    obtain ⟨hi4, h⟩ := h
    refine al_8 X w hi4 d_Bk_firstVacant_15 ?_
    refine z_cNi (As := [.int (μ1 8 a1.toNatClampNeg)]) (rest := []) X w (c_Bh_blockWords l E μ1 (μ1 8 a1.toNatClampNeg) _ h) w_nm_Bk_86 w_st_Bh_blockWords w_in_Bh w_co_Bh_blockWords q_Bh_blockWords.1 q_Bh_blockWords.2 rfl ⟨Nat.le_of_ble_eq_true rfl, Nat.le_of_ble_eq_true rfl⟩ ⟨Nat.zero_le _, Nat.zero_le _⟩ hl.1 rfl (Nat.le_of_ble_eq_true rfl) d_Bk_firstVacant_16 (fun r6 μ5 H locs h w => ?_)
    refine lv_istore_n (lv' := [(2, .int r6), (0, .ref (E.2.1 2)), (1, .int a1)]) hx hb d_Bk_firstVacant_19 rfl hl (by decide) rfl (fun ls hl => ?_)
    refine lv_iload_n hx hb d_Bk_firstVacant_20 rfl (lv_at hl 2 rfl) ?_
    refine lv_bipush (v := 64) hx hb d_Bk_firstVacant_21 (by decide) ?_
    refine lv_imul hx hb d_Bk_firstVacant_23 ?_
    refine lv_topi (fun x7 ex7 => ?_)
    have h := h x7 ex7
    refine lv_istore_n (lv' := [(3, .int x7), (2, .int r6), (0, .ref (E.2.1 2)), (1, .int a1)]) hx hb d_Bk_firstVacant_24 rfl hl (by decide) rfl (fun ls hl => ?_)
    obtain ⟨n, h⟩ := h
    exact L_Bk_firstVacant_25 X hr hlk K n a1 r6 x7 μ5 _ _ _ h w (lv_sub hl [2, 3, 1, 0] rfl)
  · have h := h.2 c3
    refine lv_iconst (v := (-1)) hx hb d_Bk_firstVacant_8 (by decide) ?_
    exact z_iret X hr hlk w h d_Bk_firstVacant_9
