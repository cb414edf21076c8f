theorem q_Ck_keptAt : (y_Ck_keptAt.cls ≠ "java/lang/invoke/MethodHandle" ∧ y_Ck_keptAt.cls ≠ "java/lang/invoke/VarHandle") ∧ (parseMethodDescriptor y_Ck_keptAt.desc).map (fun d => d.parameters.length) = some 1 := by decide +kernel
theorem d_Ck_keptAt_0 : decode prog_3_method_6_code 0 = .ok (.aload_n 0, 1) := by decide +kernel
theorem d_Ck_keptAt_1 : decode prog_3_method_6_code 1 = .ok (.getfield 9, 3) := by decide +kernel
theorem d_Ck_keptAt_4 : decode prog_3_method_6_code 4 = .ok (.aload_n 0, 1) := by decide +kernel
theorem d_Ck_keptAt_5 : decode prog_3_method_6_code 5 = .ok (.getfield 15, 3) := by decide +kernel
theorem d_Ck_keptAt_8 : decode prog_3_method_6_code 8 = .ok (.aload_n 0, 1) := by decide +kernel
theorem d_Ck_keptAt_9 : decode prog_3_method_6_code 9 = .ok (.getfield 19, 3) := by decide +kernel
theorem d_Ck_keptAt_12 : decode prog_3_method_6_code 12 = .ok (.isub, 1) := by decide +kernel
theorem d_Ck_keptAt_13 : decode prog_3_method_6_code 13 = .ok (.iload_n 1, 1) := by decide +kernel
theorem d_Ck_keptAt_14 : decode prog_3_method_6_code 14 = .ok (.iadd, 1) := by decide +kernel
theorem d_Ck_keptAt_15 : decode prog_3_method_6_code 15 = .ok (.sipush 2000, 3) := by decide +kernel
theorem d_Ck_keptAt_18 : decode prog_3_method_6_code 18 = .ok (.invokestatic 32, 3) := by decide +kernel
theorem d_Ck_keptAt_21 : decode prog_3_method_6_code 21 = .ok (.baload, 1) := by decide +kernel
theorem d_Ck_keptAt_22 : decode prog_3_method_6_code 22 = .ok (.ireturn, 1) := by decide +kernel
def f_Ck_keptAt (μ : zM) (a1 : Int32) (K : Int32 → zM → Prop) : Prop := f_Ma_floorMod μ (((μ 10 1) - (μ 10 2)) + a1) (2000 : Int32) (fun r2 μ1 => (vp_in r2 2000 ∧ (K (μ1 11 r2.toNatClampNeg) μ1)))
set_option maxHeartbeats 4000000 in
set_option maxRecDepth 100000 in
theorem c_Ck_keptAt (l : Launch) (E : zE) (μ : zM) (a1 : Int32) (K : Int32 → zM → Prop) (h : f_Ck_keptAt μ a1 K) : Met l y_Ck_keptAt (Cond.code y_Ck_keptAt prog_3_method_6_code 2 (some .int) :: zT) { frames := 1, cells := 0, slots := 0, locals := 22 } (va_Pc [.ref (E.2.1 10), .int a1] (zR zwC E μ)) (va_Qi K (zR zwC E) (zA E)) 0 0 (zA E) := by
  refine z_head (by decide) (Nat.le_of_ble_eq_true rfl) ?_
  intro p e s m below meth c X hr hlk w ls hl
  have X : zX E p s m _ c prog_3_method_6_code "BeatHeap$Clock" 2 := X
  have hx := X.1
  have hb := X.2.1
  have hl : lv_has ls 2 [(0, .ref (E.2.1 10)), (1, .int a1)] := hl
  unfold f_Ck_keptAt at h
  refine lv_aload_n hx hb d_Ck_keptAt_0 rfl (lv_at hl 0 rfl) ?_
  refine gt_10_0 X w w_fl_Ck_9 d_Ck_keptAt_1 ?_
  refine lv_aload_n hx hb d_Ck_keptAt_4 rfl (lv_at hl 0 rfl) ?_
  refine gt_10_1 X w w_fl_Ck_15 d_Ck_keptAt_5 ?_
  refine lv_aload_n hx hb d_Ck_keptAt_8 rfl (lv_at hl 0 rfl) ?_
  refine gt_10_2 X w w_fl_Ck_19 d_Ck_keptAt_9 ?_
  refine lv_isub hx hb d_Ck_keptAt_12 ?_
  refine lv_iload_n hx hb d_Ck_keptAt_13 rfl (lv_at hl 1 rfl) ?_
  refine lv_iadd hx hb d_Ck_keptAt_14 ?_
  refine lv_sipush (v := 2000) hx hb d_Ck_keptAt_15 (by decide) ?_
  refine z_cSi (As := [.int (((μ 10 1) - (μ 10 2)) + a1), .int (2000 : Int32)]) (rest := [.ref (E.2.1 11)]) X w (c_Ma_floorMod l E μ (((μ 10 1) - (μ 10 2)) + a1) (2000 : Int32) _ h) w_ml_Ck_32 w_st_Ma_floorMod w_in_Ma w_co_Ma_floorMod q_Ma_floorMod.1 q_Ma_floorMod.2 rfl ⟨Nat.le_of_ble_eq_true rfl, Nat.le_of_ble_eq_true rfl⟩ ⟨Nat.zero_le _, Nat.zero_le _⟩ hl.1 rfl (Nat.le_of_ble_eq_true rfl) d_Ck_keptAt_18 (fun r2 μ1 H locs h w => ?_)
  obtain ⟨hi3, h⟩ := h
  refine al_11 X w hi3 d_Ck_keptAt_21 ?_
  exact z_iret X hr hlk w h d_Ck_keptAt_22
theorem q_Ck_fewestPrograms : (y_Ck_fewestPrograms.cls ≠ "java/lang/invoke/MethodHandle" ∧ y_Ck_fewestPrograms.cls ≠ "java/lang/invoke/VarHandle") ∧ (parseMethodDescriptor y_Ck_fewestPrograms.desc).map (fun d => d.parameters.length) = some 1 := by decide +kernel
theorem d_Ck_fewestPrograms_0 : decode prog_3_method_7_code 0 = .ok (.iload_n 1, 1) := by decide +kernel
theorem d_Ck_fewestPrograms_1 : decode prog_3_method_7_code 1 = .ok (.iconst 1, 1) := by decide +kernel
theorem d_Ck_fewestPrograms_2 : decode prog_3_method_7_code 2 = .ok (.aload_n 0, 1) := by decide +kernel
theorem d_Ck_fewestPrograms_3 : decode prog_3_method_7_code 3 = .ok (.getfield 19, 3) := by decide +kernel
theorem d_Ck_fewestPrograms_6 : decode prog_3_method_7_code 6 = .ok (.invokestatic 38, 3) := by decide +kernel
theorem d_Ck_fewestPrograms_9 : decode prog_3_method_7_code 9 = .ok (.ifCond .ne 5, 3) := by decide +kernel
theorem d_Ck_fewestPrograms_12 : decode prog_3_method_7_code 12 = .ok (.iconst (-1), 1) := by decide +kernel
theorem d_Ck_fewestPrograms_13 : decode prog_3_method_7_code 13 = .ok (.ireturn, 1) := by decide +kernel
theorem d_Ck_fewestPrograms_14 : decode prog_3_method_7_code 14 = .ok (.iconst 0, 1) := by decide +kernel
theorem d_Ck_fewestPrograms_15 : decode prog_3_method_7_code 15 = .ok (.istore_n 2, 1) := by decide +kernel
theorem d_Ck_fewestPrograms_16 : decode prog_3_method_7_code 16 = .ok (.iconst 0, 1) := by decide +kernel
theorem d_Ck_fewestPrograms_17 : decode prog_3_method_7_code 17 = .ok (.istore_n 3, 1) := by decide +kernel
theorem d_Ck_fewestPrograms_18 : decode prog_3_method_7_code 18 = .ok (.iload_n 3, 1) := by decide +kernel
theorem d_Ck_fewestPrograms_19 : decode prog_3_method_7_code 19 = .ok (.iload_n 1, 1) := by decide +kernel
theorem d_Ck_fewestPrograms_20 : decode prog_3_method_7_code 20 = .ok (.if_icmp .ge 17, 3) := by decide +kernel
theorem d_Ck_fewestPrograms_23 : decode prog_3_method_7_code 23 = .ok (.iload_n 2, 1) := by decide +kernel
theorem d_Ck_fewestPrograms_24 : decode prog_3_method_7_code 24 = .ok (.aload_n 0, 1) := by decide +kernel
theorem d_Ck_fewestPrograms_25 : decode prog_3_method_7_code 25 = .ok (.iload_n 3, 1) := by decide +kernel
theorem d_Ck_fewestPrograms_26 : decode prog_3_method_7_code 26 = .ok (.invokevirtual 42, 3) := by decide +kernel
theorem d_Ck_fewestPrograms_29 : decode prog_3_method_7_code 29 = .ok (.iadd, 1) := by decide +kernel
theorem d_Ck_fewestPrograms_30 : decode prog_3_method_7_code 30 = .ok (.istore_n 2, 1) := by decide +kernel
theorem d_Ck_fewestPrograms_31 : decode prog_3_method_7_code 31 = .ok (.iinc 3 1, 3) := by decide +kernel
theorem d_Ck_fewestPrograms_34 : decode prog_3_method_7_code 34 = .ok (.goto (-16), 3) := by decide +kernel
theorem d_Ck_fewestPrograms_37 : decode prog_3_method_7_code 37 = .ok (.iload_n 2, 1) := by decide +kernel
theorem d_Ck_fewestPrograms_38 : decode prog_3_method_7_code 38 = .ok (.istore_n 3, 1) := by decide +kernel
theorem d_Ck_fewestPrograms_39 : decode prog_3_method_7_code 39 = .ok (.iload_n 1, 1) := by decide +kernel
theorem d_Ck_fewestPrograms_40 : decode prog_3_method_7_code 40 = .ok (.istore 4, 2) := by decide +kernel
theorem d_Ck_fewestPrograms_42 : decode prog_3_method_7_code 42 = .ok (.iload 4, 2) := by decide +kernel
theorem d_Ck_fewestPrograms_44 : decode prog_3_method_7_code 44 = .ok (.aload_n 0, 1) := by decide +kernel
theorem d_Ck_fewestPrograms_45 : decode prog_3_method_7_code 45 = .ok (.getfield 19, 3) := by decide +kernel
theorem d_Ck_fewestPrograms_48 : decode prog_3_method_7_code 48 = .ok (.if_icmp .ge 33, 3) := by decide +kernel
theorem d_Ck_fewestPrograms_51 : decode prog_3_method_7_code 51 = .ok (.iload_n 2, 1) := by decide +kernel
theorem d_Ck_fewestPrograms_52 : decode prog_3_method_7_code 52 = .ok (.aload_n 0, 1) := by decide +kernel
theorem d_Ck_fewestPrograms_53 : decode prog_3_method_7_code 53 = .ok (.iload 4, 2) := by decide +kernel
theorem d_Ck_fewestPrograms_55 : decode prog_3_method_7_code 55 = .ok (.invokevirtual 42, 3) := by decide +kernel
theorem d_Ck_fewestPrograms_58 : decode prog_3_method_7_code 58 = .ok (.aload_n 0, 1) := by decide +kernel
theorem d_Ck_fewestPrograms_59 : decode prog_3_method_7_code 59 = .ok (.iload 4, 2) := by decide +kernel
theorem d_Ck_fewestPrograms_61 : decode prog_3_method_7_code 61 = .ok (.iload_n 1, 1) := by decide +kernel
theorem d_Ck_fewestPrograms_62 : decode prog_3_method_7_code 62 = .ok (.isub, 1) := by decide +kernel
theorem d_Ck_fewestPrograms_63 : decode prog_3_method_7_code 63 = .ok (.invokevirtual 42, 3) := by decide +kernel
theorem d_Ck_fewestPrograms_66 : decode prog_3_method_7_code 66 = .ok (.isub, 1) := by decide +kernel
theorem d_Ck_fewestPrograms_67 : decode prog_3_method_7_code 67 = .ok (.iadd, 1) := by decide +kernel
theorem d_Ck_fewestPrograms_68 : decode prog_3_method_7_code 68 = .ok (.istore_n 2, 1) := by decide +kernel
theorem d_Ck_fewestPrograms_69 : decode prog_3_method_7_code 69 = .ok (.iload_n 3, 1) := by decide +kernel
theorem d_Ck_fewestPrograms_70 : decode prog_3_method_7_code 70 = .ok (.iload_n 2, 1) := by decide +kernel
theorem d_Ck_fewestPrograms_71 : decode prog_3_method_7_code 71 = .ok (.invokestatic 46, 3) := by decide +kernel
theorem d_Ck_fewestPrograms_74 : decode prog_3_method_7_code 74 = .ok (.istore_n 3, 1) := by decide +kernel
theorem d_Ck_fewestPrograms_75 : decode prog_3_method_7_code 75 = .ok (.iinc 4 1, 3) := by decide +kernel
theorem d_Ck_fewestPrograms_78 : decode prog_3_method_7_code 78 = .ok (.goto (-36), 3) := by decide +kernel
theorem d_Ck_fewestPrograms_81 : decode prog_3_method_7_code 81 = .ok (.iload_n 3, 1) := by decide +kernel
theorem d_Ck_fewestPrograms_82 : decode prog_3_method_7_code 82 = .ok (.ireturn, 1) := by decide +kernel
noncomputable def F_Ck_fewestPrograms_42 (K : Int32 → zM → Prop) (n : Nat) : Int32 → Int32 → Int32 → Int32 → zM → Prop := Nat.rec (motive := fun _ => Int32 → Int32 → Int32 → Int32 → zM → Prop) (fun _ _ _ _ _ => False) (fun _ ih x1 x2 x3 x4 μ => ((μ 10 2) ≤ x4 → (K x3 μ)) ∧ (¬ (μ 10 2) ≤ x4 → (f_Ck_keptAt μ x4 (fun r7 μ6 => (f_Ck_keptAt μ6 (x4 - x1) (fun r9 μ8 => (∀ x10 : Int32, x10 = (x2 + (r7 - r9)) → (f_Ma_min μ8 x3 x10 (fun r12 μ11 => (∀ x13 : Int32, x13 = x4 + 1 → (ih x1 x10 r12 x13 μ11))))))))))) n
noncomputable def F_Ck_fewestPrograms_18 (K : Int32 → zM → Prop) (n : Nat) : Int32 → Int32 → Int32 → zM → Prop := Nat.rec (motive := fun _ => Int32 → Int32 → Int32 → zM → Prop) (fun _ _ _ _ => False) (fun _ ih x1 x2 x3 μ => (x1 ≤ x3 → (∃ n : Nat, F_Ck_fewestPrograms_42 K n x1 x2 x2 x1 μ)) ∧ (¬ x1 ≤ x3 → (f_Ck_keptAt μ x3 (fun r15 μ14 => (∀ x16 : Int32, x16 = (x2 + r15) → (∀ x17 : Int32, x17 = x3 + 1 → (ih x1 x16 x17 μ14))))))) n
def f_Ck_fewestPrograms (μ : zM) (a1 : Int32) (K : Int32 → zM → Prop) : Prop := f_Bh_within μ a1 (1 : Int32) (μ 10 2) (fun r2 μ1 => ((¬ r2 = 0 → (∃ n : Nat, F_Ck_fewestPrograms_18 K n a1 (0 : Int32) (0 : Int32) μ1)) ∧ (r2 = 0 → (K (-1 : Int32) μ1))))
set_option maxHeartbeats 4000000 in
set_option maxRecDepth 100000 in
theorem L_Ck_fewestPrograms_42 {p : Program} {l : Launch} {e : Env} {s : State} {m : MethodId} {args : Array Value} {below : List Frame} {meth : Method} {c : Code} {E : zE} (X : zX E p s m args c prog_3_method_7_code "BeatHeap$Clock" 5) (hr : meth.sig.returnType = (some .int)) (hlk : meth.locks = false) (K : Int32 → zM → Prop) : ∀ (n : Nat) (x1 x2 x3 x4 : Int32) (μ : zM) (H : Heap) (locs : List Loc) (ls : Array Slot), F_Ck_fewestPrograms_42 K n x1 x2 x3 x4 μ → zW zwC E s μ H locs → lv_has ls 5 [(0, .ref (E.2.1 10)), (1, .int x1), (2, .int x2), (3, .int x3), (4, .int x4)] → W p l e { frames := 2, cells := 0, slots := 0, locals := 43 } s m args below meth c H locs 0 0 (MQ below (va_Qi K (zR zwC E) (zA E)) args s 0 0 (zA E)) (F0 m 42 ls []) := by
  have hx := X.1
  have hb := X.2.1
  intro n
  induction n with
  | zero => intro x1 x2 x3 x4 μ H locs ls h; exact False.elim h
  | succ n ih =>
    intro x1 x2 x3 x4 μ H locs ls h w hl
    refine lv_iload hx hb d_Ck_fewestPrograms_42 (lv_at hl 4 rfl) ?_
    refine lv_aload_n hx hb d_Ck_fewestPrograms_44 rfl (lv_at hl 0 rfl) ?_
    refine gt_10_2 X w w_fl_Ck_19 d_Ck_fewestPrograms_45 ?_
    refine lv_icmp_ge (tgt := 81) hx hb d_Ck_fewestPrograms_48 (by decide) (fun c5 => ?_) (fun c5 => ?_)
    · have h := h.1 c5
      refine lv_iload_n hx hb d_Ck_fewestPrograms_81 rfl (lv_at hl 3 rfl) ?_
      exact z_iret X hr hlk w h d_Ck_fewestPrograms_82
    · have h := h.2 c5
      refine lv_iload_n hx hb d_Ck_fewestPrograms_51 rfl (lv_at hl 2 rfl) ?_
      refine lv_aload_n hx hb d_Ck_fewestPrograms_52 rfl (lv_at hl 0 rfl) ?_
      refine lv_iload hx hb d_Ck_fewestPrograms_53 (lv_at hl 4 rfl) ?_
      refine z_cVi (As := [.int x4]) (rest := [.int x2]) (q0 := 10) (ci := 1) X w (c_Ck_keptAt l E μ x4 _ h) rfl rfl rfl w_ml_Ck_42 ⟨w_im_Ck_keptAt, w_se_Ck_keptAt⟩ w_in_Ck w_co_Ck_keptAt q_Ck_keptAt.1 q_Ck_keptAt.2 rfl ⟨Nat.le_of_ble_eq_true rfl, Nat.le_of_ble_eq_true rfl⟩ ⟨Nat.zero_le _, Nat.zero_le _⟩ hl.1 rfl (Nat.le_of_ble_eq_true rfl) d_Ck_fewestPrograms_55 (fun r7 μ6 H locs h w => ?_)
      refine lv_aload_n hx hb d_Ck_fewestPrograms_58 rfl (lv_at hl 0 rfl) ?_
      refine lv_iload hx hb d_Ck_fewestPrograms_59 (lv_at hl 4 rfl) ?_
      refine lv_iload_n hx hb d_Ck_fewestPrograms_61 rfl (lv_at hl 1 rfl) ?_
      refine lv_isub hx hb d_Ck_fewestPrograms_62 ?_
      refine z_cVi (As := [.int (x4 - x1)]) (rest := [.int r7, .int x2]) (q0 := 10) (ci := 1) X w (c_Ck_keptAt l E μ6 (x4 - x1) _ h) rfl rfl rfl w_ml_Ck_42 ⟨w_im_Ck_keptAt, w_se_Ck_keptAt⟩ w_in_Ck w_co_Ck_keptAt q_Ck_keptAt.1 q_Ck_keptAt.2 rfl ⟨Nat.le_of_ble_eq_true rfl, Nat.le_of_ble_eq_true rfl⟩ ⟨Nat.zero_le _, Nat.zero_le _⟩ hl.1 rfl (Nat.le_of_ble_eq_true rfl) d_Ck_fewestPrograms_63 (fun r9 μ8 H locs h w => ?_)
      refine lv_isub hx hb d_Ck_fewestPrograms_66 ?_
      refine lv_iadd hx hb d_Ck_fewestPrograms_67 ?_
      refine lv_topi (fun x10 ex10 => ?_)
      have h := h x10 ex10
      refine lv_istore_n (lv' := [(2, .int x10), (0, .ref (E.2.1 10)), (1, .int x1), (3, .int x3), (4, .int x4)]) hx hb d_Ck_fewestPrograms_68 rfl hl (by decide) rfl (fun ls hl => ?_)
      refine lv_iload_n hx hb d_Ck_fewestPrograms_69 rfl (lv_at hl 3 rfl) ?_
      refine lv_iload_n hx hb d_Ck_fewestPrograms_70 rfl (lv_at hl 0 rfl) ?_
      refine z_cSi (As := [.int x3, .int x10]) (rest := []) X w (c_Ma_min l E μ8 x3 x10 _ h) w_ml_Ck_46 w_st_Ma_min w_in_Ma w_co_Ma_min q_Ma_min.1 q_Ma_min.2 rfl ⟨Nat.le_of_ble_eq_true rfl, Nat.le_of_ble_eq_true rfl⟩ ⟨Nat.zero_le _, Nat.zero_le _⟩ hl.1 rfl (Nat.le_of_ble_eq_true rfl) d_Ck_fewestPrograms_71 (fun r12 μ11 H locs h w => ?_)
      refine lv_istore_n (lv' := [(3, .int r12), (2, .int x10), (0, .ref (E.2.1 10)), (1, .int x1), (4, .int x4)]) hx hb d_Ck_fewestPrograms_74 rfl hl (by decide) rfl (fun ls hl => ?_)
      obtain ⟨x13, ex13⟩ : ∃ y : Int32, y = x4 + 1 := ⟨_, rfl⟩
      have h := h x13 ex13
      refine lv_iinc (v := x13) (lv' := [(4, .int x13), (3, .int r12), (2, .int x10), (0, .ref (E.2.1 10)), (1, .int x1)]) hx hb d_Ck_fewestPrograms_75 hl (k := 4) rfl (by rw [ex13]; rfl) (by decide) rfl (fun ls hl => ?_)
      refine lv_goto (tgt := 42) hx hb d_Ck_fewestPrograms_78 (by decide) ?_
      exact ih x1 x10 r12 x13 μ11 _ _ _ h w (lv_sub hl [3, 4, 2, 1, 0] rfl)

set_option maxHeartbeats 4000000 in
set_option maxRecDepth 100000 in
theorem L_Ck_fewestPrograms_18 {p : Program} {l : Launch} {e : Env} {s : State} {m : MethodId} {args : Array Value} {below : List Frame} {meth : Method} {c : Code} {E : zE} (X : zX E p s m args c prog_3_method_7_code "BeatHeap$Clock" 5) (hr : meth.sig.returnType = (some .int)) (hlk : meth.locks = false) (K : Int32 → zM → Prop) : ∀ (n : Nat) (x1 x2 x3 : Int32) (μ : zM) (H : Heap) (locs : List Loc) (ls : Array Slot), F_Ck_fewestPrograms_18 K n x1 x2 x3 μ → zW zwC E s μ H locs → lv_has ls 5 [(0, .ref (E.2.1 10)), (1, .int x1), (2, .int x2), (3, .int x3)] → W p l e { frames := 2, cells := 0, slots := 0, locals := 43 } s m args below meth c H locs 0 0 (MQ below (va_Qi K (zR zwC E) (zA E)) args s 0 0 (zA E)) (F0 m 18 ls []) := by
  have hx := X.1
  have hb := X.2.1
  intro n
  induction n with
  | zero => intro x1 x2 x3 μ H locs ls h; exact False.elim h
  | succ n ih =>
    intro x1 x2 x3 μ H locs ls h w hl
    refine lv_iload_n hx hb d_Ck_fewestPrograms_18 rfl (lv_at hl 3 rfl) ?_
    refine lv_iload_n hx hb d_Ck_fewestPrograms_19 rfl (lv_at hl 1 rfl) ?_
    refine lv_icmp_ge (tgt := 37) hx hb d_Ck_fewestPrograms_20 (by decide) (fun c4 => ?_) (fun c4 => ?_)
    · have h := h.1 c4
      refine lv_iload_n hx hb d_Ck_fewestPrograms_37 rfl (lv_at hl 2 rfl) ?_
      refine lv_istore_n (lv' := [(3, .int x2), (0, .ref (E.2.1 10)), (1, .int x1), (2, .int x2)]) hx hb d_Ck_fewestPrograms_38 rfl hl (by decide) rfl (fun ls hl => ?_)
      refine lv_iload_n hx hb d_Ck_fewestPrograms_39 rfl (lv_at hl 2 rfl) ?_
      refine lv_istore (lv' := [(4, .int x1), (3, .int x2), (0, .ref (E.2.1 10)), (1, .int x1), (2, .int x2)]) hx hb d_Ck_fewestPrograms_40 hl (by decide) rfl (fun ls hl => ?_)
      obtain ⟨n, h⟩ := h
      exact L_Ck_fewestPrograms_42 X hr hlk K n x1 x2 x2 x1 μ _ _ _ h w (lv_sub hl [2, 3, 4, 1, 0] rfl)
    · have h := h.2 c4
      refine lv_iload_n hx hb d_Ck_fewestPrograms_23 rfl (lv_at hl 2 rfl) ?_
      refine lv_aload_n hx hb d_Ck_fewestPrograms_24 rfl (lv_at hl 0 rfl) ?_
      refine lv_iload_n hx hb d_Ck_fewestPrograms_25 rfl (lv_at hl 3 rfl) ?_
      refine z_cVi (As := [.int x3]) (rest := [.int x2]) (q0 := 10) (ci := 1) X w (c_Ck_keptAt l E μ x3 _ h) rfl rfl rfl w_ml_Ck_42 ⟨w_im_Ck_keptAt, w_se_Ck_keptAt⟩ w_in_Ck w_co_Ck_keptAt q_Ck_keptAt.1 q_Ck_keptAt.2 rfl ⟨Nat.le_of_ble_eq_true rfl, Nat.le_of_ble_eq_true rfl⟩ ⟨Nat.zero_le _, Nat.zero_le _⟩ hl.1 rfl (Nat.le_of_ble_eq_true rfl) d_Ck_fewestPrograms_26 (fun r15 μ14 H locs h w => ?_)
      refine lv_iadd hx hb d_Ck_fewestPrograms_29 ?_
      refine lv_topi (fun x16 ex16 => ?_)
      have h := h x16 ex16
      refine lv_istore_n (lv' := [(2, .int x16), (0, .ref (E.2.1 10)), (1, .int x1), (3, .int x3)]) hx hb d_Ck_fewestPrograms_30 rfl hl (by decide) rfl (fun ls hl => ?_)
      obtain ⟨x17, ex17⟩ : ∃ y : Int32, y = x3 + 1 := ⟨_, rfl⟩
      have h := h x17 ex17
      refine lv_iinc (v := x17) (lv' := [(3, .int x17), (2, .int x16), (0, .ref (E.2.1 10)), (1, .int x1)]) hx hb d_Ck_fewestPrograms_31 hl (k := 3) rfl (by rw [ex17]; rfl) (by decide) rfl (fun ls hl => ?_)
      refine lv_goto (tgt := 18) hx hb d_Ck_fewestPrograms_34 (by decide) ?_
      exact ih x1 x16 x17 μ14 _ _ _ h w (lv_sub hl [2, 3, 1, 0] rfl)

set_option maxHeartbeats 4000000 in
set_option maxRecDepth 100000 in
theorem c_Ck_fewestPrograms (l : Launch) (E : zE) (μ : zM) (a1 : Int32) (K : Int32 → zM → Prop) (h : f_Ck_fewestPrograms μ a1 K) : Met l y_Ck_fewestPrograms (Cond.code y_Ck_fewestPrograms prog_3_method_7_code 5 (some .int) :: zT) { frames := 2, cells := 0, slots := 0, locals := 43 } (va_Pc [.ref (E.2.1 10), .int a1] (zR zwC E μ)) (va_Qi K (zR zwC E) (zA E)) 0 0 (zA E) := by
  refine z_head (by decide) (Nat.le_of_ble_eq_true rfl) ?_
  intro p e s m below meth c X hr hlk w ls hl
  have X : zX E p s m _ c prog_3_method_7_code "BeatHeap$Clock" 5 := X
  have hx := X.1
  have hb := X.2.1
  have hl : lv_has ls 5 [(0, .ref (E.2.1 10)), (1, .int a1)] := hl
  unfold f_Ck_fewestPrograms at h
  refine lv_iload_n hx hb d_Ck_fewestPrograms_0 rfl (lv_at hl 1 rfl) ?_
  refine lv_iconst (v := 1) hx hb d_Ck_fewestPrograms_1 (by decide) ?_
  refine lv_aload_n hx hb d_Ck_fewestPrograms_2 rfl (lv_at hl 0 rfl) ?_
  refine gt_10_2 X w w_fl_Ck_19 d_Ck_fewestPrograms_3 ?_
  refine z_cNi (As := [.int a1, .int (1 : Int32), .int (μ 10 2)]) (rest := []) X w (c_Bh_within l E μ a1 (1 : Int32) (μ 10 2) _ h) w_nm_Ck_38 w_st_Bh_within w_in_Bh w_co_Bh_within q_Bh_within.1 q_Bh_within.2 rfl ⟨Nat.le_of_ble_eq_true rfl, Nat.le_of_ble_eq_true rfl⟩ ⟨Nat.zero_le _, Nat.zero_le _⟩ hl.1 rfl (Nat.le_of_ble_eq_true rfl) d_Ck_fewestPrograms_6 (fun r2 μ1 H locs h w => ?_)
  refine lv_if_ne (tgt := 14) hx hb d_Ck_fewestPrograms_9 (by decide) (fun c3 => ?_) (fun c3 => ?_)
  · have h := h.1 c3
    refine lv_iconst (v := 0) hx hb d_Ck_fewestPrograms_14 (by decide) ?_
    refine lv_istore_n (lv' := [(2, .int (0 : Int32)), (0, .ref (E.2.1 10)), (1, .int a1)]) hx hb d_Ck_fewestPrograms_15 rfl hl (by decide) rfl (fun ls hl => ?_)
    refine lv_iconst (v := 0) hx hb d_Ck_fewestPrograms_16 (by decide) ?_
    refine lv_istore_n (lv' := [(3, .int (0 : Int32)), (2, .int (0 : Int32)), (0, .ref (E.2.1 10)), (1, .int a1)]) hx hb d_Ck_fewestPrograms_17 rfl hl (by decide) rfl (fun ls hl => ?_)
    obtain ⟨n, h⟩ := h
    exact L_Ck_fewestPrograms_18 X hr hlk K n a1 (0 : Int32) (0 : Int32) μ1 _ _ _ h w (lv_sub hl [2, 3, 1, 0] rfl)
  · have h := h.2 c3
    refine lv_iconst (v := (-1)) hx hb d_Ck_fewestPrograms_12 (by decide) ?_
    exact z_iret X hr hlk w h d_Ck_fewestPrograms_13
theorem q_Bh_share : (y_Bh_share.cls ≠ "java/lang/invoke/MethodHandle" ∧ y_Bh_share.cls ≠ "java/lang/invoke/VarHandle") ∧ (parseMethodDescriptor y_Bh_share.desc).map (fun d => d.parameters.length) = some 1 := by decide +kernel
theorem d_Bh_share_0 : decode prog_1_method_17_code 0 = .ok (.aload_n 0, 1) := by decide +kernel
theorem d_Bh_share_1 : decode prog_1_method_17_code 1 = .ok (.getfield 25, 3) := by decide +kernel
theorem d_Bh_share_4 : decode prog_1_method_17_code 4 = .ok (.iload_n 1, 1) := by decide +kernel
theorem d_Bh_share_5 : decode prog_1_method_17_code 5 = .ok (.invokevirtual 152, 3) := by decide +kernel
theorem d_Bh_share_8 : decode prog_1_method_17_code 8 = .ok (.ireturn, 1) := by decide +kernel
def f_Bh_share (μ : zM) (a1 : Int32) (K : Int32 → zM → Prop) : Prop := f_Ck_fewestPrograms μ a1 (fun r2 μ1 => (K r2 μ1))
set_option maxHeartbeats 4000000 in
set_option maxRecDepth 100000 in
theorem c_Bh_share (l : Launch) (E : zE) (μ : zM) (a1 : Int32) (K : Int32 → zM → Prop) (h : f_Bh_share μ a1 K) : Met l y_Bh_share (Cond.code y_Bh_share prog_1_method_17_code 2 (some .int) :: zT) { frames := 3, cells := 0, slots := 0, locals := 67 } (va_Pc [.ref (E.2.1 0), .int a1] (zR zwC E μ)) (va_Qi K (zR zwC E) (zA E)) 0 0 (zA E) := by
  refine z_head (by decide) (Nat.le_of_ble_eq_true rfl) ?_
  intro p e s m below meth c X hr hlk w ls hl
  have X : zX E p s m _ c prog_1_method_17_code "BeatHeap" 2 := X
  have hx := X.1
  have hb := X.2.1
  have hl : lv_has ls 2 [(0, .ref (E.2.1 0)), (1, .int a1)] := hl
  unfold f_Bh_share at h
  refine lv_aload_n hx hb d_Bh_share_0 rfl (lv_at hl 0 rfl) ?_
  refine gt_0_2 X w w_fl_Bh_25 d_Bh_share_1 ?_
  refine lv_iload_n hx hb d_Bh_share_4 rfl (lv_at hl 1 rfl) ?_
  refine z_cVi (As := [.int a1]) (rest := []) (q0 := 10) (ci := 1) X w (c_Ck_fewestPrograms l E μ a1 _ h) rfl rfl rfl w_ml_Bh_152 ⟨w_im_Ck_fewestPrograms, w_se_Ck_fewestPrograms⟩ w_in_Ck w_co_Ck_fewestPrograms q_Ck_fewestPrograms.1 q_Ck_fewestPrograms.2 rfl ⟨Nat.le_of_ble_eq_true rfl, Nat.le_of_ble_eq_true rfl⟩ ⟨Nat.zero_le _, Nat.zero_le _⟩ hl.1 rfl (Nat.le_of_ble_eq_true rfl) d_Bh_share_5 (fun r2 μ1 H locs h w => ?_)
  exact z_iret X hr hlk w h d_Bh_share_8
noncomputable def F_Ar_fillB_16_5 (K : zM → Prop) (n : Nat) : Int32 → Int32 → Int32 → zM → Prop := Nat.rec (motive := fun _ => Int32 → Int32 → Int32 → zM → Prop) (fun _ _ _ _ => False) (fun _ ih x1 x2 x3 μ => (x3 ≤ x2 → (K μ)) ∧ (¬ x3 ≤ x2 → (vp_in x2 1024 ∧ ∀ μ3 : zM, μ3 = zp μ 16 x2.toNatClampNeg (vp_nar .byte x1) → (∀ x4 : Int32, x4 = x2 + 1 → (ih x1 x4 x3 μ3))))) n
def f_Ar_fillB_16 (μ : zM) (a1 : Int32) (K : zM → Prop) : Prop := ∃ n : Nat, F_Ar_fillB_16_5 K n a1 (0 : Int32) (1024 : Int32) μ
set_option maxHeartbeats 4000000 in
set_option maxRecDepth 100000 in
theorem L_Ar_fillB_16_5 {p : Program} {l : Launch} {e : Env} {s : State} {m : MethodId} {args : Array Value} {below : List Frame} {meth : Method} {c : Code} {E : zE} (X : zX E p s m args c prog_10_method_109_code "java/util/Arrays" 4) (hr : meth.sig.returnType = none) (hlk : meth.locks = false) (K : zM → Prop) : ∀ (n : Nat) (x1 x2 x3 : Int32) (μ : zM) (H : Heap) (locs : List Loc) (ls : Array Slot), F_Ar_fillB_16_5 K n x1 x2 x3 μ → zW zwC E s μ H locs → lv_has ls 4 [(0, .ref (E.2.1 16)), (1, .int x1), (2, .int x2), (3, .int x3)] → W p l e { frames := 0, cells := 0, slots := 0, locals := 0 } s m args below meth c H locs 0 0 (MQ below (va_Qv K (zR zwC E) (zA E)) args s 0 0 (zA E)) (F0 m 5 ls []) := by
  have hx := X.1
  have hb := X.2.1
  intro n
  induction n with
  | zero => intro x1 x2 x3 μ H locs ls h; exact False.elim h
  | succ n ih =>
    intro x1 x2 x3 μ H locs ls h w hl
    refine lv_iload_n hx hb d_Ar_fillB_5 rfl (lv_at hl 2 rfl) ?_
    refine lv_iload_n hx hb d_Ar_fillB_6 rfl (lv_at hl 3 rfl) ?_
    refine lv_icmp_ge (tgt := 20) hx hb d_Ar_fillB_7 (by decide) (fun c1 => ?_) (fun c1 => ?_)
    · have h := h.1 c1
      exact z_vret X hr hlk w h d_Ar_fillB_20
    · have h := h.2 c1
      refine lv_aload_n hx hb d_Ar_fillB_10 rfl (lv_at hl 0 rfl) ?_
      refine lv_iload_n hx hb d_Ar_fillB_11 rfl (lv_at hl 2 rfl) ?_
      refine lv_iload_n hx hb d_Ar_fillB_12 rfl (lv_at hl 1 rfl) ?_
      obtain ⟨hi2, h⟩ := h
      refine as_16 X w hi2 d_Ar_fillB_13 (fun μ3 H locs eμ3 w => ?_)
      have h := h μ3 eμ3
      obtain ⟨x4, ex4⟩ : ∃ y : Int32, y = x2 + 1 := ⟨_, rfl⟩
      have h := h x4 ex4
      refine lv_iinc (v := x4) (lv' := [(2, .int x4), (0, .ref (E.2.1 16)), (1, .int x1), (3, .int x3)]) hx hb d_Ar_fillB_14 hl (k := 2) rfl (by rw [ex4]; rfl) (by decide) rfl (fun ls hl => ?_)
      refine lv_goto (tgt := 5) hx hb d_Ar_fillB_17 (by decide) ?_
      exact ih x1 x4 x3 μ3 _ _ _ h w (lv_sub hl [1, 2, 0, 3] rfl)

set_option maxHeartbeats 4000000 in
set_option maxRecDepth 100000 in
theorem c_Ar_fillB_16 (l : Launch) (E : zE) (μ : zM) (a1 : Int32) (K : zM → Prop) (h : f_Ar_fillB_16 μ a1 K) : Met l y_Ar_fillB (Cond.code y_Ar_fillB prog_10_method_109_code 4 none :: zT) { frames := 0, cells := 0, slots := 0, locals := 0 } (va_Pc [.ref (E.2.1 16), .int a1] (zR zwC E μ)) (va_Qv K (zR zwC E) (zA E)) 0 0 (zA E) := by
  refine z_head (by decide) (Nat.le_of_ble_eq_true rfl) ?_
  intro p e s m below meth c X hr hlk w ls hl
  have X : zX E p s m _ c prog_10_method_109_code "java/util/Arrays" 4 := X
  have hx := X.1
  have hb := X.2.1
  have hl : lv_has ls 4 [(0, .ref (E.2.1 16)), (1, .int a1)] := hl
  unfold f_Ar_fillB_16 at h
  refine lv_iconst (v := 0) hx hb d_Ar_fillB_0 (by decide) ?_
  refine lv_istore_n (lv' := [(2, .int (0 : Int32)), (0, .ref (E.2.1 16)), (1, .int a1)]) hx hb d_Ar_fillB_1 rfl hl (by decide) rfl (fun ls hl => ?_)
  refine lv_aload_n hx hb d_Ar_fillB_2 rfl (lv_at hl 1 rfl) ?_
  refine an_16 (v := 1024) X w (by decide) d_Ar_fillB_3 ?_
  refine lv_istore_n (lv' := [(3, .int (1024 : Int32)), (2, .int (0 : Int32)), (0, .ref (E.2.1 16)), (1, .int a1)]) hx hb d_Ar_fillB_4 rfl hl (by decide) rfl (fun ls hl => ?_)
  obtain ⟨n, h⟩ := h
  exact L_Ar_fillB_16_5 X hr hlk K n a1 (0 : Int32) (1024 : Int32) μ _ _ _ h w (lv_sub hl [2, 3, 1, 0] rfl)
def f_Pi_clearAll_17 (μ : zM) (K : zM → Prop) : Prop := ∀ μ1 : zM, μ1 = zp μ 17 1 (0 : Int32) → (K μ1)
set_option maxHeartbeats 4000000 in
set_option maxRecDepth 100000 in
theorem c_Pi_clearAll_17 (l : Launch) (E : zE) (μ : zM) (K : zM → Prop) (h : f_Pi_clearAll_17 μ K) : Met l y_Pi_clearAll (Cond.code y_Pi_clearAll prog_5_method_2_code 1 none :: zT) { frames := 0, cells := 0, slots := 0, locals := 0 } (va_Pc [.ref (E.2.1 17)] (zR zwC E μ)) (va_Qv K (zR zwC E) (zA E)) 0 0 (zA E) := by
  refine z_head (by decide) (Nat.le_of_ble_eq_true rfl) ?_
  intro p e s m below meth c X hr hlk w ls hl
  have X : zX E p s m _ c prog_5_method_2_code "BeatHeap$Pile" 1 := X
  have hx := X.1
  have hb := X.2.1
  have hl : lv_has ls 1 [(0, .ref (E.2.1 17))] := hl
  unfold f_Pi_clearAll_17 at h
  refine lv_aload_n hx hb d_Pi_clearAll_0 rfl (lv_at hl 0 rfl) ?_
  refine lv_iconst (v := 0) hx hb d_Pi_clearAll_1 (by decide) ?_
  refine pt_17_1 X w w_fl_Pi_15 d_Pi_clearAll_2 (fun μ1 H locs eμ1 w => ?_)
  have h := h μ1 eμ1
  exact z_vret X hr hlk w h d_Pi_clearAll_5
def f_Pi_pop_17 (μ : zM) (K : Int32 → zM → Prop) : Prop := ((μ 17 1) ≤ 0 → (K (-1 : Int32) μ)) ∧ (¬ (μ 17 1) ≤ 0 → (((μ 17 1) ≤ (1024 : Int32) → (∀ μ3 : zM, μ3 = zp μ 17 1 ((μ 17 1) - (1 : Int32)) → (vp_in (μ3 17 1) 1024 ∧ (K (μ3 18 (μ3 17 1).toNatClampNeg) μ3)))) ∧ (¬ (μ 17 1) ≤ (1024 : Int32) → (K (-1 : Int32) μ))))
set_option maxHeartbeats 4000000 in
set_option maxRecDepth 100000 in
theorem c_Pi_pop_17 (l : Launch) (E : zE) (μ : zM) (K : Int32 → zM → Prop) (h : f_Pi_pop_17 μ K) : Met l y_Pi_pop (Cond.code y_Pi_pop prog_5_method_4_code 1 (some .int) :: zT) { frames := 0, cells := 0, slots := 0, locals := 0 } (va_Pc [.ref (E.2.1 17)] (zR zwC E μ)) (va_Qi K (zR zwC E) (zA E)) 0 0 (zA E) := by
  refine z_head (by decide) (Nat.le_of_ble_eq_true rfl) ?_
  intro p e s m below meth c X hr hlk w ls hl
  have X : zX E p s m _ c prog_5_method_4_code "BeatHeap$Pile" 1 := X
  have hx := X.1
  have hb := X.2.1
  have hl : lv_has ls 1 [(0, .ref (E.2.1 17))] := hl
  unfold f_Pi_pop_17 at h
  refine lv_aload_n hx hb d_Pi_pop_0 rfl (lv_at hl 0 rfl) ?_
  refine gt_17_1 X w w_fl_Pi_15 d_Pi_pop_1 ?_
  refine lv_if_le (tgt := 19) hx hb d_Pi_pop_4 (by decide) (fun c1 => ?_) (fun c1 => ?_)
  · have h := h.1 c1
    refine lv_iconst (v := (-1)) hx hb d_Pi_pop_19 (by decide) ?_
    exact z_iret X hr hlk w h d_Pi_pop_20
  · have h := h.2 c1
    refine lv_aload_n hx hb d_Pi_pop_7 rfl (lv_at hl 0 rfl) ?_
    refine gt_17_1 X w w_fl_Pi_15 d_Pi_pop_8 ?_
    refine lv_aload_n hx hb d_Pi_pop_11 rfl (lv_at hl 0 rfl) ?_
    refine gt_17_0 X w w_fl_Pi_9 d_Pi_pop_12 ?_
    refine an_18 (v := 1024) X w (by decide) d_Pi_pop_15 ?_
    refine lv_icmp_le (tgt := 21) hx hb d_Pi_pop_16 (by decide) (fun c2 => ?_) (fun c2 => ?_)
    · have h := h.1 c2
      refine lv_aload_n hx hb d_Pi_pop_21 rfl (lv_at hl 0 rfl) ?_
      refine lv_dup hx hb d_Pi_pop_22 rfl ?_
      refine gt_17_1 X w w_fl_Pi_15 d_Pi_pop_23 ?_
      refine lv_iconst (v := 1) hx hb d_Pi_pop_26 (by decide) ?_
      refine lv_isub hx hb d_Pi_pop_27 ?_
      refine pt_17_1 X w w_fl_Pi_15 d_Pi_pop_28 (fun μ3 H locs eμ3 w => ?_)
      have h := h μ3 eμ3
      refine lv_aload_n hx hb d_Pi_pop_31 rfl (lv_at hl 0 rfl) ?_
      refine gt_17_0 X w w_fl_Pi_9 d_Pi_pop_32 ?_
      refine lv_aload_n hx hb d_Pi_pop_35 rfl (lv_at hl 0 rfl) ?_
      refine gt_17_1 X w w_fl_Pi_15 d_Pi_pop_36 ?_
      obtain ⟨hi4, h⟩ := h
      refine al_18 X w hi4 d_Pi_pop_39 ?_
      exact z_iret X hr hlk w h d_Pi_pop_40
    · have h := h.2 c2
      refine lv_iconst (v := (-1)) hx hb d_Pi_pop_19 (by decide) ?_
      exact z_iret X hr hlk w h d_Pi_pop_20
def f_Pi_push_17 (μ : zM) (a1 : Int32) (K : zM → Prop) : Prop := ((μ 17 1) < 0 → (K μ)) ∧ (¬ (μ 17 1) < 0 → (((1024 : Int32) ≤ (μ 17 1) → (K μ)) ∧ (¬ (1024 : Int32) ≤ (μ 17 1) → (vp_in (μ 17 1) 1024 ∧ ∀ μ4 : zM, μ4 = zp μ 18 (μ 17 1).toNatClampNeg a1 → (∀ μ5 : zM, μ5 = zp μ4 17 1 ((μ4 17 1) + (1 : Int32)) → (K μ5))))))
set_option maxHeartbeats 4000000 in
set_option maxRecDepth 100000 in
theorem c_Pi_push_17 (l : Launch) (E : zE) (μ : zM) (a1 : Int32) (K : zM → Prop) (h : f_Pi_push_17 μ a1 K) : Met l y_Pi_push (Cond.code y_Pi_push prog_5_method_3_code 2 none :: zT) { frames := 0, cells := 0, slots := 0, locals := 0 } (va_Pc [.ref (E.2.1 17), .int a1] (zR zwC E μ)) (va_Qv K (zR zwC E) (zA E)) 0 0 (zA E) := by
  refine z_head (by decide) (Nat.le_of_ble_eq_true rfl) ?_
  intro p e s m below meth c X hr hlk w ls hl
  have X : zX E p s m _ c prog_5_method_3_code "BeatHeap$Pile" 2 := X
  have hx := X.1
  have hb := X.2.1
  have hl : lv_has ls 2 [(0, .ref (E.2.1 17)), (1, .int a1)] := hl
  unfold f_Pi_push_17 at h
  refine lv_aload_n hx hb d_Pi_push_0 rfl (lv_at hl 0 rfl) ?_
  refine gt_17_1 X w w_fl_Pi_15 d_Pi_push_1 ?_
  refine lv_if_lt (tgt := 39) hx hb d_Pi_push_4 (by decide) (fun c1 => ?_) (fun c1 => ?_)
  · have h := h.1 c1
    exact z_vret X hr hlk w h d_Pi_push_39
  · have h := h.2 c1
    refine lv_aload_n hx hb d_Pi_push_7 rfl (lv_at hl 0 rfl) ?_
    refine gt_17_1 X w w_fl_Pi_15 d_Pi_push_8 ?_
    refine lv_aload_n hx hb d_Pi_push_11 rfl (lv_at hl 0 rfl) ?_
    refine gt_17_0 X w w_fl_Pi_9 d_Pi_push_12 ?_
    refine an_18 (v := 1024) X w (by decide) d_Pi_push_15 ?_
    refine lv_icmp_ge (tgt := 39) hx hb d_Pi_push_16 (by decide) (fun c2 => ?_) (fun c2 => ?_)
    · have h := h.1 c2
      exact z_vret X hr hlk w h d_Pi_push_39
    · have h := h.2 c2
      refine lv_aload_n hx hb d_Pi_push_19 rfl (lv_at hl 0 rfl) ?_
      refine gt_17_0 X w w_fl_Pi_9 d_Pi_push_20 ?_
      refine lv_aload_n hx hb d_Pi_push_23 rfl (lv_at hl 0 rfl) ?_
      refine gt_17_1 X w w_fl_Pi_15 d_Pi_push_24 ?_
      refine lv_iload_n hx hb d_Pi_push_27 rfl (lv_at hl 1 rfl) ?_
      obtain ⟨hi3, h⟩ := h
      refine as_18 X w hi3 d_Pi_push_28 (fun μ4 H locs eμ4 w => ?_)
      have h := h μ4 eμ4
      refine lv_aload_n hx hb d_Pi_push_29 rfl (lv_at hl 0 rfl) ?_
      refine lv_dup hx hb d_Pi_push_30 rfl ?_
      refine gt_17_1 X w w_fl_Pi_15 d_Pi_push_31 ?_
      refine lv_iconst (v := 1) hx hb d_Pi_push_34 (by decide) ?_
      refine lv_iadd hx hb d_Pi_push_35 ?_
      refine pt_17_1 X w w_fl_Pi_15 d_Pi_push_36 (fun μ5 H locs eμ5 w => ?_)
      have h := h μ5 eμ5
      exact z_vret X hr hlk w h d_Pi_push_39
theorem q_Wa_comeTo : (y_Wa_comeTo.cls ≠ "java/lang/invoke/MethodHandle" ∧ y_Wa_comeTo.cls ≠ "java/lang/invoke/VarHandle") ∧ (parseMethodDescriptor y_Wa_comeTo.desc).map (fun d => d.parameters.length) = some 3 := by decide +kernel
theorem d_Wa_comeTo_0 : decode prog_6_method_4_code 0 = .ok (.iload_n 1, 1) := by decide +kernel
theorem d_Wa_comeTo_1 : decode prog_6_method_4_code 1 = .ok (.iconst (-1), 1) := by decide +kernel
theorem d_Wa_comeTo_2 : decode prog_6_method_4_code 2 = .ok (.if_icmp .ne 4, 3) := by decide +kernel
theorem d_Wa_comeTo_5 : decode prog_6_method_4_code 5 = .ok (.return_, 1) := by decide +kernel
theorem d_Wa_comeTo_6 : decode prog_6_method_4_code 6 = .ok (.aload_n 3, 1) := by decide +kernel
theorem d_Wa_comeTo_7 : decode prog_6_method_4_code 7 = .ok (.iload_n 1, 1) := by decide +kernel
theorem d_Wa_comeTo_8 : decode prog_6_method_4_code 8 = .ok (.invokevirtual 54, 3) := by decide +kernel
theorem d_Wa_comeTo_11 : decode prog_6_method_4_code 11 = .ok (.istore 4, 2) := by decide +kernel
theorem d_Wa_comeTo_13 : decode prog_6_method_4_code 13 = .ok (.iload 4, 2) := by decide +kernel
theorem d_Wa_comeTo_15 : decode prog_6_method_4_code 15 = .ok (.ifCond .eq 18, 3) := by decide +kernel
theorem d_Wa_comeTo_18 : decode prog_6_method_4_code 18 = .ok (.iload_n 2, 1) := by decide +kernel
theorem d_Wa_comeTo_19 : decode prog_6_method_4_code 19 = .ok (.iload 4, 2) := by decide +kernel
theorem d_Wa_comeTo_21 : decode prog_6_method_4_code 21 = .ok (.iconst 3, 1) := by decide +kernel
theorem d_Wa_comeTo_22 : decode prog_6_method_4_code 22 = .ok (.if_icmp .ne 7, 3) := by decide +kernel
theorem d_Wa_comeTo_25 : decode prog_6_method_4_code 25 = .ok (.iconst 1, 1) := by decide +kernel
theorem d_Wa_comeTo_26 : decode prog_6_method_4_code 26 = .ok (.goto 4, 3) := by decide +kernel
theorem d_Wa_comeTo_29 : decode prog_6_method_4_code 29 = .ok (.iconst 0, 1) := by decide +kernel
theorem d_Wa_comeTo_30 : decode prog_6_method_4_code 30 = .ok (.if_icmp .eq 9, 3) := by decide +kernel
theorem d_Wa_comeTo_33 : decode prog_6_method_4_code 33 = .ok (.aload_n 0, 1) := by decide +kernel
theorem d_Wa_comeTo_34 : decode prog_6_method_4_code 34 = .ok (.iconst 0, 1) := by decide +kernel
theorem d_Wa_comeTo_35 : decode prog_6_method_4_code 35 = .ok (.putfield 35, 3) := by decide +kernel
theorem d_Wa_comeTo_38 : decode prog_6_method_4_code 38 = .ok (.return_, 1) := by decide +kernel
theorem d_Wa_comeTo_39 : decode prog_6_method_4_code 39 = .ok (.iload_n 1, 1) := by decide +kernel
theorem d_Wa_comeTo_40 : decode prog_6_method_4_code 40 = .ok (.iconst 4, 1) := by decide +kernel
theorem d_Wa_comeTo_41 : decode prog_6_method_4_code 41 = .ok (.idiv, 1) := by decide +kernel
theorem d_Wa_comeTo_42 : decode prog_6_method_4_code 42 = .ok (.istore 5, 2) := by decide +kernel
theorem d_Wa_comeTo_44 : decode prog_6_method_4_code 44 = .ok (.iload 5, 2) := by decide +kernel
theorem d_Wa_comeTo_46 : decode prog_6_method_4_code 46 = .ok (.ifCond .lt 21, 3) := by decide +kernel
theorem d_Wa_comeTo_49 : decode prog_6_method_4_code 49 = .ok (.iload 5, 2) := by decide +kernel
theorem d_Wa_comeTo_51 : decode prog_6_method_4_code 51 = .ok (.sipush 1024, 3) := by decide +kernel
theorem d_Wa_comeTo_54 : decode prog_6_method_4_code 54 = .ok (.if_icmp .ge 13, 3) := by decide +kernel
theorem d_Wa_comeTo_57 : decode prog_6_method_4_code 57 = .ok (.aload_n 0, 1) := by decide +kernel
theorem d_Wa_comeTo_58 : decode prog_6_method_4_code 58 = .ok (.getfield 9, 3) := by decide +kernel
theorem d_Wa_comeTo_61 : decode prog_6_method_4_code 61 = .ok (.iload 5, 2) := by decide +kernel
theorem d_Wa_comeTo_63 : decode prog_6_method_4_code 63 = .ok (.baload, 1) := by decide +kernel
theorem d_Wa_comeTo_64 : decode prog_6_method_4_code 64 = .ok (.ifCond .eq 4, 3) := by decide +kernel
theorem d_Wa_comeTo_67 : decode prog_6_method_4_code 67 = .ok (.return_, 1) := by decide +kernel
theorem d_Wa_comeTo_68 : decode prog_6_method_4_code 68 = .ok (.aload_n 0, 1) := by decide +kernel
theorem d_Wa_comeTo_69 : decode prog_6_method_4_code 69 = .ok (.getfield 9, 3) := by decide +kernel
theorem d_Wa_comeTo_72 : decode prog_6_method_4_code 72 = .ok (.iload 5, 2) := by decide +kernel
theorem d_Wa_comeTo_74 : decode prog_6_method_4_code 74 = .ok (.iconst 1, 1) := by decide +kernel
theorem d_Wa_comeTo_75 : decode prog_6_method_4_code 75 = .ok (.bastore, 1) := by decide +kernel
theorem d_Wa_comeTo_76 : decode prog_6_method_4_code 76 = .ok (.aload_n 0, 1) := by decide +kernel
theorem d_Wa_comeTo_77 : decode prog_6_method_4_code 77 = .ok (.dup, 1) := by decide +kernel
theorem d_Wa_comeTo_78 : decode prog_6_method_4_code 78 = .ok (.getfield 31, 3) := by decide +kernel
theorem d_Wa_comeTo_81 : decode prog_6_method_4_code 81 = .ok (.iconst 1, 1) := by decide +kernel
theorem d_Wa_comeTo_82 : decode prog_6_method_4_code 82 = .ok (.iadd, 1) := by decide +kernel
theorem d_Wa_comeTo_83 : decode prog_6_method_4_code 83 = .ok (.putfield 31, 3) := by decide +kernel
theorem d_Wa_comeTo_86 : decode prog_6_method_4_code 86 = .ok (.iload_n 2, 1) := by decide +kernel
theorem d_Wa_comeTo_87 : decode prog_6_method_4_code 87 = .ok (.ifCond .ne 11, 3) := by decide +kernel
theorem d_Wa_comeTo_90 : decode prog_6_method_4_code 90 = .ok (.aload_n 0, 1) := by decide +kernel
theorem d_Wa_comeTo_91 : decode prog_6_method_4_code 91 = .ok (.getfield 18, 3) := by decide +kernel
theorem d_Wa_comeTo_94 : decode prog_6_method_4_code 94 = .ok (.iload_n 1, 1) := by decide +kernel
theorem d_Wa_comeTo_95 : decode prog_6_method_4_code 95 = .ok (.invokevirtual 66, 3) := by decide +kernel
theorem d_Wa_comeTo_98 : decode prog_6_method_4_code 98 = .ok (.return_, 1) := by decide +kernel
def f_Wa_comeTo (μ : zM) (a1 a2 : Int32) (K : zM → Prop) : Prop := (¬ a1 = (-1 : Int32) → (f_Bk_kindOf μ a1 (fun r3 μ2 => ((r3 = 0 → (∀ μ5 : zM, μ5 = zp μ2 15 3 (0 : Int32) → (K μ5))) ∧ (¬ r3 = 0 → ((¬ r3 = (3 : Int32) → ((a2 = (0 : Int32) → (∀ x8 : Int32, x8 = (a1 / (4 : Int32)) → ((x8 < 0 → (K μ2)) ∧ (¬ x8 < 0 → (((1024 : Int32) ≤ x8 → (K μ2)) ∧ (¬ (1024 : Int32) ≤ x8 → (vp_in x8 1024 ∧ (((μ2 16 x8.toNatClampNeg) = 0 → (vp_in x8 1024 ∧ ∀ μ14 : zM, μ14 = zp μ2 16 x8.toNatClampNeg (vp_nar .byte (1 : Int32)) → (∀ μ15 : zM, μ15 = zp μ14 15 2 ((μ14 15 2) + (1 : Int32)) → ((¬ a2 = 0 → (K μ15)) ∧ (a2 = 0 → (f_Pi_push_17 μ15 a1 (fun μ17 => (K μ17)))))))) ∧ (¬ (μ2 16 x8.toNatClampNeg) = 0 → (K μ2)))))))))) ∧ (¬ a2 = (0 : Int32) → (∀ μ18 : zM, μ18 = zp μ2 15 3 (0 : Int32) → (K μ18))))) ∧ (r3 = (3 : Int32) → ((a2 = (1 : Int32) → (∀ x20 : Int32, x20 = (a1 / (4 : Int32)) → ((x20 < 0 → (K μ2)) ∧ (¬ x20 < 0 → (((1024 : Int32) ≤ x20 → (K μ2)) ∧ (¬ (1024 : Int32) ≤ x20 → (vp_in x20 1024 ∧ (((μ2 16 x20.toNatClampNeg) = 0 → (vp_in x20 1024 ∧ ∀ μ26 : zM, μ26 = zp μ2 16 x20.toNatClampNeg (vp_nar .byte (1 : Int32)) → (∀ μ27 : zM, μ27 = zp μ26 15 2 ((μ26 15 2) + (1 : Int32)) → ((¬ a2 = 0 → (K μ27)) ∧ (a2 = 0 → (f_Pi_push_17 μ27 a1 (fun μ29 => (K μ29)))))))) ∧ (¬ (μ2 16 x20.toNatClampNeg) = 0 → (K μ2)))))))))) ∧ (¬ a2 = (1 : Int32) → (∀ μ30 : zM, μ30 = zp μ2 15 3 (0 : Int32) → (K μ30))))))))))) ∧ (a1 = (-1 : Int32) → (K μ))
set_option maxHeartbeats 4000000 in
set_option maxRecDepth 100000 in
theorem c_Wa_comeTo (l : Launch) (E : zE) (μ : zM) (a1 a2 : Int32) (K : zM → Prop) (h : f_Wa_comeTo μ a1 a2 K) : Met l y_Wa_comeTo (Cond.code y_Wa_comeTo prog_6_method_4_code 6 none :: zT) { frames := 2, cells := 0, slots := 0, locals := 42 } (va_Pc [.ref (E.2.1 15), .int a1, .int a2, .ref (E.2.1 2)] (zR zwC E μ)) (va_Qv K (zR zwC E) (zA E)) 0 0 (zA E) := by
  refine z_head (by decide) (Nat.le_of_ble_eq_true rfl) ?_
  intro p e s m below meth c X hr hlk w ls hl
  have X : zX E p s m _ c prog_6_method_4_code "BeatHeap$Walk" 6 := X
  have hx := X.1
  have hb := X.2.1
  have hl : lv_has ls 6 [(0, .ref (E.2.1 15)), (1, .int a1), (2, .int a2), (3, .ref (E.2.1 2))] := hl
  unfold f_Wa_comeTo at h
  refine lv_iload_n hx hb d_Wa_comeTo_0 rfl (lv_at hl 1 rfl) ?_
  refine lv_iconst (v := (-1)) hx hb d_Wa_comeTo_1 (by decide) ?_
  refine lv_icmp_ne (tgt := 6) hx hb d_Wa_comeTo_2 (by decide) (fun c1 => ?_) (fun c1 => ?_)
  · have h := h.1 c1
    refine lv_aload_n hx hb d_Wa_comeTo_6 rfl (lv_at hl 3 rfl) ?_
    refine lv_iload_n hx hb d_Wa_comeTo_7 rfl (lv_at hl 1 rfl) ?_
    refine z_cVi (As := [.int a1]) (rest := []) (q0 := 2) (ci := 0) X w (c_Bk_kindOf l E μ a1 _ h) rfl rfl rfl w_ml_Wa_54 ⟨w_im_Bk_kindOf, w_se_Bk_kindOf⟩ w_in_Bk w_co_Bk_kindOf q_Bk_kindOf.1 q_Bk_kindOf.2 rfl ⟨Nat.le_of_ble_eq_true rfl, Nat.le_of_ble_eq_true rfl⟩ ⟨Nat.zero_le _, Nat.zero_le _⟩ hl.1 rfl (Nat.le_of_ble_eq_true rfl) d_Wa_comeTo_8 (fun r3 μ2 H locs h w => ?_)
    refine lv_istore (lv' := [(4, .int r3), (0, .ref (E.2.1 15)), (1, .int a1), (2, .int a2), (3, .ref (E.2.1 2))]) hx hb d_Wa_comeTo_11 hl (by decide) rfl (fun ls hl => ?_)
    refine lv_iload hx hb d_Wa_comeTo_13 (lv_at hl 0 rfl) ?_
    refine lv_if_eq (tgt := 33) hx hb d_Wa_comeTo_15 (by decide) (fun c4 => ?_) (fun c4 => ?_)
    · have h := h.1 c4
      refine lv_aload_n hx hb d_Wa_comeTo_33 rfl (lv_at hl 1 rfl) ?_
      refine lv_iconst (v := 0) hx hb d_Wa_comeTo_34 (by decide) ?_
      refine pt_15_3 X w (by decide) w_fl_Wa_35 d_Wa_comeTo_35 (fun μ5 H locs eμ5 w => ?_)
      have h := h μ5 eμ5
      exact z_vret X hr hlk w h d_Wa_comeTo_38
    · have h := h.2 c4
      refine lv_iload_n hx hb d_Wa_comeTo_18 rfl (lv_at hl 3 rfl) ?_
      refine lv_iload hx hb d_Wa_comeTo_19 (lv_at hl 0 rfl) ?_
      refine lv_iconst (v := 3) hx hb d_Wa_comeTo_21 (by decide) ?_
      refine lv_icmp_ne (tgt := 29) hx hb d_Wa_comeTo_22 (by decide) (fun c6 => ?_) (fun c6 => ?_)
      · have h := h.1 c6
        refine lv_iconst (v := 0) hx hb d_Wa_comeTo_29 (by decide) ?_
        refine lv_icmp_eq (tgt := 39) hx hb d_Wa_comeTo_30 (by decide) (fun c7 => ?_) (fun c7 => ?_)
        · have h := h.1 c7
          refine lv_iload_n hx hb d_Wa_comeTo_39 rfl (lv_at hl 2 rfl) ?_
          refine lv_iconst (v := 4) hx hb d_Wa_comeTo_40 (by decide) ?_
          refine lv_idiv hx hb d_Wa_comeTo_41 (by decide) ?_
          refine lv_topi (fun x8 ex8 => ?_)
          have h := h x8 ex8
          refine lv_istore (lv' := [(5, .int x8), (4, .int r3), (0, .ref (E.2.1 15)), (1, .int a1), (2, .int a2), (3, .ref (E.2.1 2))]) hx hb d_Wa_comeTo_42 hl (by decide) rfl (fun ls hl => ?_)
          refine lv_iload hx hb d_Wa_comeTo_44 (lv_at hl 0 rfl) ?_
          refine lv_if_lt (tgt := 67) hx hb d_Wa_comeTo_46 (by decide) (fun c9 => ?_) (fun c9 => ?_)
          · have h := h.1 c9
            exact z_vret X hr hlk w h d_Wa_comeTo_67
          · have h := h.2 c9
            refine lv_iload hx hb d_Wa_comeTo_49 (lv_at hl 0 rfl) ?_
            refine lv_sipush (v := 1024) hx hb d_Wa_comeTo_51 (by decide) ?_
            refine lv_icmp_ge (tgt := 67) hx hb d_Wa_comeTo_54 (by decide) (fun c10 => ?_) (fun c10 => ?_)
            · have h := h.1 c10
              exact z_vret X hr hlk w h d_Wa_comeTo_67
            · have h := h.2 c10
              refine lv_aload_n hx hb d_Wa_comeTo_57 rfl (lv_at hl 2 rfl) ?_
              refine gt_15_0 X w w_fl_Wa_9 d_Wa_comeTo_58 ?_
              refine lv_iload hx hb d_Wa_comeTo_61 (lv_at hl 0 rfl) ?_
              obtain ⟨hi11, h⟩ := h
              refine al_16 X w hi11 d_Wa_comeTo_63 ?_
              refine lv_if_eq (tgt := 68) hx hb d_Wa_comeTo_64 (by decide) (fun c12 => ?_) (fun c12 => ?_)
              · have h := h.1 c12
                refine lv_aload_n hx hb d_Wa_comeTo_68 rfl (lv_at hl 2 rfl) ?_
                refine gt_15_0 X w w_fl_Wa_9 d_Wa_comeTo_69 ?_
                refine lv_iload hx hb d_Wa_comeTo_72 (lv_at hl 0 rfl) ?_
                refine lv_iconst (v := 1) hx hb d_Wa_comeTo_74 (by decide) ?_
                obtain ⟨hi13, h⟩ := h
                refine as_16 X w hi13 d_Wa_comeTo_75 (fun μ14 H locs eμ14 w => ?_)
                have h := h μ14 eμ14
                refine lv_aload_n hx hb d_Wa_comeTo_76 rfl (lv_at hl 2 rfl) ?_
                refine lv_dup hx hb d_Wa_comeTo_77 rfl ?_
                refine gt_15_2 X w w_fl_Wa_31 d_Wa_comeTo_78 ?_
                refine lv_iconst (v := 1) hx hb d_Wa_comeTo_81 (by decide) ?_
                refine lv_iadd hx hb d_Wa_comeTo_82 ?_
                refine pt_15_2 X w w_fl_Wa_31 d_Wa_comeTo_83 (fun μ15 H locs eμ15 w => ?_)
                have h := h μ15 eμ15
                refine lv_iload_n hx hb d_Wa_comeTo_86 rfl (lv_at hl 4 rfl) ?_
                refine lv_if_ne (tgt := 98) hx hb d_Wa_comeTo_87 (by decide) (fun c16 => ?_) (fun c16 => ?_)
                · have h := h.1 c16
                  exact z_vret X hr hlk w h d_Wa_comeTo_98
                · have h := h.2 c16
                  refine lv_aload_n hx hb d_Wa_comeTo_90 rfl (lv_at hl 2 rfl) ?_
                  refine gt_15_1 X w w_fl_Wa_18 d_Wa_comeTo_91 ?_
                  refine lv_iload_n hx hb d_Wa_comeTo_94 rfl (lv_at hl 3 rfl) ?_
                  refine z_cVv (As := [.int a1]) (rest := []) (q0 := 17) (ci := 3) X w (c_Pi_push_17 l E μ15 a1 _ h) rfl rfl rfl w_ml_Wa_66 ⟨w_im_Pi_push, w_se_Pi_push⟩ w_in_Pi w_co_Pi_push q_Pi_push.1 q_Pi_push.2 rfl ⟨Nat.le_of_ble_eq_true rfl, Nat.le_of_ble_eq_true rfl⟩ ⟨Nat.zero_le _, Nat.zero_le _⟩ hl.1 rfl (Nat.le_of_ble_eq_true rfl) d_Wa_comeTo_95 (fun μ17 H locs h w => ?_)
                  exact z_vret X hr hlk w h d_Wa_comeTo_98
              · have h := h.2 c12
                exact z_vret X hr hlk w h d_Wa_comeTo_67
        · have h := h.2 c7
          refine lv_aload_n hx hb d_Wa_comeTo_33 rfl (lv_at hl 1 rfl) ?_
          refine lv_iconst (v := 0) hx hb d_Wa_comeTo_34 (by decide) ?_
          refine pt_15_3 X w (by decide) w_fl_Wa_35 d_Wa_comeTo_35 (fun μ18 H locs eμ18 w => ?_)
          have h := h μ18 eμ18
          exact z_vret X hr hlk w h d_Wa_comeTo_38
      · have h := h.2 c6
        refine lv_iconst (v := 1) hx hb d_Wa_comeTo_25 (by decide) ?_
        refine lv_goto (tgt := 30) hx hb d_Wa_comeTo_26 (by decide) ?_
        refine lv_icmp_eq (tgt := 39) hx hb d_Wa_comeTo_30 (by decide) (fun c19 => ?_) (fun c19 => ?_)
        · have h := h.1 c19
          refine lv_iload_n hx hb d_Wa_comeTo_39 rfl (lv_at hl 2 rfl) ?_
          refine lv_iconst (v := 4) hx hb d_Wa_comeTo_40 (by decide) ?_
          refine lv_idiv hx hb d_Wa_comeTo_41 (by decide) ?_
          refine lv_topi (fun x20 ex20 => ?_)
          have h := h x20 ex20
          refine lv_istore (lv' := [(5, .int x20), (4, .int r3), (0, .ref (E.2.1 15)), (1, .int a1), (2, .int a2), (3, .ref (E.2.1 2))]) hx hb d_Wa_comeTo_42 hl (by decide) rfl (fun ls hl => ?_)
          refine lv_iload hx hb d_Wa_comeTo_44 (lv_at hl 0 rfl) ?_
          refine lv_if_lt (tgt := 67) hx hb d_Wa_comeTo_46 (by decide) (fun c21 => ?_) (fun c21 => ?_)
          · have h := h.1 c21
            exact z_vret X hr hlk w h d_Wa_comeTo_67
          · have h := h.2 c21
            refine lv_iload hx hb d_Wa_comeTo_49 (lv_at hl 0 rfl) ?_
            refine lv_sipush (v := 1024) hx hb d_Wa_comeTo_51 (by decide) ?_
            refine lv_icmp_ge (tgt := 67) hx hb d_Wa_comeTo_54 (by decide) (fun c22 => ?_) (fun c22 => ?_)
            · have h := h.1 c22
              exact z_vret X hr hlk w h d_Wa_comeTo_67
            · have h := h.2 c22
              refine lv_aload_n hx hb d_Wa_comeTo_57 rfl (lv_at hl 2 rfl) ?_
              refine gt_15_0 X w w_fl_Wa_9 d_Wa_comeTo_58 ?_
              refine lv_iload hx hb d_Wa_comeTo_61 (lv_at hl 0 rfl) ?_
              obtain ⟨hi23, h⟩ := h
              refine al_16 X w hi23 d_Wa_comeTo_63 ?_
              refine lv_if_eq (tgt := 68) hx hb d_Wa_comeTo_64 (by decide) (fun c24 => ?_) (fun c24 => ?_)
              · have h := h.1 c24
                refine lv_aload_n hx hb d_Wa_comeTo_68 rfl (lv_at hl 2 rfl) ?_
                refine gt_15_0 X w w_fl_Wa_9 d_Wa_comeTo_69 ?_
                refine lv_iload hx hb d_Wa_comeTo_72 (lv_at hl 0 rfl) ?_
                refine lv_iconst (v := 1) hx hb d_Wa_comeTo_74 (by decide) ?_
                obtain ⟨hi25, h⟩ := h
                refine as_16 X w hi25 d_Wa_comeTo_75 (fun μ26 H locs eμ26 w => ?_)
                have h := h μ26 eμ26
                refine lv_aload_n hx hb d_Wa_comeTo_76 rfl (lv_at hl 2 rfl) ?_
                refine lv_dup hx hb d_Wa_comeTo_77 rfl ?_
                refine gt_15_2 X w w_fl_Wa_31 d_Wa_comeTo_78 ?_
                refine lv_iconst (v := 1) hx hb d_Wa_comeTo_81 (by decide) ?_
                refine lv_iadd hx hb d_Wa_comeTo_82 ?_
                refine pt_15_2 X w w_fl_Wa_31 d_Wa_comeTo_83 (fun μ27 H locs eμ27 w => ?_)
                have h := h μ27 eμ27
                refine lv_iload_n hx hb d_Wa_comeTo_86 rfl (lv_at hl 4 rfl) ?_
                refine lv_if_ne (tgt := 98) hx hb d_Wa_comeTo_87 (by decide) (fun c28 => ?_) (fun c28 => ?_)
                · have h := h.1 c28
                  exact z_vret X hr hlk w h d_Wa_comeTo_98
                · have h := h.2 c28
                  refine lv_aload_n hx hb d_Wa_comeTo_90 rfl (lv_at hl 2 rfl) ?_
                  refine gt_15_1 X w w_fl_Wa_18 d_Wa_comeTo_91 ?_
                  refine lv_iload_n hx hb d_Wa_comeTo_94 rfl (lv_at hl 3 rfl) ?_
                  refine z_cVv (As := [.int a1]) (rest := []) (q0 := 17) (ci := 3) X w (c_Pi_push_17 l E μ27 a1 _ h) rfl rfl rfl w_ml_Wa_66 ⟨w_im_Pi_push, w_se_Pi_push⟩ w_in_Pi w_co_Pi_push q_Pi_push.1 q_Pi_push.2 rfl ⟨Nat.le_of_ble_eq_true rfl, Nat.le_of_ble_eq_true rfl⟩ ⟨Nat.zero_le _, Nat.zero_le _⟩ hl.1 rfl (Nat.le_of_ble_eq_true rfl) d_Wa_comeTo_95 (fun μ29 H locs h w => ?_)
                  exact z_vret X hr hlk w h d_Wa_comeTo_98
              · have h := h.2 c24
                exact z_vret X hr hlk w h d_Wa_comeTo_67
        · have h := h.2 c19
          refine lv_aload_n hx hb d_Wa_comeTo_33 rfl (lv_at hl 1 rfl) ?_
          refine lv_iconst (v := 0) hx hb d_Wa_comeTo_34 (by decide) ?_
          refine pt_15_3 X w (by decide) w_fl_Wa_35 d_Wa_comeTo_35 (fun μ30 H locs eμ30 w => ?_)
          have h := h μ30 eμ30
          exact z_vret X hr hlk w h d_Wa_comeTo_38
  · have h := h.2 c1
    exact z_vret X hr hlk w h d_Wa_comeTo_5
theorem q_Wa_comeToPartsOf : (y_Wa_comeToPartsOf.cls ≠ "java/lang/invoke/MethodHandle" ∧ y_Wa_comeToPartsOf.cls ≠ "java/lang/invoke/VarHandle") ∧ (parseMethodDescriptor y_Wa_comeToPartsOf.desc).map (fun d => d.parameters.length) = some 2 := by decide +kernel
theorem d_Wa_comeToPartsOf_0 : decode prog_6_method_3_code 0 = .ok (.aload_n 2, 1) := by decide +kernel
theorem d_Wa_comeToPartsOf_1 : decode prog_6_method_3_code 1 = .ok (.iload_n 1, 1) := by decide +kernel
theorem d_Wa_comeToPartsOf_2 : decode prog_6_method_3_code 2 = .ok (.invokevirtual 54, 3) := by decide +kernel
theorem d_Wa_comeToPartsOf_5 : decode prog_6_method_3_code 5 = .ok (.iconst 2, 1) := by decide +kernel
theorem d_Wa_comeToPartsOf_6 : decode prog_6_method_3_code 6 = .ok (.if_icmp .ne 7, 3) := by decide +kernel
theorem d_Wa_comeToPartsOf_9 : decode prog_6_method_3_code 9 = .ok (.iconst 1, 1) := by decide +kernel
theorem d_Wa_comeToPartsOf_10 : decode prog_6_method_3_code 10 = .ok (.goto 4, 3) := by decide +kernel
theorem d_Wa_comeToPartsOf_13 : decode prog_6_method_3_code 13 = .ok (.iconst 0, 1) := by decide +kernel
theorem d_Wa_comeToPartsOf_14 : decode prog_6_method_3_code 14 = .ok (.istore_n 3, 1) := by decide +kernel
theorem d_Wa_comeToPartsOf_15 : decode prog_6_method_3_code 15 = .ok (.aload_n 2, 1) := by decide +kernel
theorem d_Wa_comeToPartsOf_16 : decode prog_6_method_3_code 16 = .ok (.iload_n 1, 1) := by decide +kernel
theorem d_Wa_comeToPartsOf_17 : decode prog_6_method_3_code 17 = .ok (.invokevirtual 60, 3) := by decide +kernel
theorem d_Wa_comeToPartsOf_20 : decode prog_6_method_3_code 20 = .ok (.istore 4, 2) := by decide +kernel
theorem d_Wa_comeToPartsOf_22 : decode prog_6_method_3_code 22 = .ok (.iconst 0, 1) := by decide +kernel
theorem d_Wa_comeToPartsOf_23 : decode prog_6_method_3_code 23 = .ok (.istore 5, 2) := by decide +kernel
theorem d_Wa_comeToPartsOf_25 : decode prog_6_method_3_code 25 = .ok (.iload 5, 2) := by decide +kernel
theorem d_Wa_comeToPartsOf_27 : decode prog_6_method_3_code 27 = .ok (.iload 4, 2) := by decide +kernel
theorem d_Wa_comeToPartsOf_29 : decode prog_6_method_3_code 29 = .ok (.if_icmp .ge 25, 3) := by decide +kernel
theorem d_Wa_comeToPartsOf_32 : decode prog_6_method_3_code 32 = .ok (.aload_n 0, 1) := by decide +kernel
theorem d_Wa_comeToPartsOf_33 : decode prog_6_method_3_code 33 = .ok (.aload_n 2, 1) := by decide +kernel
theorem d_Wa_comeToPartsOf_34 : decode prog_6_method_3_code 34 = .ok (.iload_n 1, 1) := by decide +kernel
theorem d_Wa_comeToPartsOf_35 : decode prog_6_method_3_code 35 = .ok (.iconst 1, 1) := by decide +kernel
theorem d_Wa_comeToPartsOf_36 : decode prog_6_method_3_code 36 = .ok (.iadd, 1) := by decide +kernel
theorem d_Wa_comeToPartsOf_37 : decode prog_6_method_3_code 37 = .ok (.iload 5, 2) := by decide +kernel
theorem d_Wa_comeToPartsOf_39 : decode prog_6_method_3_code 39 = .ok (.iadd, 1) := by decide +kernel
theorem d_Wa_comeToPartsOf_40 : decode prog_6_method_3_code 40 = .ok (.invokevirtual 63, 3) := by decide +kernel
theorem d_Wa_comeToPartsOf_43 : decode prog_6_method_3_code 43 = .ok (.iload_n 3, 1) := by decide +kernel
theorem d_Wa_comeToPartsOf_44 : decode prog_6_method_3_code 44 = .ok (.aload_n 2, 1) := by decide +kernel
theorem d_Wa_comeToPartsOf_45 : decode prog_6_method_3_code 45 = .ok (.invokevirtual 39, 3) := by decide +kernel
theorem d_Wa_comeToPartsOf_48 : decode prog_6_method_3_code 48 = .ok (.iinc 5 1, 3) := by decide +kernel
theorem d_Wa_comeToPartsOf_51 : decode prog_6_method_3_code 51 = .ok (.goto (-26), 3) := by decide +kernel
theorem d_Wa_comeToPartsOf_54 : decode prog_6_method_3_code 54 = .ok (.return_, 1) := by decide +kernel
noncomputable def F_Wa_comeToPartsOf_25 (K : zM → Prop) (n : Nat) : Int32 → Int32 → Int32 → Int32 → zM → Prop := Nat.rec (motive := fun _ => Int32 → Int32 → Int32 → Int32 → zM → Prop) (fun _ _ _ _ _ => False) (fun _ ih x1 x3 x4 x5 μ => (x4 ≤ x5 → (K μ)) ∧ (¬ x4 ≤ x5 → (f_Bk_pointerAt μ ((x1 + (1 : Int32)) + x5) (fun r8 μ7 => (f_Wa_comeTo μ7 r8 x3 (fun μ9 => (∀ x10 : Int32, x10 = x5 + 1 → (ih x1 x3 x4 x10 μ9)))))))) n
def f_Wa_comeToPartsOf (μ : zM) (a1 : Int32) (K : zM → Prop) : Prop := f_Bk_kindOf μ a1 (fun r2 μ1 => ((¬ r2 = (2 : Int32) → (f_Bk_pointersOf μ1 a1 (fun r5 μ4 => (∃ n : Nat, F_Wa_comeToPartsOf_25 K n a1 (0 : Int32) r5 (0 : Int32) μ4)))) ∧ (r2 = (2 : Int32) → (f_Bk_pointersOf μ1 a1 (fun r12 μ11 => (∃ n : Nat, F_Wa_comeToPartsOf_25 K n a1 (1 : Int32) r12 (0 : Int32) μ11))))))
set_option maxHeartbeats 4000000 in
set_option maxRecDepth 100000 in
theorem L_Wa_comeToPartsOf_25 {p : Program} {l : Launch} {e : Env} {s : State} {m : MethodId} {args : Array Value} {below : List Frame} {meth : Method} {c : Code} {E : zE} (X : zX E p s m args c prog_6_method_3_code "BeatHeap$Walk" 6) (hr : meth.sig.returnType = none) (hlk : meth.locks = false) (K : zM → Prop) : ∀ (n : Nat) (x1 x3 x4 x5 : Int32) (μ : zM) (H : Heap) (locs : List Loc) (ls : Array Slot), F_Wa_comeToPartsOf_25 K n x1 x3 x4 x5 μ → zW zwC E s μ H locs → lv_has ls 6 [(0, .ref (E.2.1 15)), (1, .int x1), (2, .ref (E.2.1 2)), (3, .int x3), (4, .int x4), (5, .int x5)] → W p l e { frames := 3, cells := 0, slots := 0, locals := 67 } s m args below meth c H locs 0 0 (MQ below (va_Qv K (zR zwC E) (zA E)) args s 0 0 (zA E)) (F0 m 25 ls []) := by
  have hx := X.1
  have hb := X.2.1
  intro n
  induction n with
  | zero => intro x1 x3 x4 x5 μ H locs ls h; exact False.elim h
  | succ n ih =>
    intro x1 x3 x4 x5 μ H locs ls h w hl
    refine lv_iload hx hb d_Wa_comeToPartsOf_25 (lv_at hl 5 rfl) ?_
    refine lv_iload hx hb d_Wa_comeToPartsOf_27 (lv_at hl 4 rfl) ?_
    refine lv_icmp_ge (tgt := 54) hx hb d_Wa_comeToPartsOf_29 (by decide) (fun c6 => ?_) (fun c6 => ?_)
    · have h := h.1 c6
      exact z_vret X hr hlk w h d_Wa_comeToPartsOf_54
    · have h := h.2 c6
      refine lv_aload_n hx hb d_Wa_comeToPartsOf_32 rfl (lv_at hl 0 rfl) ?_
      refine lv_aload_n hx hb d_Wa_comeToPartsOf_33 rfl (lv_at hl 2 rfl) ?_
      refine lv_iload_n hx hb d_Wa_comeToPartsOf_34 rfl (lv_at hl 1 rfl) ?_
      refine lv_iconst (v := 1) hx hb d_Wa_comeToPartsOf_35 (by decide) ?_
      refine lv_iadd hx hb d_Wa_comeToPartsOf_36 ?_
      refine lv_iload hx hb d_Wa_comeToPartsOf_37 (lv_at hl 5 rfl) ?_
      refine lv_iadd hx hb d_Wa_comeToPartsOf_39 ?_
      refine z_cVi (As := [.int ((x1 + (1 : Int32)) + x5)]) (rest := [.ref (E.2.1 15)]) (q0 := 2) (ci := 0) X w (c_Bk_pointerAt l E μ ((x1 + (1 : Int32)) + x5) _ h) rfl rfl rfl w_ml_Wa_63 ⟨w_im_Bk_pointerAt, w_se_Bk_pointerAt⟩ w_in_Bk w_co_Bk_pointerAt q_Bk_pointerAt.1 q_Bk_pointerAt.2 rfl ⟨Nat.le_of_ble_eq_true rfl, Nat.le_of_ble_eq_true rfl⟩ ⟨Nat.zero_le _, Nat.zero_le _⟩ hl.1 rfl (Nat.le_of_ble_eq_true rfl) d_Wa_comeToPartsOf_40 (fun r8 μ7 H locs h w => ?_)
      refine lv_iload_n hx hb d_Wa_comeToPartsOf_43 rfl (lv_at hl 3 rfl) ?_
      refine lv_aload_n hx hb d_Wa_comeToPartsOf_44 rfl (lv_at hl 2 rfl) ?_
      refine z_cVv (As := [.int r8, .int x3, .ref (E.2.1 2)]) (rest := []) (q0 := 15) (ci := 4) X w (c_Wa_comeTo l E μ7 r8 x3 _ h) rfl rfl rfl w_ml_Wa_39 ⟨w_im_Wa_comeTo, w_se_Wa_comeTo⟩ w_in_Wa w_co_Wa_comeTo q_Wa_comeTo.1 q_Wa_comeTo.2 rfl ⟨Nat.le_of_ble_eq_true rfl, Nat.le_of_ble_eq_true rfl⟩ ⟨Nat.zero_le _, Nat.zero_le _⟩ hl.1 rfl (Nat.le_of_ble_eq_true rfl) d_Wa_comeToPartsOf_45 (fun μ9 H locs h w => ?_)
      obtain ⟨x10, ex10⟩ : ∃ y : Int32, y = x5 + 1 := ⟨_, rfl⟩
      have h := h x10 ex10
      refine lv_iinc (v := x10) (lv' := [(5, .int x10), (0, .ref (E.2.1 15)), (1, .int x1), (2, .ref (E.2.1 2)), (3, .int x3), (4, .int x4)]) hx hb d_Wa_comeToPartsOf_48 hl (k := 5) rfl (by rw [ex10]; rfl) (by decide) rfl (fun ls hl => ?_)
      refine lv_goto (tgt := 25) hx hb d_Wa_comeToPartsOf_51 (by decide) ?_
      exact ih x1 x3 x4 x10 μ9 _ _ _ h w (lv_sub hl [1, 2, 3, 4, 5, 0] rfl)

set_option maxHeartbeats 4000000 in
set_option maxRecDepth 100000 in
theorem c_Wa_comeToPartsOf (l : Launch) (E : zE) (μ : zM) (a1 : Int32) (K : zM → Prop) (h : f_Wa_comeToPartsOf μ a1 K) : Met l y_Wa_comeToPartsOf (Cond.code y_Wa_comeToPartsOf prog_6_method_3_code 6 none :: zT) { frames := 3, cells := 0, slots := 0, locals := 67 } (va_Pc [.ref (E.2.1 15), .int a1, .ref (E.2.1 2)] (zR zwC E μ)) (va_Qv K (zR zwC E) (zA E)) 0 0 (zA E) := by
  refine z_head (by decide) (Nat.le_of_ble_eq_true rfl) ?_
  intro p e s m below meth c X hr hlk w ls hl
  have X : zX E p s m _ c prog_6_method_3_code "BeatHeap$Walk" 6 := X
  have hx := X.1
  have hb := X.2.1
  have hl : lv_has ls 6 [(0, .ref (E.2.1 15)), (1, .int a1), (2, .ref (E.2.1 2))] := hl
  unfold f_Wa_comeToPartsOf at h
  refine lv_aload_n hx hb d_Wa_comeToPartsOf_0 rfl (lv_at hl 2 rfl) ?_
  refine lv_iload_n hx hb d_Wa_comeToPartsOf_1 rfl (lv_at hl 1 rfl) ?_
  refine z_cVi (As := [.int a1]) (rest := []) (q0 := 2) (ci := 0) X w (c_Bk_kindOf l E μ a1 _ h) rfl rfl rfl w_ml_Wa_54 ⟨w_im_Bk_kindOf, w_se_Bk_kindOf⟩ w_in_Bk w_co_Bk_kindOf q_Bk_kindOf.1 q_Bk_kindOf.2 rfl ⟨Nat.le_of_ble_eq_true rfl, Nat.le_of_ble_eq_true rfl⟩ ⟨Nat.zero_le _, Nat.zero_le _⟩ hl.1 rfl (Nat.le_of_ble_eq_true rfl) d_Wa_comeToPartsOf_2 (fun r2 μ1 H locs h w => ?_)
  refine lv_iconst (v := 2) hx hb d_Wa_comeToPartsOf_5 (by decide) ?_
  refine lv_icmp_ne (tgt := 13) hx hb d_Wa_comeToPartsOf_6 (by decide) (fun c3 => ?_) (fun c3 => ?_)
  · have h := h.1 c3
    refine lv_iconst (v := 0) hx hb d_Wa_comeToPartsOf_13 (by decide) ?_
    refine lv_istore_n (lv' := [(3, .int (0 : Int32)), (0, .ref (E.2.1 15)), (1, .int a1), (2, .ref (E.2.1 2))]) hx hb d_Wa_comeToPartsOf_14 rfl hl (by decide) rfl (fun ls hl => ?_)
    refine lv_aload_n hx hb d_Wa_comeToPartsOf_15 rfl (lv_at hl 3 rfl) ?_
    refine lv_iload_n hx hb d_Wa_comeToPartsOf_16 rfl (lv_at hl 2 rfl) ?_
    refine z_cVi (As := [.int a1]) (rest := []) (q0 := 2) (ci := 0) X w (c_Bk_pointersOf l E μ1 a1 _ h) rfl rfl rfl w_ml_Wa_60 ⟨w_im_Bk_pointersOf, w_se_Bk_pointersOf⟩ w_in_Bk w_co_Bk_pointersOf q_Bk_pointersOf.1 q_Bk_pointersOf.2 rfl ⟨Nat.le_of_ble_eq_true rfl, Nat.le_of_ble_eq_true rfl⟩ ⟨Nat.zero_le _, Nat.zero_le _⟩ hl.1 rfl (Nat.le_of_ble_eq_true rfl) d_Wa_comeToPartsOf_17 (fun r5 μ4 H locs h w => ?_)
    refine lv_istore (lv' := [(4, .int r5), (3, .int (0 : Int32)), (0, .ref (E.2.1 15)), (1, .int a1), (2, .ref (E.2.1 2))]) hx hb d_Wa_comeToPartsOf_20 hl (by decide) rfl (fun ls hl => ?_)
    refine lv_iconst (v := 0) hx hb d_Wa_comeToPartsOf_22 (by decide) ?_
    refine lv_istore (lv' := [(5, .int (0 : Int32)), (4, .int r5), (3, .int (0 : Int32)), (0, .ref (E.2.1 15)), (1, .int a1), (2, .ref (E.2.1 2))]) hx hb d_Wa_comeToPartsOf_23 hl (by decide) rfl (fun ls hl => ?_)
    obtain ⟨n, h⟩ := h
    exact L_Wa_comeToPartsOf_25 X hr hlk K n a1 (0 : Int32) r5 (0 : Int32) μ4 _ _ _ h w (lv_sub hl [3, 4, 5, 2, 1, 0] rfl)
  · have h := h.2 c3
    refine lv_iconst (v := 1) hx hb d_Wa_comeToPartsOf_9 (by decide) ?_
    refine lv_goto (tgt := 14) hx hb d_Wa_comeToPartsOf_10 (by decide) ?_
    refine lv_istore_n (lv' := [(3, .int (1 : Int32)), (0, .ref (E.2.1 15)), (1, .int a1), (2, .ref (E.2.1 2))]) hx hb d_Wa_comeToPartsOf_14 rfl hl (by decide) rfl (fun ls hl => ?_)
    refine lv_aload_n hx hb d_Wa_comeToPartsOf_15 rfl (lv_at hl 3 rfl) ?_
    refine lv_iload_n hx hb d_Wa_comeToPartsOf_16 rfl (lv_at hl 2 rfl) ?_
    refine z_cVi (As := [.int a1]) (rest := []) (q0 := 2) (ci := 0) X w (c_Bk_pointersOf l E μ1 a1 _ h) rfl rfl rfl w_ml_Wa_60 ⟨w_im_Bk_pointersOf, w_se_Bk_pointersOf⟩ w_in_Bk w_co_Bk_pointersOf q_Bk_pointersOf.1 q_Bk_pointersOf.2 rfl ⟨Nat.le_of_ble_eq_true rfl, Nat.le_of_ble_eq_true rfl⟩ ⟨Nat.zero_le _, Nat.zero_le _⟩ hl.1 rfl (Nat.le_of_ble_eq_true rfl) d_Wa_comeToPartsOf_17 (fun r12 μ11 H locs h w => ?_)
    refine lv_istore (lv' := [(4, .int r12), (3, .int (1 : Int32)), (0, .ref (E.2.1 15)), (1, .int a1), (2, .ref (E.2.1 2))]) hx hb d_Wa_comeToPartsOf_20 hl (by decide) rfl (fun ls hl => ?_)
    refine lv_iconst (v := 0) hx hb d_Wa_comeToPartsOf_22 (by decide) ?_
    refine lv_istore (lv' := [(5, .int (0 : Int32)), (4, .int r12), (3, .int (1 : Int32)), (0, .ref (E.2.1 15)), (1, .int a1), (2, .ref (E.2.1 2))]) hx hb d_Wa_comeToPartsOf_23 hl (by decide) rfl (fun ls hl => ?_)
    obtain ⟨n, h⟩ := h
    exact L_Wa_comeToPartsOf_25 X hr hlk K n a1 (1 : Int32) r12 (0 : Int32) μ11 _ _ _ h w (lv_sub hl [3, 4, 5, 2, 1, 0] rfl)
