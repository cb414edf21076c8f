theorem q_Bh_idle : (y_Bh_idle.cls ≠ "java/lang/invoke/MethodHandle" ∧ y_Bh_idle.cls ≠ "java/lang/invoke/VarHandle") ∧ (parseMethodDescriptor y_Bh_idle.desc).map (fun d => d.parameters.length) = some 1 := by decide +kernel
theorem d_Bh_idle_0 : decode prog_1_method_11_code 0 = .ok (.iload_n 1, 1) := by decide +kernel
theorem d_Bh_idle_1 : decode prog_1_method_11_code 1 = .ok (.iconst 1, 1) := by decide +kernel
theorem d_Bh_idle_2 : decode prog_1_method_11_code 2 = .ok (.sipush 1000, 3) := by decide +kernel
theorem d_Bh_idle_5 : decode prog_1_method_11_code 5 = .ok (.invokestatic 42, 3) := by decide +kernel
theorem d_Bh_idle_8 : decode prog_1_method_11_code 8 = .ok (.ifCond .ne 5, 3) := by decide +kernel
theorem d_Bh_idle_11 : decode prog_1_method_11_code 11 = .ok (.iconst 0, 1) := by decide +kernel
theorem d_Bh_idle_12 : decode prog_1_method_11_code 12 = .ok (.ireturn, 1) := by decide +kernel
theorem d_Bh_idle_13 : decode prog_1_method_11_code 13 = .ok (.iconst 0, 1) := by decide +kernel
theorem d_Bh_idle_14 : decode prog_1_method_11_code 14 = .ok (.istore_n 2, 1) := by decide +kernel
theorem d_Bh_idle_15 : decode prog_1_method_11_code 15 = .ok (.iload_n 2, 1) := by decide +kernel
theorem d_Bh_idle_16 : decode prog_1_method_11_code 16 = .ok (.iload_n 1, 1) := by decide +kernel
theorem d_Bh_idle_17 : decode prog_1_method_11_code 17 = .ok (.if_icmp .ge 17, 3) := by decide +kernel
theorem d_Bh_idle_20 : decode prog_1_method_11_code 20 = .ok (.aload_n 0, 1) := by decide +kernel
theorem d_Bh_idle_21 : decode prog_1_method_11_code 21 = .ok (.getfield 12, 3) := by decide +kernel
theorem d_Bh_idle_24 : decode prog_1_method_11_code 24 = .ok (.iconst 1, 1) := by decide +kernel
theorem d_Bh_idle_25 : decode prog_1_method_11_code 25 = .ok (.invokevirtual 61, 3) := by decide +kernel
theorem d_Bh_idle_28 : decode prog_1_method_11_code 28 = .ok (.iinc 2 1, 3) := by decide +kernel
theorem d_Bh_idle_31 : decode prog_1_method_11_code 31 = .ok (.goto (-16), 3) := by decide +kernel
theorem d_Bh_idle_34 : decode prog_1_method_11_code 34 = .ok (.iconst 1, 1) := by decide +kernel
theorem d_Bh_idle_35 : decode prog_1_method_11_code 35 = .ok (.ireturn, 1) := by decide +kernel
noncomputable def F_Bh_idle_15 (K : Int32 → zM → Prop) (n : Nat) : Int32 → Int32 → zM → Prop := Nat.rec (motive := fun _ => Int32 → Int32 → zM → Prop) (fun _ _ _ => False) (fun _ ih x1 x2 μ => (x1 ≤ x2 → (K (1 : Int32) μ)) ∧ (¬ x1 ≤ x2 → (f_Co_spend μ (1 : Int32) (fun μ5 => (∀ x6 : Int32, x6 = x2 + 1 → (ih x1 x6 μ5)))))) n
def f_Bh_idle (μ : zM) (a1 : Int32) (K : Int32 → zM → Prop) : Prop := f_Bh_within μ a1 (1 : Int32) (1000 : Int32) (fun r2 μ1 => ((¬ r2 = 0 → (∃ n : Nat, F_Bh_idle_15 K n a1 (0 : Int32) μ1)) ∧ (r2 = 0 → (K (0 : Int32) μ1))))
set_option maxHeartbeats 4000000 in
set_option maxRecDepth 100000 in
theorem L_Bh_idle_15 {p : Program} {l : Launch} {e : Env} {s : State} {m : MethodId} {args : Array Value} {below : List Frame} {meth : Method} {c : Code} {E : zE} (X : zX E p s m args c prog_1_method_11_code "BeatHeap" 3) (hr : meth.sig.returnType = (some .boolean)) (hlk : meth.locks = false) (K : Int32 → zM → Prop) : ∀ (n : Nat) (x1 x2 : Int32) (μ : zM) (H : Heap) (locs : List Loc) (ls : Array Slot), F_Bh_idle_15 K n x1 x2 μ → zW zwC E s μ H locs → lv_has ls 3 [(0, .ref (E.2.1 0)), (1, .int x1), (2, .int x2)] → W p l e { frames := 6, cells := 0, slots := 0, locals := 131 } s m args below meth c H locs 0 0 (MQ below (va_Qi K (zR zwC E) (zA E)) args s 0 0 (zA E)) (F0 m 15 ls []) := by
  have hx := X.1
  have hb := X.2.1
  intro n
  induction n with
  | zero => intro x1 x2 μ H locs ls h; exact False.elim h
  | succ n ih =>
    intro x1 x2 μ H locs ls h w hl
    refine lv_iload_n hx hb d_Bh_idle_15 rfl (lv_at hl 2 rfl) ?_
    refine lv_iload_n hx hb d_Bh_idle_16 rfl (lv_at hl 1 rfl) ?_
    refine lv_icmp_ge (tgt := 34) hx hb d_Bh_idle_17 (by decide) (fun c4 => ?_) (fun c4 => ?_)
    · have h := h.1 c4
      refine lv_iconst (v := 1) hx hb d_Bh_idle_34 (by decide) ?_
      exact z_zret X hr hlk w (by decide) h d_Bh_idle_35
    · have h := h.2 c4
      refine lv_aload_n hx hb d_Bh_idle_20 rfl (lv_at hl 0 rfl) ?_
      refine gt_0_0 X w w_fl_Bh_12 d_Bh_idle_21 ?_
      refine lv_iconst (v := 1) hx hb d_Bh_idle_24 (by decide) ?_
      refine z_cVv (As := [.int (1 : Int32)]) (rest := []) (q0 := 1) (ci := 2) X w (c_Co_spend l E μ (1 : Int32) _ h) rfl rfl rfl w_ml_Bh_61 ⟨w_im_Co_spend, w_se_Co_spend⟩ w_in_Co w_co_Co_spend q_Co_spend.1 q_Co_spend.2 rfl ⟨Nat.le_of_ble_eq_true rfl, Nat.le_of_ble_eq_true rfl⟩ ⟨Nat.zero_le _, Nat.zero_le _⟩ hl.1 rfl (Nat.le_of_ble_eq_true rfl) d_Bh_idle_25 (fun μ5 H locs h w => ?_)
      obtain ⟨x6, ex6⟩ : ∃ y : Int32, y = x2 + 1 := ⟨_, rfl⟩
      have h := h x6 ex6
      refine lv_iinc (v := x6) (lv' := [(2, .int x6), (0, .ref (E.2.1 0)), (1, .int x1)]) hx hb d_Bh_idle_28 hl (k := 2) rfl (by rw [ex6]; rfl) (by decide) rfl (fun ls hl => ?_)
      refine lv_goto (tgt := 15) hx hb d_Bh_idle_31 (by decide) ?_
      exact ih x1 x6 μ5 _ _ _ h w (lv_sub hl [1, 2, 0] rfl)

set_option maxHeartbeats 4000000 in
set_option maxRecDepth 100000 in
theorem c_Bh_idle (l : Launch) (E : zE) (μ : zM) (a1 : Int32) (K : Int32 → zM → Prop) (h : f_Bh_idle μ a1 K) : Met l y_Bh_idle (Cond.code y_Bh_idle prog_1_method_11_code 3 (some .boolean) :: zT) { frames := 6, cells := 0, slots := 0, locals := 131 } (va_Pc [.ref (E.2.1 0), .int a1] (zR zwC E μ)) (va_Qi K (zR zwC E) (zA E)) 0 0 (zA E) := by
  refine z_head (by decide) (Nat.le_of_ble_eq_true rfl) ?_
  intro p e s m below meth c X hr hlk w ls hl
  have X : zX E p s m _ c prog_1_method_11_code "BeatHeap" 3 := X
  have hx := X.1
  have hb := X.2.1
  have hl : lv_has ls 3 [(0, .ref (E.2.1 0)), (1, .int a1)] := hl
  unfold f_Bh_idle at h
  refine lv_iload_n hx hb d_Bh_idle_0 rfl (lv_at hl 1 rfl) ?_
  refine lv_iconst (v := 1) hx hb d_Bh_idle_1 (by decide) ?_
  refine lv_sipush (v := 1000) hx hb d_Bh_idle_2 (by decide) ?_
  refine z_cSi (As := [.int a1, .int (1 : Int32), .int (1000 : Int32)]) (rest := []) X w (c_Bh_within l E μ a1 (1 : Int32) (1000 : Int32) _ h) w_ml_Bh_42 w_st_Bh_within w_in_Bh w_co_Bh_within q_Bh_within.1 q_Bh_within.2 rfl ⟨Nat.le_of_ble_eq_true rfl, Nat.le_of_ble_eq_true rfl⟩ ⟨Nat.zero_le _, Nat.zero_le _⟩ hl.1 rfl (Nat.le_of_ble_eq_true rfl) d_Bh_idle_5 (fun r2 μ1 H locs h w => ?_)
  refine lv_if_ne (tgt := 13) hx hb d_Bh_idle_8 (by decide) (fun c3 => ?_) (fun c3 => ?_)
  · have h := h.1 c3
    refine lv_iconst (v := 0) hx hb d_Bh_idle_13 (by decide) ?_
    refine lv_istore_n (lv' := [(2, .int (0 : Int32)), (0, .ref (E.2.1 0)), (1, .int a1)]) hx hb d_Bh_idle_14 rfl hl (by decide) rfl (fun ls hl => ?_)
    obtain ⟨n, h⟩ := h
    exact L_Bh_idle_15 X hr hlk K n a1 (0 : Int32) μ1 _ _ _ h w (lv_sub hl [1, 2, 0] rfl)
  · have h := h.2 c3
    refine lv_iconst (v := 0) hx hb d_Bh_idle_11 (by decide) ?_
    exact z_zret X hr hlk w (by decide) h d_Bh_idle_12
theorem q_Bh_start : (y_Bh_start.cls ≠ "java/lang/invoke/MethodHandle" ∧ y_Bh_start.cls ≠ "java/lang/invoke/VarHandle") ∧ (parseMethodDescriptor y_Bh_start.desc).map (fun d => d.parameters.length) = some 0 := by decide +kernel
theorem d_Bh_start_0 : decode prog_1_method_12_code 0 = .ok (.aload_n 0, 1) := by decide +kernel
theorem d_Bh_start_1 : decode prog_1_method_12_code 1 = .ok (.getfield 12, 3) := by decide +kernel
theorem d_Bh_start_4 : decode prog_1_method_12_code 4 = .ok (.invokevirtual 100, 3) := by decide +kernel
theorem d_Bh_start_7 : decode prog_1_method_12_code 7 = .ok (.ireturn, 1) := by decide +kernel
def f_Bh_start (μ : zM) (K : Int32 → zM → Prop) : Prop := f_Co_beginCycle μ (fun r2 μ1 => ((r2 = 0 ∨ r2 = 1) ∧ K r2 μ1))
set_option maxHeartbeats 4000000 in
set_option maxRecDepth 100000 in
theorem c_Bh_start (l : Launch) (E : zE) (μ : zM) (K : Int32 → zM → Prop) (h : f_Bh_start μ K) : Met l y_Bh_start (Cond.code y_Bh_start prog_1_method_12_code 1 (some .boolean) :: zT) { frames := 1, cells := 0, slots := 0, locals := 20 } (va_Pc [.ref (E.2.1 0)] (zR zwC E μ)) (va_Qi K (zR zwC E) (zA E)) 0 0 (zA E) := by
  refine z_head (by decide) (Nat.le_of_ble_eq_true rfl) ?_
  intro p e s m below meth c X hr hlk w ls hl
  have X : zX E p s m _ c prog_1_method_12_code "BeatHeap" 1 := X
  have hx := X.1
  have hb := X.2.1
  have hl : lv_has ls 1 [(0, .ref (E.2.1 0))] := hl
  unfold f_Bh_start at h
  refine lv_aload_n hx hb d_Bh_start_0 rfl (lv_at hl 0 rfl) ?_
  refine gt_0_0 X w w_fl_Bh_12 d_Bh_start_1 ?_
  refine z_cVi (As := []) (rest := []) (q0 := 1) (ci := 2) X w (c_Co_beginCycle l E μ _ h) rfl rfl rfl w_ml_Bh_100 ⟨w_im_Co_beginCycle, w_se_Co_beginCycle⟩ w_in_Co w_co_Co_beginCycle q_Co_beginCycle.1 q_Co_beginCycle.2 rfl ⟨Nat.le_of_ble_eq_true rfl, Nat.le_of_ble_eq_true rfl⟩ ⟨Nat.zero_le _, Nat.zero_le _⟩ hl.1 rfl (Nat.le_of_ble_eq_true rfl) d_Bh_start_4 (fun r2 μ1 H locs h w => ?_)
  exact z_zret X hr hlk w (z_bz h.1).1 h.2 d_Bh_start_7
theorem q_Bh_root : (y_Bh_root.cls ≠ "java/lang/invoke/MethodHandle" ∧ y_Bh_root.cls ≠ "java/lang/invoke/VarHandle") ∧ (parseMethodDescriptor y_Bh_root.desc).map (fun d => d.parameters.length) = some 2 := by decide +kernel
theorem d_Bh_root_0 : decode prog_1_method_13_code 0 = .ok (.aload_n 0, 1) := by decide +kernel
theorem d_Bh_root_1 : decode prog_1_method_13_code 1 = .ok (.iload_n 1, 1) := by decide +kernel
theorem d_Bh_root_2 : decode prog_1_method_13_code 2 = .ok (.invokevirtual 91, 3) := by decide +kernel
theorem d_Bh_root_5 : decode prog_1_method_13_code 5 = .ok (.istore_n 3, 1) := by decide +kernel
theorem d_Bh_root_6 : decode prog_1_method_13_code 6 = .ok (.iload_n 3, 1) := by decide +kernel
theorem d_Bh_root_7 : decode prog_1_method_13_code 7 = .ok (.iconst (-1), 1) := by decide +kernel
theorem d_Bh_root_8 : decode prog_1_method_13_code 8 = .ok (.if_icmp .ne 5, 3) := by decide +kernel
theorem d_Bh_root_11 : decode prog_1_method_13_code 11 = .ok (.iconst (-1), 1) := by decide +kernel
theorem d_Bh_root_12 : decode prog_1_method_13_code 12 = .ok (.ireturn, 1) := by decide +kernel
theorem d_Bh_root_13 : decode prog_1_method_13_code 13 = .ok (.iload_n 2, 1) := by decide +kernel
theorem d_Bh_root_14 : decode prog_1_method_13_code 14 = .ok (.tableswitch 89 0 4 #[34, 36, 45, 54, 71], 34) := by decide +kernel
theorem d_Bh_root_48 : decode prog_1_method_13_code 48 = .ok (.iload_n 3, 1) := by decide +kernel
theorem d_Bh_root_49 : decode prog_1_method_13_code 49 = .ok (.ireturn, 1) := by decide +kernel
theorem d_Bh_root_50 : decode prog_1_method_13_code 50 = .ok (.aload_n 0, 1) := by decide +kernel
theorem d_Bh_root_51 : decode prog_1_method_13_code 51 = .ok (.getfield 20, 3) := by decide +kernel
theorem d_Bh_root_54 : decode prog_1_method_13_code 54 = .ok (.iload_n 3, 1) := by decide +kernel
theorem d_Bh_root_55 : decode prog_1_method_13_code 55 = .ok (.invokevirtual 104, 3) := by decide +kernel
theorem d_Bh_root_58 : decode prog_1_method_13_code 58 = .ok (.ireturn, 1) := by decide +kernel
theorem d_Bh_root_59 : decode prog_1_method_13_code 59 = .ok (.aload_n 0, 1) := by decide +kernel
theorem d_Bh_root_60 : decode prog_1_method_13_code 60 = .ok (.getfield 20, 3) := by decide +kernel
theorem d_Bh_root_63 : decode prog_1_method_13_code 63 = .ok (.iload_n 3, 1) := by decide +kernel
theorem d_Bh_root_64 : decode prog_1_method_13_code 64 = .ok (.invokevirtual 107, 3) := by decide +kernel
theorem d_Bh_root_67 : decode prog_1_method_13_code 67 = .ok (.ireturn, 1) := by decide +kernel
theorem d_Bh_root_68 : decode prog_1_method_13_code 68 = .ok (.aload_n 0, 1) := by decide +kernel
theorem d_Bh_root_69 : decode prog_1_method_13_code 69 = .ok (.getfield 20, 3) := by decide +kernel
theorem d_Bh_root_72 : decode prog_1_method_13_code 72 = .ok (.iload_n 3, 1) := by decide +kernel
theorem d_Bh_root_73 : decode prog_1_method_13_code 73 = .ok (.invokevirtual 110, 3) := by decide +kernel
theorem d_Bh_root_76 : decode prog_1_method_13_code 76 = .ok (.ifCond .eq 7, 3) := by decide +kernel
theorem d_Bh_root_79 : decode prog_1_method_13_code 79 = .ok (.iconst 1, 1) := by decide +kernel
theorem d_Bh_root_80 : decode prog_1_method_13_code 80 = .ok (.goto 4, 3) := by decide +kernel
theorem d_Bh_root_83 : decode prog_1_method_13_code 83 = .ok (.iconst 0, 1) := by decide +kernel
theorem d_Bh_root_84 : decode prog_1_method_13_code 84 = .ok (.ireturn, 1) := by decide +kernel
theorem d_Bh_root_85 : decode prog_1_method_13_code 85 = .ok (.aload_n 0, 1) := by decide +kernel
theorem d_Bh_root_86 : decode prog_1_method_13_code 86 = .ok (.getfield 20, 3) := by decide +kernel
theorem d_Bh_root_89 : decode prog_1_method_13_code 89 = .ok (.iload_n 3, 1) := by decide +kernel
theorem d_Bh_root_90 : decode prog_1_method_13_code 90 = .ok (.invokevirtual 113, 3) := by decide +kernel
theorem d_Bh_root_93 : decode prog_1_method_13_code 93 = .ok (.iconst 2, 1) := by decide +kernel
theorem d_Bh_root_94 : decode prog_1_method_13_code 94 = .ok (.if_icmp .ne 7, 3) := by decide +kernel
theorem d_Bh_root_97 : decode prog_1_method_13_code 97 = .ok (.iconst 1, 1) := by decide +kernel
theorem d_Bh_root_98 : decode prog_1_method_13_code 98 = .ok (.goto 4, 3) := by decide +kernel
theorem d_Bh_root_101 : decode prog_1_method_13_code 101 = .ok (.iconst 0, 1) := by decide +kernel
theorem d_Bh_root_102 : decode prog_1_method_13_code 102 = .ok (.ireturn, 1) := by decide +kernel
theorem d_Bh_root_103 : decode prog_1_method_13_code 103 = .ok (.iconst (-1), 1) := by decide +kernel
theorem d_Bh_root_104 : decode prog_1_method_13_code 104 = .ok (.ireturn, 1) := by decide +kernel
def f_Bh_root (μ : zM) (a1 a2 : Int32) (K : Int32 → zM → Prop) : Prop := f_Bh_rootOrNone μ a1 (fun r2 μ1 => ((¬ r2 = (-1 : Int32) → ((a2.toInt = 0 → (K r2 μ1)) ∧ (a2.toInt = 1 → (f_Bk_pointersOf μ1 r2 (fun r7 μ6 => (K r7 μ6)))) ∧ (a2.toInt = 2 → (f_Bk_numbersOf μ1 r2 (fun r10 μ9 => (K r10 μ9)))) ∧ (a2.toInt = 3 → (f_Bk_isMarked μ1 r2 (fun r13 μ12 => ((r13 = 0 → (K (0 : Int32) μ12)) ∧ (¬ r13 = 0 → (K (1 : Int32) μ12)))))) ∧ (a2.toInt = 4 → (f_Bk_kindOf μ1 r2 (fun r17 μ16 => ((¬ r17 = (2 : Int32) → (K (0 : Int32) μ16)) ∧ (r17 = (2 : Int32) → (K (1 : Int32) μ16)))))) ∧ (¬ a2.toInt = 0 → ¬ a2.toInt = 1 → ¬ a2.toInt = 2 → ¬ a2.toInt = 3 → ¬ a2.toInt = 4 → (K (-1 : Int32) μ1)))) ∧ (r2 = (-1 : Int32) → (K (-1 : Int32) μ1))))
set_option maxHeartbeats 4000000 in
set_option maxRecDepth 100000 in
theorem c_Bh_root (l : Launch) (E : zE) (μ : zM) (a1 a2 : Int32) (K : Int32 → zM → Prop) (h : f_Bh_root μ a1 a2 K) : Met l y_Bh_root (Cond.code y_Bh_root prog_1_method_13_code 4 (some .int) :: zT) { frames := 2, cells := 0, slots := 0, locals := 42 } (va_Pc [.ref (E.2.1 0), .int a1, .int a2] (zR zwC E μ)) (va_Qi K (zR zwC E) (zA E)) 0 0 (zA E) := by
  refine z_head (by decide) (Nat.le_of_ble_eq_true rfl) ?_
  intro p e s m below meth c X hr hlk w ls hl
  have X : zX E p s m _ c prog_1_method_13_code "BeatHeap" 4 := X
  have hx := X.1
  have hb := X.2.1
  have hl : lv_has ls 4 [(0, .ref (E.2.1 0)), (1, .int a1), (2, .int a2)] := hl
  unfold f_Bh_root at h
  refine lv_aload_n hx hb d_Bh_root_0 rfl (lv_at hl 0 rfl) ?_
  refine lv_iload_n hx hb d_Bh_root_1 rfl (lv_at hl 1 rfl) ?_
  refine z_cVi (As := [.int a1]) (rest := []) (q0 := 0) (ci := 5) X w (c_Bh_rootOrNone l E μ a1 _ h) rfl rfl rfl w_ml_Bh_91 ⟨w_im_Bh_rootOrNone, w_se_Bh_rootOrNone⟩ w_in_Bh w_co_Bh_rootOrNone q_Bh_rootOrNone.1 q_Bh_rootOrNone.2 rfl ⟨Nat.le_of_ble_eq_true rfl, Nat.le_of_ble_eq_true rfl⟩ ⟨Nat.zero_le _, Nat.zero_le _⟩ hl.1 rfl (Nat.le_of_ble_eq_true rfl) d_Bh_root_2 (fun r2 μ1 H locs h w => ?_)
  refine lv_istore_n (lv' := [(3, .int r2), (0, .ref (E.2.1 0)), (1, .int a1), (2, .int a2)]) hx hb d_Bh_root_5 rfl hl (by decide) rfl (fun ls hl => ?_)
  refine lv_iload_n hx hb d_Bh_root_6 rfl (lv_at hl 0 rfl) ?_
  refine lv_iconst (v := (-1)) hx hb d_Bh_root_7 (by decide) ?_
  refine lv_icmp_ne (tgt := 13) hx hb d_Bh_root_8 (by decide) (fun c3 => ?_) (fun c3 => ?_)
  · have h := h.1 c3
    refine lv_iload_n hx hb d_Bh_root_13 rfl (lv_at hl 3 rfl) ?_
    by_cases c4 : a2.toInt = 0
    · have h := h.1 c4
      refine lv_tableIn (tgt := 48) hx hb d_Bh_root_14 (by omega) (by omega) (off := 34) (by rw [c4]; rfl) (by decide) ?_
      refine lv_iload_n hx hb d_Bh_root_48 rfl (lv_at hl 0 rfl) ?_
      exact z_iret X hr hlk w h d_Bh_root_49
    by_cases c5 : a2.toInt = 1
    · have h := h.2.1 c5
      refine lv_tableIn (tgt := 50) hx hb d_Bh_root_14 (by omega) (by omega) (off := 36) (by rw [c5]; rfl) (by decide) ?_
      refine lv_aload_n hx hb d_Bh_root_50 rfl (lv_at hl 1 rfl) ?_
      refine gt_0_1 X w w_fl_Bh_20 d_Bh_root_51 ?_
      refine lv_iload_n hx hb d_Bh_root_54 rfl (lv_at hl 0 rfl) ?_
      refine z_cVi (As := [.int r2]) (rest := []) (q0 := 2) (ci := 0) X w (c_Bk_pointersOf l E μ1 r2 _ h) rfl rfl rfl w_ml_Bh_104 ⟨w_im_Bk_pointersOf, w_se_Bk_pointersOf⟩ w_in_Bk w_co_Bk_pointersOf q_Bk_pointersOf.1 q_Bk_pointersOf.2 rfl ⟨Nat.le_of_ble_eq_true rfl, Nat.le_of_ble_eq_true rfl⟩ ⟨Nat.zero_le _, Nat.zero_le _⟩ hl.1 rfl (Nat.le_of_ble_eq_true rfl) d_Bh_root_55 (fun r7 μ6 H locs h w => ?_)
      exact z_iret X hr hlk w h d_Bh_root_58
    by_cases c8 : a2.toInt = 2
    · have h := h.2.2.1 c8
      refine lv_tableIn (tgt := 59) hx hb d_Bh_root_14 (by omega) (by omega) (off := 45) (by rw [c8]; rfl) (by decide) ?_
      refine lv_aload_n hx hb d_Bh_root_59 rfl (lv_at hl 1 rfl) ?_
      refine gt_0_1 X w w_fl_Bh_20 d_Bh_root_60 ?_
      refine lv_iload_n hx hb d_Bh_root_63 rfl (lv_at hl 0 rfl) ?_
      refine z_cVi (As := [.int r2]) (rest := []) (q0 := 2) (ci := 0) X w (c_Bk_numbersOf l E μ1 r2 _ h) rfl rfl rfl w_ml_Bh_107 ⟨w_im_Bk_numbersOf, w_se_Bk_numbersOf⟩ w_in_Bk w_co_Bk_numbersOf q_Bk_numbersOf.1 q_Bk_numbersOf.2 rfl ⟨Nat.le_of_ble_eq_true rfl, Nat.le_of_ble_eq_true rfl⟩ ⟨Nat.zero_le _, Nat.zero_le _⟩ hl.1 rfl (Nat.le_of_ble_eq_true rfl) d_Bh_root_64 (fun r10 μ9 H locs h w => ?_)
      exact z_iret X hr hlk w h d_Bh_root_67
    by_cases c11 : a2.toInt = 3
    · have h := h.2.2.2.1 c11
      refine lv_tableIn (tgt := 68) hx hb d_Bh_root_14 (by omega) (by omega) (off := 54) (by rw [c11]; rfl) (by decide) ?_
      refine lv_aload_n hx hb d_Bh_root_68 rfl (lv_at hl 1 rfl) ?_
      refine gt_0_1 X w w_fl_Bh_20 d_Bh_root_69 ?_
      refine lv_iload_n hx hb d_Bh_root_72 rfl (lv_at hl 0 rfl) ?_
      refine z_cVi (As := [.int r2]) (rest := []) (q0 := 2) (ci := 0) X w (c_Bk_isMarked l E μ1 r2 _ h) rfl rfl rfl w_ml_Bh_110 ⟨w_im_Bk_isMarked, w_se_Bk_isMarked⟩ w_in_Bk w_co_Bk_isMarked q_Bk_isMarked.1 q_Bk_isMarked.2 rfl ⟨Nat.le_of_ble_eq_true rfl, Nat.le_of_ble_eq_true rfl⟩ ⟨Nat.zero_le _, Nat.zero_le _⟩ hl.1 rfl (Nat.le_of_ble_eq_true rfl) d_Bh_root_73 (fun r13 μ12 H locs h w => ?_)
      refine lv_if_eq (tgt := 83) hx hb d_Bh_root_76 (by decide) (fun c14 => ?_) (fun c14 => ?_)
      · have h := h.1 c14
        refine lv_iconst (v := 0) hx hb d_Bh_root_83 (by decide) ?_
        exact z_iret X hr hlk w h d_Bh_root_84
      · have h := h.2 c14
        refine lv_iconst (v := 1) hx hb d_Bh_root_79 (by decide) ?_
        refine lv_goto (tgt := 84) hx hb d_Bh_root_80 (by decide) ?_
        exact z_iret X hr hlk w h d_Bh_root_84
    by_cases c15 : a2.toInt = 4
    · have h := h.2.2.2.2.1 c15
      refine lv_tableIn (tgt := 85) hx hb d_Bh_root_14 (by omega) (by omega) (off := 71) (by rw [c15]; rfl) (by decide) ?_
      refine lv_aload_n hx hb d_Bh_root_85 rfl (lv_at hl 1 rfl) ?_
      refine gt_0_1 X w w_fl_Bh_20 d_Bh_root_86 ?_
      refine lv_iload_n hx hb d_Bh_root_89 rfl (lv_at hl 0 rfl) ?_
      refine z_cVi (As := [.int r2]) (rest := []) (q0 := 2) (ci := 0) X w (c_Bk_kindOf l E μ1 r2 _ h) rfl rfl rfl w_ml_Bh_113 ⟨w_im_Bk_kindOf, w_se_Bk_kindOf⟩ w_in_Bk w_co_Bk_kindOf q_Bk_kindOf.1 q_Bk_kindOf.2 rfl ⟨Nat.le_of_ble_eq_true rfl, Nat.le_of_ble_eq_true rfl⟩ ⟨Nat.zero_le _, Nat.zero_le _⟩ hl.1 rfl (Nat.le_of_ble_eq_true rfl) d_Bh_root_90 (fun r17 μ16 H locs h w => ?_)
      refine lv_iconst (v := 2) hx hb d_Bh_root_93 (by decide) ?_
      refine lv_icmp_ne (tgt := 101) hx hb d_Bh_root_94 (by decide) (fun c18 => ?_) (fun c18 => ?_)
      · have h := h.1 c18
        refine lv_iconst (v := 0) hx hb d_Bh_root_101 (by decide) ?_
        exact z_iret X hr hlk w h d_Bh_root_102
      · have h := h.2 c18
        refine lv_iconst (v := 1) hx hb d_Bh_root_97 (by decide) ?_
        refine lv_goto (tgt := 102) hx hb d_Bh_root_98 (by decide) ?_
        exact z_iret X hr hlk w h d_Bh_root_102
    have h := h.2.2.2.2.2 c4 c5 c8 c11 c15
    refine lv_tableOut (tgt := 103) hx hb d_Bh_root_14 (by omega) (by decide) ?_
    refine lv_iconst (v := (-1)) hx hb d_Bh_root_103 (by decide) ?_
    exact z_iret X hr hlk w h d_Bh_root_104
  · have h := h.2 c3
    refine lv_iconst (v := (-1)) hx hb d_Bh_root_11 (by decide) ?_
    exact z_iret X hr hlk w h d_Bh_root_12
theorem q_Bh_word : (y_Bh_word.cls ≠ "java/lang/invoke/MethodHandle" ∧ y_Bh_word.cls ≠ "java/lang/invoke/VarHandle") ∧ (parseMethodDescriptor y_Bh_word.desc).map (fun d => d.parameters.length) = some 1 := by decide +kernel
theorem d_Bh_word_0 : decode prog_1_method_14_code 0 = .ok (.aload_n 0, 1) := by decide +kernel
theorem d_Bh_word_1 : decode prog_1_method_14_code 1 = .ok (.getfield 20, 3) := by decide +kernel
theorem d_Bh_word_4 : decode prog_1_method_14_code 4 = .ok (.iload_n 1, 1) := by decide +kernel
theorem d_Bh_word_5 : decode prog_1_method_14_code 5 = .ok (.invokevirtual 116, 3) := by decide +kernel
theorem d_Bh_word_8 : decode prog_1_method_14_code 8 = .ok (.ifCond .eq 14, 3) := by decide +kernel
theorem d_Bh_word_11 : decode prog_1_method_14_code 11 = .ok (.aload_n 0, 1) := by decide +kernel
theorem d_Bh_word_12 : decode prog_1_method_14_code 12 = .ok (.getfield 20, 3) := by decide +kernel
theorem d_Bh_word_15 : decode prog_1_method_14_code 15 = .ok (.iload_n 1, 1) := by decide +kernel
theorem d_Bh_word_16 : decode prog_1_method_14_code 16 = .ok (.invokevirtual 79, 3) := by decide +kernel
theorem d_Bh_word_19 : decode prog_1_method_14_code 19 = .ok (.goto 4, 3) := by decide +kernel
theorem d_Bh_word_22 : decode prog_1_method_14_code 22 = .ok (.iconst (-1), 1) := by decide +kernel
theorem d_Bh_word_23 : decode prog_1_method_14_code 23 = .ok (.ireturn, 1) := by decide +kernel
def f_Bh_word (μ : zM) (a1 : Int32) (K : Int32 → zM → Prop) : Prop := f_Bk_isInside μ a1 (fun r2 μ1 => ((r2 = 0 → (K (-1 : Int32) μ1)) ∧ (¬ r2 = 0 → (f_Bk_wordAt μ1 a1 (fun r5 μ4 => (K r5 μ4))))))
set_option maxHeartbeats 4000000 in
set_option maxRecDepth 100000 in
theorem c_Bh_word (l : Launch) (E : zE) (μ : zM) (a1 : Int32) (K : Int32 → zM → Prop) (h : f_Bh_word μ a1 K) : Met l y_Bh_word (Cond.code y_Bh_word prog_1_method_14_code 2 (some .int) :: zT) { frames := 2, cells := 0, slots := 0, locals := 42 } (va_Pc [.ref (E.2.1 0), .int a1] (zR zwC E μ)) (va_Qi K (zR zwC E) (zA E)) 0 0 (zA E) := by
  refine z_head (by decide) (Nat.le_of_ble_eq_true rfl) ?_
  intro p e s m below meth c X hr hlk w ls hl
  have X : zX E p s m _ c prog_1_method_14_code "BeatHeap" 2 := X
  have hx := X.1
  have hb := X.2.1
  have hl : lv_has ls 2 [(0, .ref (E.2.1 0)), (1, .int a1)] := hl
  unfold f_Bh_word at h
  refine lv_aload_n hx hb d_Bh_word_0 rfl (lv_at hl 0 rfl) ?_
  refine gt_0_1 X w w_fl_Bh_20 d_Bh_word_1 ?_
  refine lv_iload_n hx hb d_Bh_word_4 rfl (lv_at hl 1 rfl) ?_
  refine z_cVi (As := [.int a1]) (rest := []) (q0 := 2) (ci := 0) X w (c_Bk_isInside l E μ a1 _ h) rfl rfl rfl w_ml_Bh_116 ⟨w_im_Bk_isInside, w_se_Bk_isInside⟩ w_in_Bk w_co_Bk_isInside q_Bk_isInside.1 q_Bk_isInside.2 rfl ⟨Nat.le_of_ble_eq_true rfl, Nat.le_of_ble_eq_true rfl⟩ ⟨Nat.zero_le _, Nat.zero_le _⟩ hl.1 rfl (Nat.le_of_ble_eq_true rfl) d_Bh_word_5 (fun r2 μ1 H locs h w => ?_)
  refine lv_if_eq (tgt := 22) hx hb d_Bh_word_8 (by decide) (fun c3 => ?_) (fun c3 => ?_)
  · have h := h.1 c3
    refine lv_iconst (v := (-1)) hx hb d_Bh_word_22 (by decide) ?_
    exact z_iret X hr hlk w h d_Bh_word_23
  · have h := h.2 c3
    refine lv_aload_n hx hb d_Bh_word_11 rfl (lv_at hl 0 rfl) ?_
    refine gt_0_1 X w w_fl_Bh_20 d_Bh_word_12 ?_
    refine lv_iload_n hx hb d_Bh_word_15 rfl (lv_at hl 1 rfl) ?_
    refine z_cVi (As := [.int a1]) (rest := []) (q0 := 2) (ci := 0) X w (c_Bk_wordAt l E μ1 a1 _ h) rfl rfl rfl w_ml_Bh_79 ⟨w_im_Bk_wordAt, w_se_Bk_wordAt⟩ w_in_Bk w_co_Bk_wordAt q_Bk_wordAt.1 q_Bk_wordAt.2 rfl ⟨Nat.le_of_ble_eq_true rfl, Nat.le_of_ble_eq_true rfl⟩ ⟨Nat.zero_le _, Nat.zero_le _⟩ hl.1 rfl (Nat.le_of_ble_eq_true rfl) d_Bh_word_16 (fun r5 μ4 H locs h w => ?_)
    refine lv_goto (tgt := 23) hx hb d_Bh_word_19 (by decide) ?_
    exact z_iret X hr hlk w h d_Bh_word_23
theorem q_Bk_heldIn : (y_Bk_heldIn.cls ≠ "java/lang/invoke/MethodHandle" ∧ y_Bk_heldIn.cls ≠ "java/lang/invoke/VarHandle") ∧ (parseMethodDescriptor y_Bk_heldIn.desc).map (fun d => d.parameters.length) = some 1 := by decide +kernel
theorem d_Bk_heldIn_0 : decode prog_2_method_15_code 0 = .ok (.aload_n 0, 1) := by decide +kernel
theorem d_Bk_heldIn_1 : decode prog_2_method_15_code 1 = .ok (.iload_n 1, 1) := by decide +kernel
theorem d_Bk_heldIn_2 : decode prog_2_method_15_code 2 = .ok (.invokevirtual 74, 3) := by decide +kernel
theorem d_Bk_heldIn_5 : decode prog_2_method_15_code 5 = .ok (.ifCond .eq 12, 3) := by decide +kernel
theorem d_Bk_heldIn_8 : decode prog_2_method_15_code 8 = .ok (.aload_n 0, 1) := by decide +kernel
theorem d_Bk_heldIn_9 : decode prog_2_method_15_code 9 = .ok (.getfield 31, 3) := by decide +kernel
theorem d_Bk_heldIn_12 : decode prog_2_method_15_code 12 = .ok (.iload_n 1, 1) := by decide +kernel
theorem d_Bk_heldIn_13 : decode prog_2_method_15_code 13 = .ok (.iaload, 1) := by decide +kernel
theorem d_Bk_heldIn_14 : decode prog_2_method_15_code 14 = .ok (.goto 4, 3) := by decide +kernel
theorem d_Bk_heldIn_17 : decode prog_2_method_15_code 17 = .ok (.iconst (-1), 1) := by decide +kernel
theorem d_Bk_heldIn_18 : decode prog_2_method_15_code 18 = .ok (.ireturn, 1) := by decide +kernel
def f_Bk_heldIn (μ : zM) (a1 : Int32) (K : Int32 → zM → Prop) : Prop := f_Bk_isPage μ a1 (fun r2 μ1 => ((r2 = 0 → (K (-1 : Int32) μ1)) ∧ (¬ r2 = 0 → (vp_in a1 64 ∧ (K (μ1 9 a1.toNatClampNeg) μ1)))))
set_option maxHeartbeats 4000000 in
set_option maxRecDepth 100000 in
theorem c_Bk_heldIn (l : Launch) (E : zE) (μ : zM) (a1 : Int32) (K : Int32 → zM → Prop) (h : f_Bk_heldIn μ a1 K) : Met l y_Bk_heldIn (Cond.code y_Bk_heldIn prog_2_method_15_code 2 (some .int) :: zT) { frames := 1, cells := 0, slots := 0, locals := 21 } (va_Pc [.ref (E.2.1 2), .int a1] (zR zwC E μ)) (va_Qi K (zR zwC E) (zA E)) 0 0 (zA E) := by
  refine z_head (by decide) (Nat.le_of_ble_eq_true rfl) ?_
  intro p e s m below meth c X hr hlk w ls hl
  have X : zX E p s m _ c prog_2_method_15_code "BeatHeap$Blocks" 2 := X
  have hx := X.1
  have hb := X.2.1
  have hl : lv_has ls 2 [(0, .ref (E.2.1 2)), (1, .int a1)] := hl
  unfold f_Bk_heldIn at h
  refine lv_aload_n hx hb d_Bk_heldIn_0 rfl (lv_at hl 0 rfl) ?_
  refine lv_iload_n hx hb d_Bk_heldIn_1 rfl (lv_at hl 1 rfl) ?_
  refine z_cVi (As := [.int a1]) (rest := []) (q0 := 2) (ci := 0) X w (c_Bk_isPage l E μ a1 _ h) rfl rfl rfl w_ml_Bk_74 ⟨w_im_Bk_isPage, w_se_Bk_isPage⟩ w_in_Bk w_co_Bk_isPage q_Bk_isPage.1 q_Bk_isPage.2 rfl ⟨Nat.le_of_ble_eq_true rfl, Nat.le_of_ble_eq_true rfl⟩ ⟨Nat.zero_le _, Nat.zero_le _⟩ hl.1 rfl (Nat.le_of_ble_eq_true rfl) d_Bk_heldIn_2 (fun r2 μ1 H locs h w => ?_)
  refine lv_if_eq (tgt := 17) hx hb d_Bk_heldIn_5 (by decide) (fun c3 => ?_) (fun c3 => ?_)
  · have h := h.1 c3
    refine lv_iconst (v := (-1)) hx hb d_Bk_heldIn_17 (by decide) ?_
    exact z_iret X hr hlk w h d_Bk_heldIn_18
  · have h := h.2 c3
    refine lv_aload_n hx hb d_Bk_heldIn_8 rfl (lv_at hl 0 rfl) ?_
    refine gt_2_6 X w w_fl_Bk_31 d_Bk_heldIn_9 ?_
    refine lv_iload_n hx hb d_Bk_heldIn_12 rfl (lv_at hl 1 rfl) ?_
    obtain ⟨hi4, h⟩ := h
    refine al_9 X w hi4 d_Bk_heldIn_13 ?_
    refine lv_goto (tgt := 18) hx hb d_Bk_heldIn_14 (by decide) ?_
    exact z_iret X hr hlk w h d_Bk_heldIn_18
theorem q_Bk_markedIn : (y_Bk_markedIn.cls ≠ "java/lang/invoke/MethodHandle" ∧ y_Bk_markedIn.cls ≠ "java/lang/invoke/VarHandle") ∧ (parseMethodDescriptor y_Bk_markedIn.desc).map (fun d => d.parameters.length) = some 1 := by decide +kernel
theorem d_Bk_markedIn_0 : decode prog_2_method_16_code 0 = .ok (.aload_n 0, 1) := by decide +kernel
theorem d_Bk_markedIn_1 : decode prog_2_method_16_code 1 = .ok (.iload_n 1, 1) := by decide +kernel
theorem d_Bk_markedIn_2 : decode prog_2_method_16_code 2 = .ok (.invokevirtual 74, 3) := by decide +kernel
theorem d_Bk_markedIn_5 : decode prog_2_method_16_code 5 = .ok (.ifCond .ne 5, 3) := by decide +kernel
theorem d_Bk_markedIn_8 : decode prog_2_method_16_code 8 = .ok (.iconst (-1), 1) := by decide +kernel
theorem d_Bk_markedIn_9 : decode prog_2_method_16_code 9 = .ok (.ireturn, 1) := by decide +kernel
theorem d_Bk_markedIn_10 : decode prog_2_method_16_code 10 = .ok (.iconst 0, 1) := by decide +kernel
theorem d_Bk_markedIn_11 : decode prog_2_method_16_code 11 = .ok (.istore_n 2, 1) := by decide +kernel
theorem d_Bk_markedIn_12 : decode prog_2_method_16_code 12 = .ok (.iload_n 1, 1) := by decide +kernel
theorem d_Bk_markedIn_13 : decode prog_2_method_16_code 13 = .ok (.bipush 16, 2) := by decide +kernel
theorem d_Bk_markedIn_15 : decode prog_2_method_16_code 15 = .ok (.imul, 1) := by decide +kernel
theorem d_Bk_markedIn_16 : decode prog_2_method_16_code 16 = .ok (.istore_n 3, 1) := by decide +kernel
theorem d_Bk_markedIn_17 : decode prog_2_method_16_code 17 = .ok (.iload_n 3, 1) := by decide +kernel
theorem d_Bk_markedIn_18 : decode prog_2_method_16_code 18 = .ok (.iload_n 1, 1) := by decide +kernel
theorem d_Bk_markedIn_19 : decode prog_2_method_16_code 19 = .ok (.iconst 1, 1) := by decide +kernel
theorem d_Bk_markedIn_20 : decode prog_2_method_16_code 20 = .ok (.iadd, 1) := by decide +kernel
theorem d_Bk_markedIn_21 : decode prog_2_method_16_code 21 = .ok (.bipush 16, 2) := by decide +kernel
theorem d_Bk_markedIn_23 : decode prog_2_method_16_code 23 = .ok (.imul, 1) := by decide +kernel
theorem d_Bk_markedIn_24 : decode prog_2_method_16_code 24 = .ok (.if_icmp .ge 18, 3) := by decide +kernel
theorem d_Bk_markedIn_27 : decode prog_2_method_16_code 27 = .ok (.iload_n 2, 1) := by decide +kernel
theorem d_Bk_markedIn_28 : decode prog_2_method_16_code 28 = .ok (.aload_n 0, 1) := by decide +kernel
theorem d_Bk_markedIn_29 : decode prog_2_method_16_code 29 = .ok (.getfield 19, 3) := by decide +kernel
theorem d_Bk_markedIn_32 : decode prog_2_method_16_code 32 = .ok (.iload_n 3, 1) := by decide +kernel
theorem d_Bk_markedIn_33 : decode prog_2_method_16_code 33 = .ok (.baload, 1) := by decide +kernel
theorem d_Bk_markedIn_34 : decode prog_2_method_16_code 34 = .ok (.iadd, 1) := by decide +kernel
theorem d_Bk_markedIn_35 : decode prog_2_method_16_code 35 = .ok (.istore_n 2, 1) := by decide +kernel
theorem d_Bk_markedIn_36 : decode prog_2_method_16_code 36 = .ok (.iinc 3 1, 3) := by decide +kernel
theorem d_Bk_markedIn_39 : decode prog_2_method_16_code 39 = .ok (.goto (-22), 3) := by decide +kernel
theorem d_Bk_markedIn_42 : decode prog_2_method_16_code 42 = .ok (.iload_n 2, 1) := by decide +kernel
theorem d_Bk_markedIn_43 : decode prog_2_method_16_code 43 = .ok (.ireturn, 1) := by decide +kernel
noncomputable def F_Bk_markedIn_17 (K : Int32 → zM → Prop) (n : Nat) : Int32 → Int32 → Int32 → zM → Prop := Nat.rec (motive := fun _ => Int32 → Int32 → Int32 → zM → Prop) (fun _ _ _ _ => False) (fun _ ih x1 x2 x3 μ => (((x1 + (1 : Int32)) * (16 : Int32)) ≤ x3 → (K x2 μ)) ∧ (¬ ((x1 + (1 : Int32)) * (16 : Int32)) ≤ x3 → (vp_in x3 1024 ∧ (∀ x7 : Int32, x7 = (x2 + (μ 5 x3.toNatClampNeg)) → (∀ x8 : Int32, x8 = x3 + 1 → (ih x1 x7 x8 μ)))))) n
def f_Bk_markedIn (μ : zM) (a1 : Int32) (K : Int32 → zM → Prop) : Prop := f_Bk_isPage μ a1 (fun r2 μ1 => ((¬ r2 = 0 → (∀ x4 : Int32, x4 = (a1 * (16 : Int32)) → (∃ n : Nat, F_Bk_markedIn_17 K n a1 (0 : Int32) x4 μ1))) ∧ (r2 = 0 → (K (-1 : Int32) μ1))))
set_option maxHeartbeats 4000000 in
set_option maxRecDepth 100000 in
theorem L_Bk_markedIn_17 {p : Program} {l : Launch} {e : Env} {s : State} {m : MethodId} {args : Array Value} {below : List Frame} {meth : Method} {c : Code} {E : zE} (X : zX E p s m args c prog_2_method_16_code "BeatHeap$Blocks" 4) (hr : meth.sig.returnType = (some .int)) (hlk : meth.locks = false) (K : Int32 → zM → Prop) : ∀ (n : Nat) (x1 x2 x3 : Int32) (μ : zM) (H : Heap) (locs : List Loc) (ls : Array Slot), F_Bk_markedIn_17 K n x1 x2 x3 μ → zW zwC E s μ H locs → lv_has ls 4 [(0, .ref (E.2.1 2)), (1, .int x1), (2, .int x2), (3, .int x3)] → W p l e { frames := 1, cells := 0, slots := 0, locals := 21 } s m args below meth c H locs 0 0 (MQ below (va_Qi K (zR zwC E) (zA E)) args s 0 0 (zA E)) (F0 m 17 ls []) := by
  have hx := X.1
  have hb := X.2.1
  intro n
  induction n with
  | zero => intro x1 x2 x3 μ H locs ls h; exact False.elim h
  | succ n ih =>
    intro x1 x2 x3 μ H locs ls h w hl
    refine lv_iload_n hx hb d_Bk_markedIn_17 rfl (lv_at hl 3 rfl) ?_
    refine lv_iload_n hx hb d_Bk_markedIn_18 rfl (lv_at hl 1 rfl) ?_
    refine lv_iconst (v := 1) hx hb d_Bk_markedIn_19 (by decide) ?_
    refine lv_iadd hx hb d_Bk_markedIn_20 ?_
    refine lv_bipush (v := 16) hx hb d_Bk_markedIn_21 (by decide) ?_
    refine lv_imul hx hb d_Bk_markedIn_23 ?_
    refine lv_icmp_ge (tgt := 42) hx hb d_Bk_markedIn_24 (by decide) (fun c5 => ?_) (fun c5 => ?_)
    · have h := h.1 c5
      refine lv_iload_n hx hb d_Bk_markedIn_42 rfl (lv_at hl 2 rfl) ?_
      exact z_iret X hr hlk w h d_Bk_markedIn_43
    · have h := h.2 c5
      refine lv_iload_n hx hb d_Bk_markedIn_27 rfl (lv_at hl 2 rfl) ?_
      refine lv_aload_n hx hb d_Bk_markedIn_28 rfl (lv_at hl 0 rfl) ?_
      refine gt_2_2 X w w_fl_Bk_19 d_Bk_markedIn_29 ?_
      refine lv_iload_n hx hb d_Bk_markedIn_32 rfl (lv_at hl 3 rfl) ?_
      obtain ⟨hi6, h⟩ := h
      refine al_5 X w hi6 d_Bk_markedIn_33 ?_
      refine lv_iadd hx hb d_Bk_markedIn_34 ?_
      refine lv_topi (fun x7 ex7 => ?_)
      have h := h x7 ex7
      refine lv_istore_n (lv' := [(2, .int x7), (0, .ref (E.2.1 2)), (1, .int x1), (3, .int x3)]) hx hb d_Bk_markedIn_35 rfl hl (by decide) rfl (fun ls hl => ?_)
      obtain ⟨x8, ex8⟩ : ∃ y : Int32, y = x3 + 1 := ⟨_, rfl⟩
      have h := h x8 ex8
      refine lv_iinc (v := x8) (lv' := [(3, .int x8), (2, .int x7), (0, .ref (E.2.1 2)), (1, .int x1)]) hx hb d_Bk_markedIn_36 hl (k := 3) rfl (by rw [ex8]; rfl) (by decide) rfl (fun ls hl => ?_)
      refine lv_goto (tgt := 17) hx hb d_Bk_markedIn_39 (by decide) ?_
      exact ih x1 x7 x8 μ _ _ _ h w (lv_sub hl [2, 3, 1, 0] rfl)

set_option maxHeartbeats 4000000 in
set_option maxRecDepth 100000 in
theorem c_Bk_markedIn (l : Launch) (E : zE) (μ : zM) (a1 : Int32) (K : Int32 → zM → Prop) (h : f_Bk_markedIn μ a1 K) : Met l y_Bk_markedIn (Cond.code y_Bk_markedIn prog_2_method_16_code 4 (some .int) :: zT) { frames := 1, cells := 0, slots := 0, locals := 21 } (va_Pc [.ref (E.2.1 2), .int a1] (zR zwC E μ)) (va_Qi K (zR zwC E) (zA E)) 0 0 (zA E) := by
  refine z_head (by decide) (Nat.le_of_ble_eq_true rfl) ?_
  intro p e s m below meth c X hr hlk w ls hl
  have X : zX E p s m _ c prog_2_method_16_code "BeatHeap$Blocks" 4 := X
  have hx := X.1
  have hb := X.2.1
  have hl : lv_has ls 4 [(0, .ref (E.2.1 2)), (1, .int a1)] := hl
  unfold f_Bk_markedIn at h
  refine lv_aload_n hx hb d_Bk_markedIn_0 rfl (lv_at hl 0 rfl) ?_
  refine lv_iload_n hx hb d_Bk_markedIn_1 rfl (lv_at hl 1 rfl) ?_
  refine z_cVi (As := [.int a1]) (rest := []) (q0 := 2) (ci := 0) X w (c_Bk_isPage l E μ a1 _ h) rfl rfl rfl w_ml_Bk_74 ⟨w_im_Bk_isPage, w_se_Bk_isPage⟩ w_in_Bk w_co_Bk_isPage q_Bk_isPage.1 q_Bk_isPage.2 rfl ⟨Nat.le_of_ble_eq_true rfl, Nat.le_of_ble_eq_true rfl⟩ ⟨Nat.zero_le _, Nat.zero_le _⟩ hl.1 rfl (Nat.le_of_ble_eq_true rfl) d_Bk_markedIn_2 (fun r2 μ1 H locs h w => ?_)
  refine lv_if_ne (tgt := 10) hx hb d_Bk_markedIn_5 (by decide) (fun c3 => ?_) (fun c3 => ?_)
  · have h := h.1 c3
    refine lv_iconst (v := 0) hx hb d_Bk_markedIn_10 (by decide) ?_
    refine lv_istore_n (lv' := [(2, .int (0 : Int32)), (0, .ref (E.2.1 2)), (1, .int a1)]) hx hb d_Bk_markedIn_11 rfl hl (by decide) rfl (fun ls hl => ?_)
    refine lv_iload_n hx hb d_Bk_markedIn_12 rfl (lv_at hl 2 rfl) ?_
    refine lv_bipush (v := 16) hx hb d_Bk_markedIn_13 (by decide) ?_
    refine lv_imul hx hb d_Bk_markedIn_15 ?_
    refine lv_topi (fun x4 ex4 => ?_)
    have h := h x4 ex4
    refine lv_istore_n (lv' := [(3, .int x4), (2, .int (0 : Int32)), (0, .ref (E.2.1 2)), (1, .int a1)]) hx hb d_Bk_markedIn_16 rfl hl (by decide) rfl (fun ls hl => ?_)
    obtain ⟨n, h⟩ := h
    exact L_Bk_markedIn_17 X hr hlk K n a1 (0 : Int32) x4 μ1 _ _ _ h w (lv_sub hl [2, 3, 1, 0] rfl)
  · have h := h.2 c3
    refine lv_iconst (v := (-1)) hx hb d_Bk_markedIn_8 (by decide) ?_
    exact z_iret X hr hlk w h d_Bk_markedIn_9
theorem q_Bh_page : (y_Bh_page.cls ≠ "java/lang/invoke/MethodHandle" ∧ y_Bh_page.cls ≠ "java/lang/invoke/VarHandle") ∧ (parseMethodDescriptor y_Bh_page.desc).map (fun d => d.parameters.length) = some 2 := by decide +kernel
theorem d_Bh_page_0 : decode prog_1_method_15_code 0 = .ok (.iload_n 2, 1) := by decide +kernel
theorem d_Bh_page_1 : decode prog_1_method_15_code 1 = .ok (.tableswitch 54 0 2 #[27, 36, 45], 27) := by decide +kernel
theorem d_Bh_page_28 : decode prog_1_method_15_code 28 = .ok (.aload_n 0, 1) := by decide +kernel
theorem d_Bh_page_29 : decode prog_1_method_15_code 29 = .ok (.getfield 20, 3) := by decide +kernel
theorem d_Bh_page_32 : decode prog_1_method_15_code 32 = .ok (.iload_n 1, 1) := by decide +kernel
theorem d_Bh_page_33 : decode prog_1_method_15_code 33 = .ok (.invokevirtual 119, 3) := by decide +kernel
theorem d_Bh_page_36 : decode prog_1_method_15_code 36 = .ok (.ireturn, 1) := by decide +kernel
theorem d_Bh_page_37 : decode prog_1_method_15_code 37 = .ok (.aload_n 0, 1) := by decide +kernel
theorem d_Bh_page_38 : decode prog_1_method_15_code 38 = .ok (.getfield 20, 3) := by decide +kernel
theorem d_Bh_page_41 : decode prog_1_method_15_code 41 = .ok (.iload_n 1, 1) := by decide +kernel
theorem d_Bh_page_42 : decode prog_1_method_15_code 42 = .ok (.invokevirtual 122, 3) := by decide +kernel
theorem d_Bh_page_45 : decode prog_1_method_15_code 45 = .ok (.ireturn, 1) := by decide +kernel
theorem d_Bh_page_46 : decode prog_1_method_15_code 46 = .ok (.aload_n 0, 1) := by decide +kernel
theorem d_Bh_page_47 : decode prog_1_method_15_code 47 = .ok (.getfield 20, 3) := by decide +kernel
theorem d_Bh_page_50 : decode prog_1_method_15_code 50 = .ok (.iload_n 1, 1) := by decide +kernel
theorem d_Bh_page_51 : decode prog_1_method_15_code 51 = .ok (.invokevirtual 125, 3) := by decide +kernel
theorem d_Bh_page_54 : decode prog_1_method_15_code 54 = .ok (.ireturn, 1) := by decide +kernel
theorem d_Bh_page_55 : decode prog_1_method_15_code 55 = .ok (.iconst (-1), 1) := by decide +kernel
theorem d_Bh_page_56 : decode prog_1_method_15_code 56 = .ok (.ireturn, 1) := by decide +kernel
def f_Bh_page (μ : zM) (a1 a2 : Int32) (K : Int32 → zM → Prop) : Prop := (a2.toInt = 0 → (f_Bk_classOf μ a1 (fun r3 μ2 => (K r3 μ2)))) ∧ (a2.toInt = 1 → (f_Bk_heldIn μ a1 (fun r6 μ5 => (K r6 μ5)))) ∧ (a2.toInt = 2 → (f_Bk_markedIn μ a1 (fun r9 μ8 => (K r9 μ8)))) ∧ (¬ a2.toInt = 0 → ¬ a2.toInt = 1 → ¬ a2.toInt = 2 → (K (-1 : Int32) μ))
set_option maxHeartbeats 4000000 in
set_option maxRecDepth 100000 in
theorem c_Bh_page (l : Launch) (E : zE) (μ : zM) (a1 a2 : Int32) (K : Int32 → zM → Prop) (h : f_Bh_page μ a1 a2 K) : Met l y_Bh_page (Cond.code y_Bh_page prog_1_method_15_code 3 (some .int) :: zT) { frames := 2, cells := 0, slots := 0, locals := 44 } (va_Pc [.ref (E.2.1 0), .int a1, .int a2] (zR zwC E μ)) (va_Qi K (zR zwC E) (zA E)) 0 0 (zA E) := by
  refine z_head (by decide) (Nat.le_of_ble_eq_true rfl) ?_
  intro p e s m below meth c X hr hlk w ls hl
  have X : zX E p s m _ c prog_1_method_15_code "BeatHeap" 3 := X
  have hx := X.1
  have hb := X.2.1
  have hl : lv_has ls 3 [(0, .ref (E.2.1 0)), (1, .int a1), (2, .int a2)] := hl
  unfold f_Bh_page at h
  refine lv_iload_n hx hb d_Bh_page_0 rfl (lv_at hl 2 rfl) ?_
  by_cases c1 : a2.toInt = 0
  · have h := h.1 c1
    refine lv_tableIn (tgt := 28) hx hb d_Bh_page_1 (by omega) (by omega) (off := 27) (by rw [c1]; rfl) (by decide) ?_
    refine lv_aload_n hx hb d_Bh_page_28 rfl (lv_at hl 0 rfl) ?_
    refine gt_0_1 X w w_fl_Bh_20 d_Bh_page_29 ?_
    refine lv_iload_n hx hb d_Bh_page_32 rfl (lv_at hl 1 rfl) ?_
    refine z_cVi (As := [.int a1]) (rest := []) (q0 := 2) (ci := 0) X w (c_Bk_classOf l E μ a1 _ h) rfl rfl rfl w_ml_Bh_119 ⟨w_im_Bk_classOf, w_se_Bk_classOf⟩ w_in_Bk w_co_Bk_classOf q_Bk_classOf.1 q_Bk_classOf.2 rfl ⟨Nat.le_of_ble_eq_true rfl, Nat.le_of_ble_eq_true rfl⟩ ⟨Nat.zero_le _, Nat.zero_le _⟩ hl.1 rfl (Nat.le_of_ble_eq_true rfl) d_Bh_page_33 (fun r3 μ2 H locs h w => ?_)
    exact z_iret X hr hlk w h d_Bh_page_36
  by_cases c4 : a2.toInt = 1
  · have h := h.2.1 c4
    refine lv_tableIn (tgt := 37) hx hb d_Bh_page_1 (by omega) (by omega) (off := 36) (by rw [c4]; rfl) (by decide) ?_
    refine lv_aload_n hx hb d_Bh_page_37 rfl (lv_at hl 0 rfl) ?_
    refine gt_0_1 X w w_fl_Bh_20 d_Bh_page_38 ?_
    refine lv_iload_n hx hb d_Bh_page_41 rfl (lv_at hl 1 rfl) ?_
    refine z_cVi (As := [.int a1]) (rest := []) (q0 := 2) (ci := 0) X w (c_Bk_heldIn l E μ a1 _ h) rfl rfl rfl w_ml_Bh_122 ⟨w_im_Bk_heldIn, w_se_Bk_heldIn⟩ w_in_Bk w_co_Bk_heldIn q_Bk_heldIn.1 q_Bk_heldIn.2 rfl ⟨Nat.le_of_ble_eq_true rfl, Nat.le_of_ble_eq_true rfl⟩ ⟨Nat.zero_le _, Nat.zero_le _⟩ hl.1 rfl (Nat.le_of_ble_eq_true rfl) d_Bh_page_42 (fun r6 μ5 H locs h w => ?_)
    exact z_iret X hr hlk w h d_Bh_page_45
  by_cases c7 : a2.toInt = 2
  · have h := h.2.2.1 c7
    refine lv_tableIn (tgt := 46) hx hb d_Bh_page_1 (by omega) (by omega) (off := 45) (by rw [c7]; rfl) (by decide) ?_
    refine lv_aload_n hx hb d_Bh_page_46 rfl (lv_at hl 0 rfl) ?_
    refine gt_0_1 X w w_fl_Bh_20 d_Bh_page_47 ?_
    refine lv_iload_n hx hb d_Bh_page_50 rfl (lv_at hl 1 rfl) ?_
    refine z_cVi (As := [.int a1]) (rest := []) (q0 := 2) (ci := 0) X w (c_Bk_markedIn l E μ a1 _ h) rfl rfl rfl w_ml_Bh_125 ⟨w_im_Bk_markedIn, w_se_Bk_markedIn⟩ w_in_Bk w_co_Bk_markedIn q_Bk_markedIn.1 q_Bk_markedIn.2 rfl ⟨Nat.le_of_ble_eq_true rfl, Nat.le_of_ble_eq_true rfl⟩ ⟨Nat.zero_le _, Nat.zero_le _⟩ hl.1 rfl (Nat.le_of_ble_eq_true rfl) d_Bh_page_51 (fun r9 μ8 H locs h w => ?_)
    exact z_iret X hr hlk w h d_Bh_page_54
  have h := h.2.2.2 c1 c4 c7
  refine lv_tableOut (tgt := 55) hx hb d_Bh_page_1 (by omega) (by decide) ?_
  refine lv_iconst (v := (-1)) hx hb d_Bh_page_55 (by decide) ?_
  exact z_iret X hr hlk w h d_Bh_page_56
theorem q_Co_countOf : (y_Co_countOf.cls ≠ "java/lang/invoke/MethodHandle" ∧ y_Co_countOf.cls ≠ "java/lang/invoke/VarHandle") ∧ (parseMethodDescriptor y_Co_countOf.desc).map (fun d => d.parameters.length) = some 1 := by decide +kernel
theorem d_Co_countOf_0 : decode prog_4_method_4_code 0 = .ok (.iload_n 1, 1) := by decide +kernel
theorem d_Co_countOf_1 : decode prog_4_method_4_code 1 = .ok (.tableswitch 107 3 12 #[55, 60, 65, 107, 107, 70, 107, 107, 78, 83], 55) := by decide +kernel
theorem d_Co_countOf_56 : decode prog_4_method_4_code 56 = .ok (.aload_n 0, 1) := by decide +kernel
theorem d_Co_countOf_57 : decode prog_4_method_4_code 57 = .ok (.getfield 55, 3) := by decide +kernel
theorem d_Co_countOf_60 : decode prog_4_method_4_code 60 = .ok (.ireturn, 1) := by decide +kernel
theorem d_Co_countOf_61 : decode prog_4_method_4_code 61 = .ok (.aload_n 0, 1) := by decide +kernel
theorem d_Co_countOf_62 : decode prog_4_method_4_code 62 = .ok (.getfield 46, 3) := by decide +kernel
theorem d_Co_countOf_65 : decode prog_4_method_4_code 65 = .ok (.ireturn, 1) := by decide +kernel
theorem d_Co_countOf_66 : decode prog_4_method_4_code 66 = .ok (.aload_n 0, 1) := by decide +kernel
theorem d_Co_countOf_67 : decode prog_4_method_4_code 67 = .ok (.getfield 58, 3) := by decide +kernel
theorem d_Co_countOf_70 : decode prog_4_method_4_code 70 = .ok (.ireturn, 1) := by decide +kernel
theorem d_Co_countOf_71 : decode prog_4_method_4_code 71 = .ok (.aload_n 0, 1) := by decide +kernel
theorem d_Co_countOf_72 : decode prog_4_method_4_code 72 = .ok (.getfield 28, 3) := by decide +kernel
theorem d_Co_countOf_75 : decode prog_4_method_4_code 75 = .ok (.getfield 73, 3) := by decide +kernel
theorem d_Co_countOf_78 : decode prog_4_method_4_code 78 = .ok (.ireturn, 1) := by decide +kernel
theorem d_Co_countOf_79 : decode prog_4_method_4_code 79 = .ok (.aload_n 0, 1) := by decide +kernel
theorem d_Co_countOf_80 : decode prog_4_method_4_code 80 = .ok (.getfield 64, 3) := by decide +kernel
theorem d_Co_countOf_83 : decode prog_4_method_4_code 83 = .ok (.ireturn, 1) := by decide +kernel
theorem d_Co_countOf_84 : decode prog_4_method_4_code 84 = .ok (.aload_n 0, 1) := by decide +kernel
theorem d_Co_countOf_85 : decode prog_4_method_4_code 85 = .ok (.getfield 55, 3) := by decide +kernel
theorem d_Co_countOf_88 : decode prog_4_method_4_code 88 = .ok (.iconst 3, 1) := by decide +kernel
theorem d_Co_countOf_89 : decode prog_4_method_4_code 89 = .ok (.if_icmp .ne 17, 3) := by decide +kernel
theorem d_Co_countOf_92 : decode prog_4_method_4_code 92 = .ok (.aload_n 0, 1) := by decide +kernel
theorem d_Co_countOf_93 : decode prog_4_method_4_code 93 = .ok (.getfield 12, 3) := by decide +kernel
theorem d_Co_countOf_96 : decode prog_4_method_4_code 96 = .ok (.aload_n 0, 1) := by decide +kernel
theorem d_Co_countOf_97 : decode prog_4_method_4_code 97 = .ok (.getfield 70, 3) := by decide +kernel
theorem d_Co_countOf_100 : decode prog_4_method_4_code 100 = .ok (.invokevirtual 76, 3) := by decide +kernel
theorem d_Co_countOf_103 : decode prog_4_method_4_code 103 = .ok (.goto 4, 3) := by decide +kernel
theorem d_Co_countOf_106 : decode prog_4_method_4_code 106 = .ok (.iconst (-1), 1) := by decide +kernel
theorem d_Co_countOf_107 : decode prog_4_method_4_code 107 = .ok (.ireturn, 1) := by decide +kernel
theorem d_Co_countOf_108 : decode prog_4_method_4_code 108 = .ok (.iconst (-1), 1) := by decide +kernel
theorem d_Co_countOf_109 : decode prog_4_method_4_code 109 = .ok (.ireturn, 1) := by decide +kernel
def f_Co_countOf (μ : zM) (a1 : Int32) (K : Int32 → zM → Prop) : Prop := (a1.toInt = 3 → (K (μ 1 7) μ)) ∧ (a1.toInt = 4 → (K (μ 1 13) μ)) ∧ (a1.toInt = 5 → (K (μ 1 8) μ)) ∧ (a1.toInt = 8 → (K (μ 12 1) μ)) ∧ (a1.toInt = 11 → (K (μ 1 10) μ)) ∧ (a1.toInt = 12 → ((¬ (μ 1 7) = (3 : Int32) → (K (-1 : Int32) μ)) ∧ ((μ 1 7) = (3 : Int32) → (f_Bk_blockFrom μ (μ 1 12) (fun r9 μ8 => (K r9 μ8)))))) ∧ (¬ a1.toInt = 3 → ¬ a1.toInt = 4 → ¬ a1.toInt = 5 → ¬ a1.toInt = 8 → ¬ a1.toInt = 11 → ¬ a1.toInt = 12 → (K (-1 : Int32) μ))
set_option maxHeartbeats 4000000 in
set_option maxRecDepth 100000 in
theorem c_Co_countOf (l : Launch) (E : zE) (μ : zM) (a1 : Int32) (K : Int32 → zM → Prop) (h : f_Co_countOf μ a1 K) : Met l y_Co_countOf (Cond.code y_Co_countOf prog_4_method_4_code 2 (some .int) :: zT) { frames := 2, cells := 0, slots := 0, locals := 43 } (va_Pc [.ref (E.2.1 1), .int a1] (zR zwC E μ)) (va_Qi K (zR zwC E) (zA E)) 0 0 (zA E) := by
  refine z_head (by decide) (Nat.le_of_ble_eq_true rfl) ?_
  intro p e s m below meth c X hr hlk w ls hl
  have X : zX E p s m _ c prog_4_method_4_code "BeatHeap$Collector" 2 := X
  have hx := X.1
  have hb := X.2.1
  have hl : lv_has ls 2 [(0, .ref (E.2.1 1)), (1, .int a1)] := hl
  unfold f_Co_countOf at h
  refine lv_iload_n hx hb d_Co_countOf_0 rfl (lv_at hl 1 rfl) ?_
  by_cases c1 : a1.toInt = 3
  · have h := h.1 c1
    refine lv_tableIn (tgt := 56) hx hb d_Co_countOf_1 (by omega) (by omega) (off := 55) (by rw [c1]; rfl) (by decide) ?_
    refine lv_aload_n hx hb d_Co_countOf_56 rfl (lv_at hl 0 rfl) ?_
    refine gt_1_7 X w w_fl_Co_55 d_Co_countOf_57 ?_
    exact z_iret X hr hlk w h d_Co_countOf_60
  by_cases c2 : a1.toInt = 4
  · have h := h.2.1 c2
    refine lv_tableIn (tgt := 61) hx hb d_Co_countOf_1 (by omega) (by omega) (off := 60) (by rw [c2]; rfl) (by decide) ?_
    refine lv_aload_n hx hb d_Co_countOf_61 rfl (lv_at hl 0 rfl) ?_
    refine gt_1_13 X w w_fl_Co_46 d_Co_countOf_62 ?_
    exact z_iret X hr hlk w h d_Co_countOf_65
  by_cases c3 : a1.toInt = 5
  · have h := h.2.2.1 c3
    refine lv_tableIn (tgt := 66) hx hb d_Co_countOf_1 (by omega) (by omega) (off := 65) (by rw [c3]; rfl) (by decide) ?_
    refine lv_aload_n hx hb d_Co_countOf_66 rfl (lv_at hl 0 rfl) ?_
    refine gt_1_8 X w w_fl_Co_58 d_Co_countOf_67 ?_
    exact z_iret X hr hlk w h d_Co_countOf_70
  by_cases c4 : a1.toInt = 8
  · have h := h.2.2.2.1 c4
    refine lv_tableIn (tgt := 71) hx hb d_Co_countOf_1 (by omega) (by omega) (off := 70) (by rw [c4]; rfl) (by decide) ?_
    refine lv_aload_n hx hb d_Co_countOf_71 rfl (lv_at hl 0 rfl) ?_
    refine gt_1_2 X w w_fl_Co_28 d_Co_countOf_72 ?_
    refine gn_12_1 X w w_nf_Co_73 d_Co_countOf_75 ?_
    exact z_iret X hr hlk w h d_Co_countOf_78
  by_cases c5 : a1.toInt = 11
  · have h := h.2.2.2.2.1 c5
    refine lv_tableIn (tgt := 79) hx hb d_Co_countOf_1 (by omega) (by omega) (off := 78) (by rw [c5]; rfl) (by decide) ?_
    refine lv_aload_n hx hb d_Co_countOf_79 rfl (lv_at hl 0 rfl) ?_
    refine gt_1_10 X w w_fl_Co_64 d_Co_countOf_80 ?_
    exact z_iret X hr hlk w h d_Co_countOf_83
  by_cases c6 : a1.toInt = 12
  · have h := h.2.2.2.2.2.1 c6
    refine lv_tableIn (tgt := 84) hx hb d_Co_countOf_1 (by omega) (by omega) (off := 83) (by rw [c6]; rfl) (by decide) ?_
    refine lv_aload_n hx hb d_Co_countOf_84 rfl (lv_at hl 0 rfl) ?_
    refine gt_1_7 X w w_fl_Co_55 d_Co_countOf_85 ?_
    refine lv_iconst (v := 3) hx hb d_Co_countOf_88 (by decide) ?_
    refine lv_icmp_ne (tgt := 106) hx hb d_Co_countOf_89 (by decide) (fun c7 => ?_) (fun c7 => ?_)
    · have h := h.1 c7
      refine lv_iconst (v := (-1)) hx hb d_Co_countOf_106 (by decide) ?_
      exact z_iret X hr hlk w h d_Co_countOf_107
    · have h := h.2 c7
      refine lv_aload_n hx hb d_Co_countOf_92 rfl (lv_at hl 0 rfl) ?_
      refine gt_1_0 X w w_fl_Co_12 d_Co_countOf_93 ?_
      refine lv_aload_n hx hb d_Co_countOf_96 rfl (lv_at hl 0 rfl) ?_
      refine gt_1_12 X w w_fl_Co_70 d_Co_countOf_97 ?_
      refine z_cVi (As := [.int (μ 1 12)]) (rest := []) (q0 := 2) (ci := 0) X w (c_Bk_blockFrom l E μ (μ 1 12) _ h) rfl rfl rfl w_ml_Co_76 ⟨w_im_Bk_blockFrom, w_se_Bk_blockFrom⟩ w_in_Bk w_co_Bk_blockFrom q_Bk_blockFrom.1 q_Bk_blockFrom.2 rfl ⟨Nat.le_of_ble_eq_true rfl, Nat.le_of_ble_eq_true rfl⟩ ⟨Nat.zero_le _, Nat.zero_le _⟩ hl.1 rfl (Nat.le_of_ble_eq_true rfl) d_Co_countOf_100 (fun r9 μ8 H locs h w => ?_)
      refine lv_goto (tgt := 107) hx hb d_Co_countOf_103 (by decide) ?_
      exact z_iret X hr hlk w h d_Co_countOf_107
  by_cases c10 : a1.toInt = 6
  · have h := h.2.2.2.2.2.2 c1 c2 c3 c4 c5 c6
    refine lv_tableIn (tgt := 108) hx hb d_Co_countOf_1 (by omega) (by omega) (off := 107) (by rw [c10]; rfl) (by decide) ?_
    refine lv_iconst (v := (-1)) hx hb d_Co_countOf_108 (by decide) ?_
    exact z_iret X hr hlk w h d_Co_countOf_109
  by_cases c11 : a1.toInt = 7
  · have h := h.2.2.2.2.2.2 c1 c2 c3 c4 c5 c6
    refine lv_tableIn (tgt := 108) hx hb d_Co_countOf_1 (by omega) (by omega) (off := 107) (by rw [c11]; rfl) (by decide) ?_
    refine lv_iconst (v := (-1)) hx hb d_Co_countOf_108 (by decide) ?_
    exact z_iret X hr hlk w h d_Co_countOf_109
  by_cases c12 : a1.toInt = 9
  · have h := h.2.2.2.2.2.2 c1 c2 c3 c4 c5 c6
    refine lv_tableIn (tgt := 108) hx hb d_Co_countOf_1 (by omega) (by omega) (off := 107) (by rw [c12]; rfl) (by decide) ?_
    refine lv_iconst (v := (-1)) hx hb d_Co_countOf_108 (by decide) ?_
    exact z_iret X hr hlk w h d_Co_countOf_109
  by_cases c13 : a1.toInt = 10
  · have h := h.2.2.2.2.2.2 c1 c2 c3 c4 c5 c6
    refine lv_tableIn (tgt := 108) hx hb d_Co_countOf_1 (by omega) (by omega) (off := 107) (by rw [c13]; rfl) (by decide) ?_
    refine lv_iconst (v := (-1)) hx hb d_Co_countOf_108 (by decide) ?_
    exact z_iret X hr hlk w h d_Co_countOf_109
  have h := h.2.2.2.2.2.2 c1 c2 c3 c4 c5 c6
  refine lv_tableOut (tgt := 108) hx hb d_Co_countOf_1 (by omega) (by decide) ?_
  refine lv_iconst (v := (-1)) hx hb d_Co_countOf_108 (by decide) ?_
  exact z_iret X hr hlk w h d_Co_countOf_109
theorem q_Bh_count : (y_Bh_count.cls ≠ "java/lang/invoke/MethodHandle" ∧ y_Bh_count.cls ≠ "java/lang/invoke/VarHandle") ∧ (parseMethodDescriptor y_Bh_count.desc).map (fun d => d.parameters.length) = some 1 := by decide +kernel
theorem d_Bh_count_0 : decode prog_1_method_16_code 0 = .ok (.iload_n 1, 1) := by decide +kernel
theorem d_Bh_count_1 : decode prog_1_method_16_code 1 = .ok (.tableswitch 120 0 10 #[59, 75, 83, 120, 120, 120, 91, 99, 120, 107, 115], 59) := by decide +kernel
theorem d_Bh_count_60 : decode prog_1_method_16_code 60 = .ok (.aload_n 0, 1) := by decide +kernel
theorem d_Bh_count_61 : decode prog_1_method_16_code 61 = .ok (.getfield 25, 3) := by decide +kernel
theorem d_Bh_count_64 : decode prog_1_method_16_code 64 = .ok (.getfield 128, 3) := by decide +kernel
theorem d_Bh_count_67 : decode prog_1_method_16_code 67 = .ok (.aload_n 0, 1) := by decide +kernel
theorem d_Bh_count_68 : decode prog_1_method_16_code 68 = .ok (.getfield 25, 3) := by decide +kernel
theorem d_Bh_count_71 : decode prog_1_method_16_code 71 = .ok (.getfield 134, 3) := by decide +kernel
theorem d_Bh_count_74 : decode prog_1_method_16_code 74 = .ok (.iadd, 1) := by decide +kernel
theorem d_Bh_count_75 : decode prog_1_method_16_code 75 = .ok (.ireturn, 1) := by decide +kernel
theorem d_Bh_count_76 : decode prog_1_method_16_code 76 = .ok (.aload_n 0, 1) := by decide +kernel
theorem d_Bh_count_77 : decode prog_1_method_16_code 77 = .ok (.getfield 25, 3) := by decide +kernel
theorem d_Bh_count_80 : decode prog_1_method_16_code 80 = .ok (.getfield 128, 3) := by decide +kernel
theorem d_Bh_count_83 : decode prog_1_method_16_code 83 = .ok (.ireturn, 1) := by decide +kernel
theorem d_Bh_count_84 : decode prog_1_method_16_code 84 = .ok (.aload_n 0, 1) := by decide +kernel
theorem d_Bh_count_85 : decode prog_1_method_16_code 85 = .ok (.getfield 25, 3) := by decide +kernel
theorem d_Bh_count_88 : decode prog_1_method_16_code 88 = .ok (.getfield 134, 3) := by decide +kernel
theorem d_Bh_count_91 : decode prog_1_method_16_code 91 = .ok (.ireturn, 1) := by decide +kernel
theorem d_Bh_count_92 : decode prog_1_method_16_code 92 = .ok (.aload_n 0, 1) := by decide +kernel
theorem d_Bh_count_93 : decode prog_1_method_16_code 93 = .ok (.getfield 20, 3) := by decide +kernel
theorem d_Bh_count_96 : decode prog_1_method_16_code 96 = .ok (.getfield 137, 3) := by decide +kernel
theorem d_Bh_count_99 : decode prog_1_method_16_code 99 = .ok (.ireturn, 1) := by decide +kernel
theorem d_Bh_count_100 : decode prog_1_method_16_code 100 = .ok (.aload_n 0, 1) := by decide +kernel
theorem d_Bh_count_101 : decode prog_1_method_16_code 101 = .ok (.getfield 20, 3) := by decide +kernel
theorem d_Bh_count_104 : decode prog_1_method_16_code 104 = .ok (.getfield 140, 3) := by decide +kernel
theorem d_Bh_count_107 : decode prog_1_method_16_code 107 = .ok (.ireturn, 1) := by decide +kernel
theorem d_Bh_count_108 : decode prog_1_method_16_code 108 = .ok (.aload_n 0, 1) := by decide +kernel
theorem d_Bh_count_109 : decode prog_1_method_16_code 109 = .ok (.getfield 20, 3) := by decide +kernel
theorem d_Bh_count_112 : decode prog_1_method_16_code 112 = .ok (.getfield 143, 3) := by decide +kernel
theorem d_Bh_count_115 : decode prog_1_method_16_code 115 = .ok (.ireturn, 1) := by decide +kernel
theorem d_Bh_count_116 : decode prog_1_method_16_code 116 = .ok (.aload_n 0, 1) := by decide +kernel
theorem d_Bh_count_117 : decode prog_1_method_16_code 117 = .ok (.getfield 146, 3) := by decide +kernel
theorem d_Bh_count_120 : decode prog_1_method_16_code 120 = .ok (.ireturn, 1) := by decide +kernel
theorem d_Bh_count_121 : decode prog_1_method_16_code 121 = .ok (.aload_n 0, 1) := by decide +kernel
theorem d_Bh_count_122 : decode prog_1_method_16_code 122 = .ok (.getfield 12, 3) := by decide +kernel
theorem d_Bh_count_125 : decode prog_1_method_16_code 125 = .ok (.iload_n 1, 1) := by decide +kernel
theorem d_Bh_count_126 : decode prog_1_method_16_code 126 = .ok (.invokevirtual 149, 3) := by decide +kernel
theorem d_Bh_count_129 : decode prog_1_method_16_code 129 = .ok (.ireturn, 1) := by decide +kernel
def f_Bh_count (μ : zM) (a1 : Int32) (K : Int32 → zM → Prop) : Prop := (a1.toInt = 0 → (K ((μ 10 3) + (μ 10 4)) μ)) ∧ (a1.toInt = 1 → (K (μ 10 3) μ)) ∧ (a1.toInt = 2 → (K (μ 10 4) μ)) ∧ (a1.toInt = 6 → (K (μ 2 8) μ)) ∧ (a1.toInt = 7 → (K (μ 2 9) μ)) ∧ (a1.toInt = 9 → (K (μ 2 10) μ)) ∧ (a1.toInt = 10 → (K (μ 0 5) μ)) ∧ (¬ a1.toInt = 0 → ¬ a1.toInt = 1 → ¬ a1.toInt = 2 → ¬ a1.toInt = 6 → ¬ a1.toInt = 7 → ¬ a1.toInt = 9 → ¬ a1.toInt = 10 → (f_Co_countOf μ a1 (fun r9 μ8 => (K r9 μ8))))
set_option maxHeartbeats 4000000 in
set_option maxRecDepth 100000 in
theorem c_Bh_count (l : Launch) (E : zE) (μ : zM) (a1 : Int32) (K : Int32 → zM → Prop) (h : f_Bh_count μ a1 K) : Met l y_Bh_count (Cond.code y_Bh_count prog_1_method_16_code 2 (some .int) :: zT) { frames := 3, cells := 0, slots := 0, locals := 64 } (va_Pc [.ref (E.2.1 0), .int a1] (zR zwC E μ)) (va_Qi K (zR zwC E) (zA E)) 0 0 (zA E) := by
  refine z_head (by decide) (Nat.le_of_ble_eq_true rfl) ?_
  intro p e s m below meth c X hr hlk w ls hl
  have X : zX E p s m _ c prog_1_method_16_code "BeatHeap" 2 := X
  have hx := X.1
  have hb := X.2.1
  have hl : lv_has ls 2 [(0, .ref (E.2.1 0)), (1, .int a1)] := hl
  unfold f_Bh_count at h
  refine lv_iload_n hx hb d_Bh_count_0 rfl (lv_at hl 1 rfl) ?_
  by_cases c1 : a1.toInt = 0
  · have h := h.1 c1
    refine lv_tableIn (tgt := 60) hx hb d_Bh_count_1 (by omega) (by omega) (off := 59) (by rw [c1]; rfl) (by decide) ?_
    refine lv_aload_n hx hb d_Bh_count_60 rfl (lv_at hl 0 rfl) ?_
    refine gt_0_2 X w w_fl_Bh_25 d_Bh_count_61 ?_
    refine gn_10_3 X w w_nf_Bh_128 d_Bh_count_64 ?_
    refine lv_aload_n hx hb d_Bh_count_67 rfl (lv_at hl 0 rfl) ?_
    refine gt_0_2 X w w_fl_Bh_25 d_Bh_count_68 ?_
    refine gn_10_4 X w w_nf_Bh_134 d_Bh_count_71 ?_
    refine lv_iadd hx hb d_Bh_count_74 ?_
    exact z_iret X hr hlk w h d_Bh_count_75
  by_cases c2 : a1.toInt = 1
  · have h := h.2.1 c2
    refine lv_tableIn (tgt := 76) hx hb d_Bh_count_1 (by omega) (by omega) (off := 75) (by rw [c2]; rfl) (by decide) ?_
    refine lv_aload_n hx hb d_Bh_count_76 rfl (lv_at hl 0 rfl) ?_
    refine gt_0_2 X w w_fl_Bh_25 d_Bh_count_77 ?_
    refine gn_10_3 X w w_nf_Bh_128 d_Bh_count_80 ?_
    exact z_iret X hr hlk w h d_Bh_count_83
  by_cases c3 : a1.toInt = 2
  · have h := h.2.2.1 c3
    refine lv_tableIn (tgt := 84) hx hb d_Bh_count_1 (by omega) (by omega) (off := 83) (by rw [c3]; rfl) (by decide) ?_
    refine lv_aload_n hx hb d_Bh_count_84 rfl (lv_at hl 0 rfl) ?_
    refine gt_0_2 X w w_fl_Bh_25 d_Bh_count_85 ?_
    refine gn_10_4 X w w_nf_Bh_134 d_Bh_count_88 ?_
    exact z_iret X hr hlk w h d_Bh_count_91
  by_cases c4 : a1.toInt = 6
  · have h := h.2.2.2.1 c4
    refine lv_tableIn (tgt := 92) hx hb d_Bh_count_1 (by omega) (by omega) (off := 91) (by rw [c4]; rfl) (by decide) ?_
    refine lv_aload_n hx hb d_Bh_count_92 rfl (lv_at hl 0 rfl) ?_
    refine gt_0_1 X w w_fl_Bh_20 d_Bh_count_93 ?_
    refine gn_2_8 X w w_nf_Bh_137 d_Bh_count_96 ?_
    exact z_iret X hr hlk w h d_Bh_count_99
  by_cases c5 : a1.toInt = 7
  · have h := h.2.2.2.2.1 c5
    refine lv_tableIn (tgt := 100) hx hb d_Bh_count_1 (by omega) (by omega) (off := 99) (by rw [c5]; rfl) (by decide) ?_
    refine lv_aload_n hx hb d_Bh_count_100 rfl (lv_at hl 0 rfl) ?_
    refine gt_0_1 X w w_fl_Bh_20 d_Bh_count_101 ?_
    refine gn_2_9 X w w_nf_Bh_140 d_Bh_count_104 ?_
    exact z_iret X hr hlk w h d_Bh_count_107
  by_cases c6 : a1.toInt = 9
  · have h := h.2.2.2.2.2.1 c6
    refine lv_tableIn (tgt := 108) hx hb d_Bh_count_1 (by omega) (by omega) (off := 107) (by rw [c6]; rfl) (by decide) ?_
    refine lv_aload_n hx hb d_Bh_count_108 rfl (lv_at hl 0 rfl) ?_
    refine gt_0_1 X w w_fl_Bh_20 d_Bh_count_109 ?_
    refine gn_2_10 X w w_nf_Bh_143 d_Bh_count_112 ?_
    exact z_iret X hr hlk w h d_Bh_count_115
  by_cases c7 : a1.toInt = 10
  · have h := h.2.2.2.2.2.2.1 c7
    refine lv_tableIn (tgt := 116) hx hb d_Bh_count_1 (by omega) (by omega) (off := 115) (by rw [c7]; rfl) (by decide) ?_
    refine lv_aload_n hx hb d_Bh_count_116 rfl (lv_at hl 0 rfl) ?_
    refine gt_0_5 X w w_fl_Bh_146 d_Bh_count_117 ?_
    exact z_iret X hr hlk w h d_Bh_count_120
  by_cases c10 : a1.toInt = 3
  · have h := h.2.2.2.2.2.2.2 c1 c2 c3 c4 c5 c6 c7
    refine lv_tableIn (tgt := 121) hx hb d_Bh_count_1 (by omega) (by omega) (off := 120) (by rw [c10]; rfl) (by decide) ?_
    refine lv_aload_n hx hb d_Bh_count_121 rfl (lv_at hl 0 rfl) ?_
    refine gt_0_0 X w w_fl_Bh_12 d_Bh_count_122 ?_
    refine lv_iload_n hx hb d_Bh_count_125 rfl (lv_at hl 1 rfl) ?_
    refine z_cVi (As := [.int a1]) (rest := []) (q0 := 1) (ci := 2) X w (c_Co_countOf l E μ a1 _ h) rfl rfl rfl w_ml_Bh_149 ⟨w_im_Co_countOf, w_se_Co_countOf⟩ w_in_Co w_co_Co_countOf q_Co_countOf.1 q_Co_countOf.2 rfl ⟨Nat.le_of_ble_eq_true rfl, Nat.le_of_ble_eq_true rfl⟩ ⟨Nat.zero_le _, Nat.zero_le _⟩ hl.1 rfl (Nat.le_of_ble_eq_true rfl) d_Bh_count_126 (fun r9 μ8 H locs h w => ?_)
    exact z_iret X hr hlk w h d_Bh_count_129
  by_cases c11 : a1.toInt = 4
  · have h := h.2.2.2.2.2.2.2 c1 c2 c3 c4 c5 c6 c7
    refine lv_tableIn (tgt := 121) hx hb d_Bh_count_1 (by omega) (by omega) (off := 120) (by rw [c11]; rfl) (by decide) ?_
    refine lv_aload_n hx hb d_Bh_count_121 rfl (lv_at hl 0 rfl) ?_
    refine gt_0_0 X w w_fl_Bh_12 d_Bh_count_122 ?_
    refine lv_iload_n hx hb d_Bh_count_125 rfl (lv_at hl 1 rfl) ?_
    refine z_cVi (As := [.int a1]) (rest := []) (q0 := 1) (ci := 2) X w (c_Co_countOf l E μ a1 _ h) rfl rfl rfl w_ml_Bh_149 ⟨w_im_Co_countOf, w_se_Co_countOf⟩ w_in_Co w_co_Co_countOf q_Co_countOf.1 q_Co_countOf.2 rfl ⟨Nat.le_of_ble_eq_true rfl, Nat.le_of_ble_eq_true rfl⟩ ⟨Nat.zero_le _, Nat.zero_le _⟩ hl.1 rfl (Nat.le_of_ble_eq_true rfl) d_Bh_count_126 (fun r9 μ8 H locs h w => ?_)
    exact z_iret X hr hlk w h d_Bh_count_129
  by_cases c12 : a1.toInt = 5
  · have h := h.2.2.2.2.2.2.2 c1 c2 c3 c4 c5 c6 c7
    refine lv_tableIn (tgt := 121) hx hb d_Bh_count_1 (by omega) (by omega) (off := 120) (by rw [c12]; rfl) (by decide) ?_
    refine lv_aload_n hx hb d_Bh_count_121 rfl (lv_at hl 0 rfl) ?_
    refine gt_0_0 X w w_fl_Bh_12 d_Bh_count_122 ?_
    refine lv_iload_n hx hb d_Bh_count_125 rfl (lv_at hl 1 rfl) ?_
    refine z_cVi (As := [.int a1]) (rest := []) (q0 := 1) (ci := 2) X w (c_Co_countOf l E μ a1 _ h) rfl rfl rfl w_ml_Bh_149 ⟨w_im_Co_countOf, w_se_Co_countOf⟩ w_in_Co w_co_Co_countOf q_Co_countOf.1 q_Co_countOf.2 rfl ⟨Nat.le_of_ble_eq_true rfl, Nat.le_of_ble_eq_true rfl⟩ ⟨Nat.zero_le _, Nat.zero_le _⟩ hl.1 rfl (Nat.le_of_ble_eq_true rfl) d_Bh_count_126 (fun r9 μ8 H locs h w => ?_)
    exact z_iret X hr hlk w h d_Bh_count_129
  by_cases c13 : a1.toInt = 8
  · have h := h.2.2.2.2.2.2.2 c1 c2 c3 c4 c5 c6 c7
    refine lv_tableIn (tgt := 121) hx hb d_Bh_count_1 (by omega) (by omega) (off := 120) (by rw [c13]; rfl) (by decide) ?_
    refine lv_aload_n hx hb d_Bh_count_121 rfl (lv_at hl 0 rfl) ?_
    refine gt_0_0 X w w_fl_Bh_12 d_Bh_count_122 ?_
    refine lv_iload_n hx hb d_Bh_count_125 rfl (lv_at hl 1 rfl) ?_
    refine z_cVi (As := [.int a1]) (rest := []) (q0 := 1) (ci := 2) X w (c_Co_countOf l E μ a1 _ h) rfl rfl rfl w_ml_Bh_149 ⟨w_im_Co_countOf, w_se_Co_countOf⟩ w_in_Co w_co_Co_countOf q_Co_countOf.1 q_Co_countOf.2 rfl ⟨Nat.le_of_ble_eq_true rfl, Nat.le_of_ble_eq_true rfl⟩ ⟨Nat.zero_le _, Nat.zero_le _⟩ hl.1 rfl (Nat.le_of_ble_eq_true rfl) d_Bh_count_126 (fun r9 μ8 H locs h w => ?_)
    exact z_iret X hr hlk w h d_Bh_count_129
  have h := h.2.2.2.2.2.2.2 c1 c2 c3 c4 c5 c6 c7
  refine lv_tableOut (tgt := 121) hx hb d_Bh_count_1 (by omega) (by decide) ?_
  refine lv_aload_n hx hb d_Bh_count_121 rfl (lv_at hl 0 rfl) ?_
  refine gt_0_0 X w w_fl_Bh_12 d_Bh_count_122 ?_
  refine lv_iload_n hx hb d_Bh_count_125 rfl (lv_at hl 1 rfl) ?_
  refine z_cVi (As := [.int a1]) (rest := []) (q0 := 1) (ci := 2) X w (c_Co_countOf l E μ a1 _ h) rfl rfl rfl w_ml_Bh_149 ⟨w_im_Co_countOf, w_se_Co_countOf⟩ w_in_Co w_co_Co_countOf q_Co_countOf.1 q_Co_countOf.2 rfl ⟨Nat.le_of_ble_eq_true rfl, Nat.le_of_ble_eq_true rfl⟩ ⟨Nat.zero_le _, Nat.zero_le _⟩ hl.1 rfl (Nat.le_of_ble_eq_true rfl) d_Bh_count_126 (fun r9 μ8 H locs h w => ?_)
  exact z_iret X hr hlk w h d_Bh_count_129
theorem q_Ma_floorMod : (y_Ma_floorMod.cls ≠ "java/lang/invoke/MethodHandle" ∧ y_Ma_floorMod.cls ≠ "java/lang/invoke/VarHandle") ∧ (parseMethodDescriptor y_Ma_floorMod.desc).map (fun d => d.parameters.length) = some 2 := by decide +kernel
theorem d_Ma_floorMod_0 : decode prog_9_method_50_code 0 = .ok (.iload_n 0, 1) := by decide +kernel
theorem d_Ma_floorMod_1 : decode prog_9_method_50_code 1 = .ok (.iload_n 1, 1) := by decide +kernel
theorem d_Ma_floorMod_2 : decode prog_9_method_50_code 2 = .ok (.irem, 1) := by decide +kernel
theorem d_Ma_floorMod_3 : decode prog_9_method_50_code 3 = .ok (.istore_n 2, 1) := by decide +kernel
theorem d_Ma_floorMod_4 : decode prog_9_method_50_code 4 = .ok (.iload_n 0, 1) := by decide +kernel
theorem d_Ma_floorMod_5 : decode prog_9_method_50_code 5 = .ok (.iload_n 1, 1) := by decide +kernel
theorem d_Ma_floorMod_6 : decode prog_9_method_50_code 6 = .ok (.ixor, 1) := by decide +kernel
theorem d_Ma_floorMod_7 : decode prog_9_method_50_code 7 = .ok (.ifCond .ge 11, 3) := by decide +kernel
theorem d_Ma_floorMod_10 : decode prog_9_method_50_code 10 = .ok (.iload_n 2, 1) := by decide +kernel
theorem d_Ma_floorMod_11 : decode prog_9_method_50_code 11 = .ok (.ifCond .eq 7, 3) := by decide +kernel
theorem d_Ma_floorMod_14 : decode prog_9_method_50_code 14 = .ok (.iload_n 2, 1) := by decide +kernel
theorem d_Ma_floorMod_15 : decode prog_9_method_50_code 15 = .ok (.iload_n 1, 1) := by decide +kernel
theorem d_Ma_floorMod_16 : decode prog_9_method_50_code 16 = .ok (.iadd, 1) := by decide +kernel
theorem d_Ma_floorMod_17 : decode prog_9_method_50_code 17 = .ok (.ireturn, 1) := by decide +kernel
theorem d_Ma_floorMod_18 : decode prog_9_method_50_code 18 = .ok (.iload_n 2, 1) := by decide +kernel
theorem d_Ma_floorMod_19 : decode prog_9_method_50_code 19 = .ok (.ireturn, 1) := by decide +kernel
def f_Ma_floorMod (μ : zM) (a0 a1 : Int32) (K : Int32 → zM → Prop) : Prop := ¬ a1 = 0 ∧ (∀ x2 : Int32, x2 = (a0 - a0 / a1 * a1) → ((0 ≤ (a0 ^^^ a1) → (K x2 μ)) ∧ (¬ 0 ≤ (a0 ^^^ a1) → ((x2 = 0 → (K x2 μ)) ∧ (¬ x2 = 0 → (K (x2 + a1) μ))))))
set_option maxHeartbeats 4000000 in
set_option maxRecDepth 100000 in
theorem c_Ma_floorMod (l : Launch) (E : zE) (μ : zM) (a0 a1 : Int32) (K : Int32 → zM → Prop) (h : f_Ma_floorMod μ a0 a1 K) : Met l y_Ma_floorMod (Cond.code y_Ma_floorMod prog_9_method_50_code 3 (some .int) :: zT) { frames := 0, cells := 0, slots := 0, locals := 0 } (va_Pc [.int a0, .int a1] (zR zwC E μ)) (va_Qi K (zR zwC E) (zA E)) 0 0 (zA E) := by
  refine z_headF (by decide +kernel) (Nat.le_of_ble_eq_true rfl) ?_
  intro p e s m below meth c X hr hlk w ls hl
  have X : zX E p s m _ c prog_9_method_50_code "java/lang/Math" 3 := X
  have hx := X.1
  have hb := X.2.1
  have hl : lv_has ls 3 [(0, .int a0), (1, .int a1)] := hl
  unfold f_Ma_floorMod at h
  refine lv_iload_n hx hb d_Ma_floorMod_0 rfl (lv_at hl 0 rfl) ?_
  refine lv_iload_n hx hb d_Ma_floorMod_1 rfl (lv_at hl 1 rfl) ?_
  obtain ⟨hn1, h⟩ := h
  refine lv_irem hx hb d_Ma_floorMod_2 hn1 ?_
  refine lv_topi (fun x2 ex2 => ?_)
  have h := h x2 ex2
  refine lv_istore_n (lv' := [(2, .int x2), (0, .int a0), (1, .int a1)]) hx hb d_Ma_floorMod_3 rfl hl (by decide) rfl (fun ls hl => ?_)
  refine lv_iload_n hx hb d_Ma_floorMod_4 rfl (lv_at hl 1 rfl) ?_
  refine lv_iload_n hx hb d_Ma_floorMod_5 rfl (lv_at hl 2 rfl) ?_
  refine lv_ixor hx hb d_Ma_floorMod_6 ?_
  refine lv_if_ge (tgt := 18) hx hb d_Ma_floorMod_7 (by decide) (fun c3 => ?_) (fun c3 => ?_)
  · have h := h.1 c3
    refine lv_iload_n hx hb d_Ma_floorMod_18 rfl (lv_at hl 0 rfl) ?_
    exact z_iret X hr hlk w h d_Ma_floorMod_19
  · have h := h.2 c3
    refine lv_iload_n hx hb d_Ma_floorMod_10 rfl (lv_at hl 0 rfl) ?_
    refine lv_if_eq (tgt := 18) hx hb d_Ma_floorMod_11 (by decide) (fun c4 => ?_) (fun c4 => ?_)
    · have h := h.1 c4
      refine lv_iload_n hx hb d_Ma_floorMod_18 rfl (lv_at hl 0 rfl) ?_
      exact z_iret X hr hlk w h d_Ma_floorMod_19
    · have h := h.2 c4
      refine lv_iload_n hx hb d_Ma_floorMod_14 rfl (lv_at hl 0 rfl) ?_
      refine lv_iload_n hx hb d_Ma_floorMod_15 rfl (lv_at hl 2 rfl) ?_
      refine lv_iadd hx hb d_Ma_floorMod_16 ?_
      exact z_iret X hr hlk w h d_Ma_floorMod_17
