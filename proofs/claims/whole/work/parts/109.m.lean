theorem q_Wa_goFrom : (y_Wa_goFrom.cls ≠ "java/lang/invoke/MethodHandle" ∧ y_Wa_goFrom.cls ≠ "java/lang/invoke/VarHandle") ∧ (parseMethodDescriptor y_Wa_goFrom.desc).map (fun d => d.parameters.length) = some 2 := by decide +kernel
theorem d_Wa_goFrom_0 : decode prog_6_method_2_code 0 = .ok (.aload_n 0, 1) := by decide +kernel
theorem d_Wa_goFrom_1 : decode prog_6_method_2_code 1 = .ok (.getfield 9, 3) := by decide +kernel
theorem d_Wa_goFrom_4 : decode prog_6_method_2_code 4 = .ok (.iconst 0, 1) := by decide +kernel
theorem d_Wa_goFrom_5 : decode prog_6_method_2_code 5 = .ok (.invokestatic 22, 3) := by decide +kernel
theorem d_Wa_goFrom_8 : decode prog_6_method_2_code 8 = .ok (.aload_n 0, 1) := by decide +kernel
theorem d_Wa_goFrom_9 : decode prog_6_method_2_code 9 = .ok (.getfield 18, 3) := by decide +kernel
theorem d_Wa_goFrom_12 : decode prog_6_method_2_code 12 = .ok (.invokevirtual 28, 3) := by decide +kernel
theorem d_Wa_goFrom_15 : decode prog_6_method_2_code 15 = .ok (.aload_n 0, 1) := by decide +kernel
theorem d_Wa_goFrom_16 : decode prog_6_method_2_code 16 = .ok (.iconst 0, 1) := by decide +kernel
theorem d_Wa_goFrom_17 : decode prog_6_method_2_code 17 = .ok (.putfield 31, 3) := by decide +kernel
theorem d_Wa_goFrom_20 : decode prog_6_method_2_code 20 = .ok (.aload_n 0, 1) := by decide +kernel
theorem d_Wa_goFrom_21 : decode prog_6_method_2_code 21 = .ok (.iconst 1, 1) := by decide +kernel
theorem d_Wa_goFrom_22 : decode prog_6_method_2_code 22 = .ok (.putfield 35, 3) := by decide +kernel
theorem d_Wa_goFrom_25 : decode prog_6_method_2_code 25 = .ok (.aload_n 1, 1) := by decide +kernel
theorem d_Wa_goFrom_26 : decode prog_6_method_2_code 26 = .ok (.astore_n 3, 1) := by decide +kernel
theorem d_Wa_goFrom_27 : decode prog_6_method_2_code 27 = .ok (.aload_n 3, 1) := by decide +kernel
theorem d_Wa_goFrom_28 : decode prog_6_method_2_code 28 = .ok (.arraylength, 1) := by decide +kernel
theorem d_Wa_goFrom_29 : decode prog_6_method_2_code 29 = .ok (.istore 4, 2) := by decide +kernel
theorem d_Wa_goFrom_31 : decode prog_6_method_2_code 31 = .ok (.iconst 0, 1) := by decide +kernel
theorem d_Wa_goFrom_32 : decode prog_6_method_2_code 32 = .ok (.istore 5, 2) := by decide +kernel
theorem d_Wa_goFrom_34 : decode prog_6_method_2_code 34 = .ok (.iload 5, 2) := by decide +kernel
theorem d_Wa_goFrom_36 : decode prog_6_method_2_code 36 = .ok (.iload 4, 2) := by decide +kernel
theorem d_Wa_goFrom_38 : decode prog_6_method_2_code 38 = .ok (.if_icmp .ge 23, 3) := by decide +kernel
theorem d_Wa_goFrom_41 : decode prog_6_method_2_code 41 = .ok (.aload_n 3, 1) := by decide +kernel
theorem d_Wa_goFrom_42 : decode prog_6_method_2_code 42 = .ok (.iload 5, 2) := by decide +kernel
theorem d_Wa_goFrom_44 : decode prog_6_method_2_code 44 = .ok (.iaload, 1) := by decide +kernel
theorem d_Wa_goFrom_45 : decode prog_6_method_2_code 45 = .ok (.istore 6, 2) := by decide +kernel
theorem d_Wa_goFrom_47 : decode prog_6_method_2_code 47 = .ok (.aload_n 0, 1) := by decide +kernel
theorem d_Wa_goFrom_48 : decode prog_6_method_2_code 48 = .ok (.iload 6, 2) := by decide +kernel
theorem d_Wa_goFrom_50 : decode prog_6_method_2_code 50 = .ok (.iconst 0, 1) := by decide +kernel
theorem d_Wa_goFrom_51 : decode prog_6_method_2_code 51 = .ok (.aload_n 2, 1) := by decide +kernel
theorem d_Wa_goFrom_52 : decode prog_6_method_2_code 52 = .ok (.invokevirtual 39, 3) := by decide +kernel
theorem d_Wa_goFrom_55 : decode prog_6_method_2_code 55 = .ok (.iinc 5 1, 3) := by decide +kernel
theorem d_Wa_goFrom_58 : decode prog_6_method_2_code 58 = .ok (.goto (-24), 3) := by decide +kernel
theorem d_Wa_goFrom_61 : decode prog_6_method_2_code 61 = .ok (.iconst 0, 1) := by decide +kernel
theorem d_Wa_goFrom_62 : decode prog_6_method_2_code 62 = .ok (.istore_n 3, 1) := by decide +kernel
theorem d_Wa_goFrom_63 : decode prog_6_method_2_code 63 = .ok (.iload_n 3, 1) := by decide +kernel
theorem d_Wa_goFrom_64 : decode prog_6_method_2_code 64 = .ok (.sipush 1024, 3) := by decide +kernel
theorem d_Wa_goFrom_67 : decode prog_6_method_2_code 67 = .ok (.if_icmp .ge 31, 3) := by decide +kernel
theorem d_Wa_goFrom_70 : decode prog_6_method_2_code 70 = .ok (.aload_n 0, 1) := by decide +kernel
theorem d_Wa_goFrom_71 : decode prog_6_method_2_code 71 = .ok (.getfield 18, 3) := by decide +kernel
theorem d_Wa_goFrom_74 : decode prog_6_method_2_code 74 = .ok (.getfield 43, 3) := by decide +kernel
theorem d_Wa_goFrom_77 : decode prog_6_method_2_code 77 = .ok (.ifCond .le 21, 3) := by decide +kernel
theorem d_Wa_goFrom_80 : decode prog_6_method_2_code 80 = .ok (.aload_n 0, 1) := by decide +kernel
theorem d_Wa_goFrom_81 : decode prog_6_method_2_code 81 = .ok (.aload_n 0, 1) := by decide +kernel
theorem d_Wa_goFrom_82 : decode prog_6_method_2_code 82 = .ok (.getfield 18, 3) := by decide +kernel
theorem d_Wa_goFrom_85 : decode prog_6_method_2_code 85 = .ok (.invokevirtual 46, 3) := by decide +kernel
theorem d_Wa_goFrom_88 : decode prog_6_method_2_code 88 = .ok (.aload_n 2, 1) := by decide +kernel
theorem d_Wa_goFrom_89 : decode prog_6_method_2_code 89 = .ok (.invokevirtual 50, 3) := by decide +kernel
theorem d_Wa_goFrom_92 : decode prog_6_method_2_code 92 = .ok (.iinc 3 1, 3) := by decide +kernel
theorem d_Wa_goFrom_95 : decode prog_6_method_2_code 95 = .ok (.goto (-32), 3) := by decide +kernel
theorem d_Wa_goFrom_98 : decode prog_6_method_2_code 98 = .ok (.return_, 1) := by decide +kernel
noncomputable def F_Wa_goFrom_63 (K : zM → Prop) (n : Nat) : Int32 → zM → Prop := Nat.rec (motive := fun _ => Int32 → zM → Prop) (fun _ _ => False) (fun _ ih x3 μ => ((1024 : Int32) ≤ x3 → (K μ)) ∧ (¬ (1024 : Int32) ≤ x3 → (((μ 17 1) ≤ 0 → (K μ)) ∧ (¬ (μ 17 1) ≤ 0 → (f_Pi_pop_17 μ (fun r9 μ8 => (f_Wa_comeToPartsOf μ8 r9 (fun μ10 => (∀ x11 : Int32, x11 = x3 + 1 → (ih x11 μ10)))))))))) n
noncomputable def F_Wa_goFrom_34 (K : zM → Prop) (n : Nat) : Int32 → Int32 → zM → Prop := Nat.rec (motive := fun _ => Int32 → Int32 → zM → Prop) (fun _ _ _ => False) (fun _ ih x4 x5 μ => (x4 ≤ x5 → (∃ n : Nat, F_Wa_goFrom_63 K n (0 : Int32) μ)) ∧ (¬ x4 ≤ x5 → (vp_in x5 16 ∧ (∀ x13 : Int32, x13 = (μ 14 x5.toNatClampNeg) → (f_Wa_comeTo μ x13 (0 : Int32) (fun μ14 => (∀ x15 : Int32, x15 = x5 + 1 → (ih x4 x15 μ14)))))))) n
def f_Wa_goFrom (μ : zM) (K : zM → Prop) : Prop := f_Ar_fillB_16 μ (0 : Int32) (fun μ1 => (f_Pi_clearAll_17 μ1 (fun μ2 => (∀ μ3 : zM, μ3 = zp μ2 15 2 (0 : Int32) → (∀ μ4 : zM, μ4 = zp μ3 15 3 (1 : Int32) → (∃ n : Nat, F_Wa_goFrom_34 K n (16 : Int32) (0 : Int32) μ4))))))
set_option maxHeartbeats 4000000 in
set_option maxRecDepth 100000 in
theorem L_Wa_goFrom_63 {p : Program} {l : Launch} {e : Env} {s : State} {m : MethodId} {args : Array Value} {below : List Frame} {meth : Method} {c : Code} {E : zE} (X : zX E p s m args c prog_6_method_2_code "BeatHeap$Walk" 7) (hr : meth.sig.returnType = none) (hlk : meth.locks = false) (K : zM → Prop) : ∀ (n : Nat) (x3 : Int32) (μ : zM) (H : Heap) (locs : List Loc) (ls : Array Slot), F_Wa_goFrom_63 K n x3 μ → zW zwC E s μ H locs → lv_has ls 7 [(0, .ref (E.2.1 15)), (2, .ref (E.2.1 2)), (3, .int x3)] → W p l e { frames := 4, cells := 0, slots := 0, locals := 92 } s m args below meth c H locs 0 0 (MQ below (va_Qv K (zR zwC E) (zA E)) args s 0 0 (zA E)) (F0 m 63 ls []) := by
  have hx := X.1
  have hb := X.2.1
  intro n
  induction n with
  | zero => intro x3 μ H locs ls h; exact False.elim h
  | succ n ih =>
    intro x3 μ H locs ls h w hl
    refine lv_iload_n hx hb d_Wa_goFrom_63 rfl (lv_at hl 2 rfl) ?_
    refine lv_sipush (v := 1024) hx hb d_Wa_goFrom_64 (by decide) ?_
    refine lv_icmp_ge (tgt := 98) hx hb d_Wa_goFrom_67 (by decide) (fun c6 => ?_) (fun c6 => ?_)
    · have h := h.1 c6
      exact z_vret X hr hlk w h d_Wa_goFrom_98
    · have h := h.2 c6
      refine lv_aload_n hx hb d_Wa_goFrom_70 rfl (lv_at hl 0 rfl) ?_
      refine gt_15_1 X w w_fl_Wa_18 d_Wa_goFrom_71 ?_
      refine gn_17_1 X w w_nf_Wa_43 d_Wa_goFrom_74 ?_
      refine lv_if_le (tgt := 98) hx hb d_Wa_goFrom_77 (by decide) (fun c7 => ?_) (fun c7 => ?_)
      · have h := h.1 c7
        exact z_vret X hr hlk w h d_Wa_goFrom_98
      · have h := h.2 c7
        refine lv_aload_n hx hb d_Wa_goFrom_80 rfl (lv_at hl 0 rfl) ?_
        refine lv_aload_n hx hb d_Wa_goFrom_81 rfl (lv_at hl 0 rfl) ?_
        refine gt_15_1 X w w_fl_Wa_18 d_Wa_goFrom_82 ?_
        refine z_cVi (As := []) (rest := [.ref (E.2.1 15)]) (q0 := 17) (ci := 3) X w (c_Pi_pop_17 l E μ _ h) rfl rfl rfl w_ml_Wa_46 ⟨w_im_Pi_pop, w_se_Pi_pop⟩ w_in_Pi w_co_Pi_pop q_Pi_pop.1 q_Pi_pop.2 rfl ⟨Nat.le_of_ble_eq_true rfl, Nat.le_of_ble_eq_true rfl⟩ ⟨Nat.zero_le _, Nat.zero_le _⟩ hl.1 rfl (Nat.le_of_ble_eq_true rfl) d_Wa_goFrom_85 (fun r9 μ8 H locs h w => ?_)
        refine lv_aload_n hx hb d_Wa_goFrom_88 rfl (lv_at hl 1 rfl) ?_
        refine z_cVv (As := [.int r9, .ref (E.2.1 2)]) (rest := []) (q0 := 15) (ci := 4) X w (c_Wa_comeToPartsOf l E μ8 r9 _ h) rfl rfl rfl w_ml_Wa_50 ⟨w_im_Wa_comeToPartsOf, w_se_Wa_comeToPartsOf⟩ w_in_Wa w_co_Wa_comeToPartsOf q_Wa_comeToPartsOf.1 q_Wa_comeToPartsOf.2 rfl ⟨Nat.le_of_ble_eq_true rfl, Nat.le_of_ble_eq_true rfl⟩ ⟨Nat.zero_le _, Nat.zero_le _⟩ hl.1 rfl (Nat.le_of_ble_eq_true rfl) d_Wa_goFrom_89 (fun μ10 H locs h w => ?_)
        obtain ⟨x11, ex11⟩ : ∃ y : Int32, y = x3 + 1 := ⟨_, rfl⟩
        have h := h x11 ex11
        refine lv_iinc (v := x11) (lv' := [(3, .int x11), (0, .ref (E.2.1 15)), (2, .ref (E.2.1 2))]) hx hb d_Wa_goFrom_92 hl (k := 2) rfl (by rw [ex11]; rfl) (by decide) rfl (fun ls hl => ?_)
        refine lv_goto (tgt := 63) hx hb d_Wa_goFrom_95 (by decide) ?_
        exact ih x11 μ10 _ _ _ h w (lv_sub hl [1, 2, 0] rfl)

set_option maxHeartbeats 4000000 in
set_option maxRecDepth 100000 in
theorem L_Wa_goFrom_34 {p : Program} {l : Launch} {e : Env} {s : State} {m : MethodId} {args : Array Value} {below : List Frame} {meth : Method} {c : Code} {E : zE} (X : zX E p s m args c prog_6_method_2_code "BeatHeap$Walk" 7) (hr : meth.sig.returnType = none) (hlk : meth.locks = false) (K : zM → Prop) : ∀ (n : Nat) (x4 x5 : Int32) (μ : zM) (H : Heap) (locs : List Loc) (ls : Array Slot), F_Wa_goFrom_34 K n x4 x5 μ → zW zwC E s μ H locs → lv_has ls 7 [(0, .ref (E.2.1 15)), (2, .ref (E.2.1 2)), (3, .ref (E.2.1 14)), (4, .int x4), (5, .int x5)] → W p l e { frames := 4, cells := 0, slots := 0, locals := 92 } s m args below meth c H locs 0 0 (MQ below (va_Qv K (zR zwC E) (zA E)) args s 0 0 (zA E)) (F0 m 34 ls []) := by
  have hx := X.1
  have hb := X.2.1
  intro n
  induction n with
  | zero => intro x4 x5 μ H locs ls h; exact False.elim h
  | succ n ih =>
    intro x4 x5 μ H locs ls h w hl
    refine lv_iload hx hb d_Wa_goFrom_34 (lv_at hl 4 rfl) ?_
    refine lv_iload hx hb d_Wa_goFrom_36 (lv_at hl 3 rfl) ?_
    refine lv_icmp_ge (tgt := 61) hx hb d_Wa_goFrom_38 (by decide) (fun c5 => ?_) (fun c5 => ?_)
    · have h := h.1 c5
      refine lv_iconst (v := 0) hx hb d_Wa_goFrom_61 (by decide) ?_
      refine lv_istore_n (lv' := [(3, .int (0 : Int32)), (0, .ref (E.2.1 15)), (2, .ref (E.2.1 2)), (4, .int x4), (5, .int x5)]) hx hb d_Wa_goFrom_62 rfl hl (by decide) rfl (fun ls hl => ?_)
      obtain ⟨n, h⟩ := h
      exact L_Wa_goFrom_63 X hr hlk K n (0 : Int32) μ _ _ _ h w (lv_sub hl [1, 2, 0] rfl)
    · have h := h.2 c5
      refine lv_aload_n hx hb d_Wa_goFrom_41 rfl (lv_at hl 2 rfl) ?_
      refine lv_iload hx hb d_Wa_goFrom_42 (lv_at hl 4 rfl) ?_
      obtain ⟨hi12, h⟩ := h
      refine al_14 X w hi12 d_Wa_goFrom_44 ?_
      refine lv_topi (fun x13 ex13 => ?_)
      have h := h x13 ex13
      refine lv_istore (lv' := [(6, .int x13), (0, .ref (E.2.1 15)), (2, .ref (E.2.1 2)), (3, .ref (E.2.1 14)), (4, .int x4), (5, .int x5)]) hx hb d_Wa_goFrom_45 hl (by decide) rfl (fun ls hl => ?_)
      refine lv_aload_n hx hb d_Wa_goFrom_47 rfl (lv_at hl 1 rfl) ?_
      refine lv_iload hx hb d_Wa_goFrom_48 (lv_at hl 0 rfl) ?_
      refine lv_iconst (v := 0) hx hb d_Wa_goFrom_50 (by decide) ?_
      refine lv_aload_n hx hb d_Wa_goFrom_51 rfl (lv_at hl 2 rfl) ?_
      refine z_cVv (As := [.int x13, .int (0 : Int32), .ref (E.2.1 2)]) (rest := []) (q0 := 15) (ci := 4) X w (c_Wa_comeTo l E μ x13 (0 : Int32) _ h) rfl rfl rfl w_ml_Wa_39 ⟨w_im_Wa_comeTo, w_se_Wa_comeTo⟩ w_in_Wa w_co_Wa_comeTo q_Wa_comeTo.1 q_Wa_comeTo.2 rfl ⟨Nat.le_of_ble_eq_true rfl, Nat.le_of_ble_eq_true rfl⟩ ⟨Nat.zero_le _, Nat.zero_le _⟩ hl.1 rfl (Nat.le_of_ble_eq_true rfl) d_Wa_goFrom_52 (fun μ14 H locs h w => ?_)
      obtain ⟨x15, ex15⟩ : ∃ y : Int32, y = x5 + 1 := ⟨_, rfl⟩
      have h := h x15 ex15
      refine lv_iinc (v := x15) (lv' := [(5, .int x15), (6, .int x13), (0, .ref (E.2.1 15)), (2, .ref (E.2.1 2)), (3, .ref (E.2.1 14)), (4, .int x4)]) hx hb d_Wa_goFrom_55 hl (k := 5) rfl (by rw [ex15]; rfl) (by decide) rfl (fun ls hl => ?_)
      refine lv_goto (tgt := 34) hx hb d_Wa_goFrom_58 (by decide) ?_
      exact ih x4 x15 μ14 _ _ _ h w (lv_sub hl [2, 3, 4, 5, 0] rfl)

set_option maxHeartbeats 4000000 in
set_option maxRecDepth 100000 in
theorem c_Wa_goFrom (l : Launch) (E : zE) (μ : zM) (K : zM → Prop) (h : f_Wa_goFrom μ K) : Met l y_Wa_goFrom (Cond.code y_Wa_goFrom prog_6_method_2_code 7 none :: zT) { frames := 4, cells := 0, slots := 0, locals := 92 } (va_Pc [.ref (E.2.1 15), .ref (E.2.1 14), .ref (E.2.1 2)] (zR zwC E μ)) (va_Qv K (zR zwC E) (zA E)) 0 0 (zA E) := by
  refine z_head (by decide) (Nat.le_of_ble_eq_true rfl) ?_
  intro p e s m below meth c X hr hlk w ls hl
  have X : zX E p s m _ c prog_6_method_2_code "BeatHeap$Walk" 7 := X
  have hx := X.1
  have hb := X.2.1
  have hl : lv_has ls 7 [(0, .ref (E.2.1 15)), (1, .ref (E.2.1 14)), (2, .ref (E.2.1 2))] := hl
  unfold f_Wa_goFrom at h
  refine lv_aload_n hx hb d_Wa_goFrom_0 rfl (lv_at hl 0 rfl) ?_
  refine gt_15_0 X w w_fl_Wa_9 d_Wa_goFrom_1 ?_
  refine lv_iconst (v := 0) hx hb d_Wa_goFrom_4 (by decide) ?_
  refine z_cSv (As := [.ref (E.2.1 16), .int (0 : Int32)]) (rest := []) X w (c_Ar_fillB_16 l E μ (0 : Int32) _ h) w_ml_Wa_22 w_st_Ar_fillB w_in_Ar w_co_Ar_fillB q_Ar_fillB.1 q_Ar_fillB.2 rfl ⟨Nat.le_of_ble_eq_true rfl, Nat.le_of_ble_eq_true rfl⟩ ⟨Nat.zero_le _, Nat.zero_le _⟩ hl.1 rfl (Nat.le_of_ble_eq_true rfl) d_Wa_goFrom_5 (fun μ1 H locs h w => ?_)
  refine lv_aload_n hx hb d_Wa_goFrom_8 rfl (lv_at hl 0 rfl) ?_
  refine gt_15_1 X w w_fl_Wa_18 d_Wa_goFrom_9 ?_
  refine z_cVv (As := []) (rest := []) (q0 := 17) (ci := 3) X w (c_Pi_clearAll_17 l E μ1 _ h) rfl rfl rfl w_ml_Wa_28 ⟨w_im_Pi_clearAll, w_se_Pi_clearAll⟩ w_in_Pi w_co_Pi_clearAll q_Pi_clearAll.1 q_Pi_clearAll.2 rfl ⟨Nat.le_of_ble_eq_true rfl, Nat.le_of_ble_eq_true rfl⟩ ⟨Nat.zero_le _, Nat.zero_le _⟩ hl.1 rfl (Nat.le_of_ble_eq_true rfl) d_Wa_goFrom_12 (fun μ2 H locs h w => ?_)
  refine lv_aload_n hx hb d_Wa_goFrom_15 rfl (lv_at hl 0 rfl) ?_
  refine lv_iconst (v := 0) hx hb d_Wa_goFrom_16 (by decide) ?_
  refine pt_15_2 X w w_fl_Wa_31 d_Wa_goFrom_17 (fun μ3 H locs eμ3 w => ?_)
  have h := h μ3 eμ3
  refine lv_aload_n hx hb d_Wa_goFrom_20 rfl (lv_at hl 0 rfl) ?_
  refine lv_iconst (v := 1) hx hb d_Wa_goFrom_21 (by decide) ?_
  refine pt_15_3 X w (by decide) w_fl_Wa_35 d_Wa_goFrom_22 (fun μ4 H locs eμ4 w => ?_)
  have h := h μ4 eμ4
  refine lv_aload_n hx hb d_Wa_goFrom_25 rfl (lv_at hl 1 rfl) ?_
  refine lv_astore_n (lv' := [(3, .ref (E.2.1 14)), (0, .ref (E.2.1 15)), (1, .ref (E.2.1 14)), (2, .ref (E.2.1 2))]) hx hb d_Wa_goFrom_26 rfl hl (by decide) rfl (fun ls hl => ?_)
  refine lv_aload_n hx hb d_Wa_goFrom_27 rfl (lv_at hl 0 rfl) ?_
  refine an_14 (v := 16) X w (by decide) d_Wa_goFrom_28 ?_
  refine lv_istore (lv' := [(4, .int (16 : Int32)), (3, .ref (E.2.1 14)), (0, .ref (E.2.1 15)), (1, .ref (E.2.1 14)), (2, .ref (E.2.1 2))]) hx hb d_Wa_goFrom_29 hl (by decide) rfl (fun ls hl => ?_)
  refine lv_iconst (v := 0) hx hb d_Wa_goFrom_31 (by decide) ?_
  refine lv_istore (lv' := [(5, .int (0 : Int32)), (4, .int (16 : Int32)), (3, .ref (E.2.1 14)), (0, .ref (E.2.1 15)), (1, .ref (E.2.1 14)), (2, .ref (E.2.1 2))]) hx hb d_Wa_goFrom_32 hl (by decide) rfl (fun ls hl => ?_)
  obtain ⟨n, h⟩ := h
  exact L_Wa_goFrom_34 X hr hlk K n (16 : Int32) (0 : Int32) μ4 _ _ _ h w (lv_sub hl [3, 5, 2, 1, 0] rfl)
theorem q_Bh_reachable : (y_Bh_reachable.cls ≠ "java/lang/invoke/MethodHandle" ∧ y_Bh_reachable.cls ≠ "java/lang/invoke/VarHandle") ∧ (parseMethodDescriptor y_Bh_reachable.desc).map (fun d => d.parameters.length) = some 0 := by decide +kernel
theorem d_Bh_reachable_0 : decode prog_1_method_18_code 0 = .ok (.aload_n 0, 1) := by decide +kernel
theorem d_Bh_reachable_1 : decode prog_1_method_18_code 1 = .ok (.getfield 34, 3) := by decide +kernel
theorem d_Bh_reachable_4 : decode prog_1_method_18_code 4 = .ok (.aload_n 0, 1) := by decide +kernel
theorem d_Bh_reachable_5 : decode prog_1_method_18_code 5 = .ok (.getfield 30, 3) := by decide +kernel
theorem d_Bh_reachable_8 : decode prog_1_method_18_code 8 = .ok (.aload_n 0, 1) := by decide +kernel
theorem d_Bh_reachable_9 : decode prog_1_method_18_code 9 = .ok (.getfield 20, 3) := by decide +kernel
theorem d_Bh_reachable_12 : decode prog_1_method_18_code 12 = .ok (.invokevirtual 155, 3) := by decide +kernel
theorem d_Bh_reachable_15 : decode prog_1_method_18_code 15 = .ok (.aload_n 0, 1) := by decide +kernel
theorem d_Bh_reachable_16 : decode prog_1_method_18_code 16 = .ok (.getfield 34, 3) := by decide +kernel
theorem d_Bh_reachable_19 : decode prog_1_method_18_code 19 = .ok (.getfield 159, 3) := by decide +kernel
theorem d_Bh_reachable_22 : decode prog_1_method_18_code 22 = .ok (.ireturn, 1) := by decide +kernel
def f_Bh_reachable (μ : zM) (K : Int32 → zM → Prop) : Prop := f_Wa_goFrom μ (fun μ1 => (K (μ1 15 2) μ1))
set_option maxHeartbeats 4000000 in
set_option maxRecDepth 100000 in
theorem c_Bh_reachable (l : Launch) (E : zE) (μ : zM) (K : Int32 → zM → Prop) (h : f_Bh_reachable μ K) : Met l y_Bh_reachable (Cond.code y_Bh_reachable prog_1_method_18_code 1 (some .int) :: zT) { frames := 5, cells := 0, slots := 0, locals := 118 } (va_Pc [.ref (E.2.1 0)] (zR zwC E μ)) (va_Qi K (zR zwC E) (zA E)) 0 0 (zA E) := by
  refine z_head (by decide) (Nat.le_of_ble_eq_true rfl) ?_
  intro p e s m below meth c X hr hlk w ls hl
  have X : zX E p s m _ c prog_1_method_18_code "BeatHeap" 1 := X
  have hx := X.1
  have hb := X.2.1
  have hl : lv_has ls 1 [(0, .ref (E.2.1 0))] := hl
  unfold f_Bh_reachable at h
  refine lv_aload_n hx hb d_Bh_reachable_0 rfl (lv_at hl 0 rfl) ?_
  refine gt_0_4 X w w_fl_Bh_34 d_Bh_reachable_1 ?_
  refine lv_aload_n hx hb d_Bh_reachable_4 rfl (lv_at hl 0 rfl) ?_
  refine gt_0_3 X w w_fl_Bh_30 d_Bh_reachable_5 ?_
  refine lv_aload_n hx hb d_Bh_reachable_8 rfl (lv_at hl 0 rfl) ?_
  refine gt_0_1 X w w_fl_Bh_20 d_Bh_reachable_9 ?_
  refine z_cVv (As := [.ref (E.2.1 14), .ref (E.2.1 2)]) (rest := []) (q0 := 15) (ci := 4) X w (c_Wa_goFrom l E μ _ h) rfl rfl rfl w_ml_Bh_155 ⟨w_im_Wa_goFrom, w_se_Wa_goFrom⟩ w_in_Wa w_co_Wa_goFrom q_Wa_goFrom.1 q_Wa_goFrom.2 rfl ⟨Nat.le_of_ble_eq_true rfl, Nat.le_of_ble_eq_true rfl⟩ ⟨Nat.zero_le _, Nat.zero_le _⟩ hl.1 rfl (Nat.le_of_ble_eq_true rfl) d_Bh_reachable_12 (fun μ1 H locs h w => ?_)
  refine lv_aload_n hx hb d_Bh_reachable_15 rfl (lv_at hl 0 rfl) ?_
  refine gt_0_4 X w w_fl_Bh_34 d_Bh_reachable_16 ?_
  refine gn_15_2 X w w_nf_Bh_159 d_Bh_reachable_19 ?_
  exact z_iret X hr hlk w h d_Bh_reachable_22
theorem q_Bh_whole : (y_Bh_whole.cls ≠ "java/lang/invoke/MethodHandle" ∧ y_Bh_whole.cls ≠ "java/lang/invoke/VarHandle") ∧ (parseMethodDescriptor y_Bh_whole.desc).map (fun d => d.parameters.length) = some 0 := by decide +kernel
theorem d_Bh_whole_0 : decode prog_1_method_19_code 0 = .ok (.aload_n 0, 1) := by decide +kernel
theorem d_Bh_whole_1 : decode prog_1_method_19_code 1 = .ok (.getfield 34, 3) := by decide +kernel
theorem d_Bh_whole_4 : decode prog_1_method_19_code 4 = .ok (.aload_n 0, 1) := by decide +kernel
theorem d_Bh_whole_5 : decode prog_1_method_19_code 5 = .ok (.getfield 30, 3) := by decide +kernel
theorem d_Bh_whole_8 : decode prog_1_method_19_code 8 = .ok (.aload_n 0, 1) := by decide +kernel
theorem d_Bh_whole_9 : decode prog_1_method_19_code 9 = .ok (.getfield 20, 3) := by decide +kernel
theorem d_Bh_whole_12 : decode prog_1_method_19_code 12 = .ok (.invokevirtual 155, 3) := by decide +kernel
theorem d_Bh_whole_15 : decode prog_1_method_19_code 15 = .ok (.aload_n 0, 1) := by decide +kernel
theorem d_Bh_whole_16 : decode prog_1_method_19_code 16 = .ok (.getfield 34, 3) := by decide +kernel
theorem d_Bh_whole_19 : decode prog_1_method_19_code 19 = .ok (.getfield 162, 3) := by decide +kernel
theorem d_Bh_whole_22 : decode prog_1_method_19_code 22 = .ok (.ireturn, 1) := by decide +kernel
def f_Bh_whole (μ : zM) (K : Int32 → zM → Prop) : Prop := f_Wa_goFrom μ (fun μ1 => (((μ1 15 3) = 0 ∨ (μ1 15 3) = 1) ∧ K (μ1 15 3) μ1))
set_option maxHeartbeats 4000000 in
set_option maxRecDepth 100000 in
theorem c_Bh_whole (l : Launch) (E : zE) (μ : zM) (K : Int32 → zM → Prop) (h : f_Bh_whole μ K) : Met l y_Bh_whole (Cond.code y_Bh_whole prog_1_method_19_code 1 (some .boolean) :: zT) { frames := 5, cells := 0, slots := 0, locals := 118 } (va_Pc [.ref (E.2.1 0)] (zR zwC E μ)) (va_Qi K (zR zwC E) (zA E)) 0 0 (zA E) := by
  refine z_head (by decide) (Nat.le_of_ble_eq_true rfl) ?_
  intro p e s m below meth c X hr hlk w ls hl
  have X : zX E p s m _ c prog_1_method_19_code "BeatHeap" 1 := X
  have hx := X.1
  have hb := X.2.1
  have hl : lv_has ls 1 [(0, .ref (E.2.1 0))] := hl
  unfold f_Bh_whole at h
  refine lv_aload_n hx hb d_Bh_whole_0 rfl (lv_at hl 0 rfl) ?_
  refine gt_0_4 X w w_fl_Bh_34 d_Bh_whole_1 ?_
  refine lv_aload_n hx hb d_Bh_whole_4 rfl (lv_at hl 0 rfl) ?_
  refine gt_0_3 X w w_fl_Bh_30 d_Bh_whole_5 ?_
  refine lv_aload_n hx hb d_Bh_whole_8 rfl (lv_at hl 0 rfl) ?_
  refine gt_0_1 X w w_fl_Bh_20 d_Bh_whole_9 ?_
  refine z_cVv (As := [.ref (E.2.1 14), .ref (E.2.1 2)]) (rest := []) (q0 := 15) (ci := 4) X w (c_Wa_goFrom l E μ _ h) rfl rfl rfl w_ml_Bh_155 ⟨w_im_Wa_goFrom, w_se_Wa_goFrom⟩ w_in_Wa w_co_Wa_goFrom q_Wa_goFrom.1 q_Wa_goFrom.2 rfl ⟨Nat.le_of_ble_eq_true rfl, Nat.le_of_ble_eq_true rfl⟩ ⟨Nat.zero_le _, Nat.zero_le _⟩ hl.1 rfl (Nat.le_of_ble_eq_true rfl) d_Bh_whole_12 (fun μ1 H locs h w => ?_)
  refine lv_aload_n hx hb d_Bh_whole_15 rfl (lv_at hl 0 rfl) ?_
  refine gt_0_4 X w w_fl_Bh_34 d_Bh_whole_16 ?_
  refine gn_15_3 X w w_nf_Bh_162 d_Bh_whole_19 ?_
  exact z_zret X hr hlk w (z_bz h.1).1 h.2 d_Bh_whole_22
theorem q_Mo_begin : (y_Mo_begin.cls ≠ "java/lang/invoke/MethodHandle" ∧ y_Mo_begin.cls ≠ "java/lang/invoke/VarHandle") ∧ (parseMethodDescriptor y_Mo_begin.desc).map (fun d => d.parameters.length) = some 4 := by decide +kernel
theorem d_Mo_begin_0 : decode prog_8_method_3_code 0 = .ok (.iload_n 1, 1) := by decide +kernel
theorem d_Mo_begin_1 : decode prog_8_method_3_code 1 = .ok (.iconst 4, 1) := by decide +kernel
theorem d_Mo_begin_2 : decode prog_8_method_3_code 2 = .ok (.if_icmp .lt 44, 3) := by decide +kernel
theorem d_Mo_begin_5 : decode prog_8_method_3_code 5 = .ok (.iload_n 1, 1) := by decide +kernel
theorem d_Mo_begin_6 : decode prog_8_method_3_code 6 = .ok (.bipush 64, 2) := by decide +kernel
theorem d_Mo_begin_8 : decode prog_8_method_3_code 8 = .ok (.if_icmp .gt 38, 3) := by decide +kernel
theorem d_Mo_begin_11 : decode prog_8_method_3_code 11 = .ok (.iload_n 2, 1) := by decide +kernel
theorem d_Mo_begin_12 : decode prog_8_method_3_code 12 = .ok (.iconst 1, 1) := by decide +kernel
theorem d_Mo_begin_13 : decode prog_8_method_3_code 13 = .ok (.if_icmp .lt 33, 3) := by decide +kernel
theorem d_Mo_begin_16 : decode prog_8_method_3_code 16 = .ok (.iload_n 2, 1) := by decide +kernel
theorem d_Mo_begin_17 : decode prog_8_method_3_code 17 = .ok (.sipush 200, 3) := by decide +kernel
theorem d_Mo_begin_20 : decode prog_8_method_3_code 20 = .ok (.if_icmp .gt 26, 3) := by decide +kernel
theorem d_Mo_begin_23 : decode prog_8_method_3_code 23 = .ok (.iload_n 3, 1) := by decide +kernel
theorem d_Mo_begin_24 : decode prog_8_method_3_code 24 = .ok (.iconst 1, 1) := by decide +kernel
theorem d_Mo_begin_25 : decode prog_8_method_3_code 25 = .ok (.if_icmp .lt 21, 3) := by decide +kernel
theorem d_Mo_begin_28 : decode prog_8_method_3_code 28 = .ok (.iload_n 3, 1) := by decide +kernel
theorem d_Mo_begin_29 : decode prog_8_method_3_code 29 = .ok (.sipush 200, 3) := by decide +kernel
theorem d_Mo_begin_32 : decode prog_8_method_3_code 32 = .ok (.if_icmp .gt 14, 3) := by decide +kernel
theorem d_Mo_begin_35 : decode prog_8_method_3_code 35 = .ok (.iload 4, 2) := by decide +kernel
theorem d_Mo_begin_37 : decode prog_8_method_3_code 37 = .ok (.ifCond .lt 9, 3) := by decide +kernel
theorem d_Mo_begin_40 : decode prog_8_method_3_code 40 = .ok (.iload 4, 2) := by decide +kernel
theorem d_Mo_begin_42 : decode prog_8_method_3_code 42 = .ok (.iload_n 1, 1) := by decide +kernel
theorem d_Mo_begin_43 : decode prog_8_method_3_code 43 = .ok (.if_icmp .le 5, 3) := by decide +kernel
theorem d_Mo_begin_46 : decode prog_8_method_3_code 46 = .ok (.iconst 0, 1) := by decide +kernel
theorem d_Mo_begin_47 : decode prog_8_method_3_code 47 = .ok (.ireturn, 1) := by decide +kernel
theorem d_Mo_begin_48 : decode prog_8_method_3_code 48 = .ok (.aload_n 0, 1) := by decide +kernel
theorem d_Mo_begin_49 : decode prog_8_method_3_code 49 = .ok (.iload_n 1, 1) := by decide +kernel
theorem d_Mo_begin_50 : decode prog_8_method_3_code 50 = .ok (.putfield 45, 3) := by decide +kernel
theorem d_Mo_begin_53 : decode prog_8_method_3_code 53 = .ok (.aload_n 0, 1) := by decide +kernel
theorem d_Mo_begin_54 : decode prog_8_method_3_code 54 = .ok (.iload_n 2, 1) := by decide +kernel
theorem d_Mo_begin_55 : decode prog_8_method_3_code 55 = .ok (.putfield 49, 3) := by decide +kernel
theorem d_Mo_begin_58 : decode prog_8_method_3_code 58 = .ok (.aload_n 0, 1) := by decide +kernel
theorem d_Mo_begin_59 : decode prog_8_method_3_code 59 = .ok (.iload_n 3, 1) := by decide +kernel
theorem d_Mo_begin_60 : decode prog_8_method_3_code 60 = .ok (.putfield 52, 3) := by decide +kernel
theorem d_Mo_begin_63 : decode prog_8_method_3_code 63 = .ok (.aload_n 0, 1) := by decide +kernel
theorem d_Mo_begin_64 : decode prog_8_method_3_code 64 = .ok (.iload 4, 2) := by decide +kernel
theorem d_Mo_begin_66 : decode prog_8_method_3_code 66 = .ok (.putfield 55, 3) := by decide +kernel
theorem d_Mo_begin_69 : decode prog_8_method_3_code 69 = .ok (.iconst 0, 1) := by decide +kernel
theorem d_Mo_begin_70 : decode prog_8_method_3_code 70 = .ok (.istore 5, 2) := by decide +kernel
theorem d_Mo_begin_72 : decode prog_8_method_3_code 72 = .ok (.iload 5, 2) := by decide +kernel
theorem d_Mo_begin_74 : decode prog_8_method_3_code 74 = .ok (.sipush 4096, 3) := by decide +kernel
theorem d_Mo_begin_77 : decode prog_8_method_3_code 77 = .ok (.if_icmp .ge 33, 3) := by decide +kernel
theorem d_Mo_begin_80 : decode prog_8_method_3_code 80 = .ok (.aload_n 0, 1) := by decide +kernel
theorem d_Mo_begin_81 : decode prog_8_method_3_code 81 = .ok (.getfield 7, 3) := by decide +kernel
theorem d_Mo_begin_84 : decode prog_8_method_3_code 84 = .ok (.iload 5, 2) := by decide +kernel
theorem d_Mo_begin_86 : decode prog_8_method_3_code 86 = .ok (.iconst 0, 1) := by decide +kernel
theorem d_Mo_begin_87 : decode prog_8_method_3_code 87 = .ok (.iastore, 1) := by decide +kernel
theorem d_Mo_begin_88 : decode prog_8_method_3_code 88 = .ok (.aload_n 0, 1) := by decide +kernel
theorem d_Mo_begin_89 : decode prog_8_method_3_code 89 = .ok (.getfield 16, 3) := by decide +kernel
theorem d_Mo_begin_92 : decode prog_8_method_3_code 92 = .ok (.iload 5, 2) := by decide +kernel
theorem d_Mo_begin_94 : decode prog_8_method_3_code 94 = .ok (.iconst 0, 1) := by decide +kernel
theorem d_Mo_begin_95 : decode prog_8_method_3_code 95 = .ok (.iastore, 1) := by decide +kernel
theorem d_Mo_begin_96 : decode prog_8_method_3_code 96 = .ok (.aload_n 0, 1) := by decide +kernel
theorem d_Mo_begin_97 : decode prog_8_method_3_code 97 = .ok (.getfield 19, 3) := by decide +kernel
theorem d_Mo_begin_100 : decode prog_8_method_3_code 100 = .ok (.iload 5, 2) := by decide +kernel
theorem d_Mo_begin_102 : decode prog_8_method_3_code 102 = .ok (.iconst 0, 1) := by decide +kernel
theorem d_Mo_begin_103 : decode prog_8_method_3_code 103 = .ok (.bastore, 1) := by decide +kernel
theorem d_Mo_begin_104 : decode prog_8_method_3_code 104 = .ok (.iinc 5 1, 3) := by decide +kernel
theorem d_Mo_begin_107 : decode prog_8_method_3_code 107 = .ok (.goto (-35), 3) := by decide +kernel
theorem d_Mo_begin_110 : decode prog_8_method_3_code 110 = .ok (.iconst 0, 1) := by decide +kernel
theorem d_Mo_begin_111 : decode prog_8_method_3_code 111 = .ok (.istore 5, 2) := by decide +kernel
theorem d_Mo_begin_113 : decode prog_8_method_3_code 113 = .ok (.iload 5, 2) := by decide +kernel
theorem d_Mo_begin_115 : decode prog_8_method_3_code 115 = .ok (.bipush 64, 2) := by decide +kernel
theorem d_Mo_begin_117 : decode prog_8_method_3_code 117 = .ok (.if_icmp .ge 17, 3) := by decide +kernel
theorem d_Mo_begin_120 : decode prog_8_method_3_code 120 = .ok (.aload_n 0, 1) := by decide +kernel
theorem d_Mo_begin_121 : decode prog_8_method_3_code 121 = .ok (.getfield 13, 3) := by decide +kernel
theorem d_Mo_begin_124 : decode prog_8_method_3_code 124 = .ok (.iload 5, 2) := by decide +kernel
theorem d_Mo_begin_126 : decode prog_8_method_3_code 126 = .ok (.iconst (-1), 1) := by decide +kernel
theorem d_Mo_begin_127 : decode prog_8_method_3_code 127 = .ok (.iastore, 1) := by decide +kernel
theorem d_Mo_begin_128 : decode prog_8_method_3_code 128 = .ok (.iinc 5 1, 3) := by decide +kernel
theorem d_Mo_begin_131 : decode prog_8_method_3_code 131 = .ok (.goto (-18), 3) := by decide +kernel
theorem d_Mo_begin_134 : decode prog_8_method_3_code 134 = .ok (.iconst 0, 1) := by decide +kernel
theorem d_Mo_begin_135 : decode prog_8_method_3_code 135 = .ok (.istore 5, 2) := by decide +kernel
theorem d_Mo_begin_137 : decode prog_8_method_3_code 137 = .ok (.iload 5, 2) := by decide +kernel
theorem d_Mo_begin_139 : decode prog_8_method_3_code 139 = .ok (.bipush 16, 2) := by decide +kernel
theorem d_Mo_begin_141 : decode prog_8_method_3_code 141 = .ok (.if_icmp .ge 17, 3) := by decide +kernel
theorem d_Mo_begin_144 : decode prog_8_method_3_code 144 = .ok (.aload_n 0, 1) := by decide +kernel
theorem d_Mo_begin_145 : decode prog_8_method_3_code 145 = .ok (.getfield 29, 3) := by decide +kernel
theorem d_Mo_begin_148 : decode prog_8_method_3_code 148 = .ok (.iload 5, 2) := by decide +kernel
theorem d_Mo_begin_150 : decode prog_8_method_3_code 150 = .ok (.iconst (-1), 1) := by decide +kernel
theorem d_Mo_begin_151 : decode prog_8_method_3_code 151 = .ok (.iastore, 1) := by decide +kernel
theorem d_Mo_begin_152 : decode prog_8_method_3_code 152 = .ok (.iinc 5 1, 3) := by decide +kernel
theorem d_Mo_begin_155 : decode prog_8_method_3_code 155 = .ok (.goto (-18), 3) := by decide +kernel
theorem d_Mo_begin_158 : decode prog_8_method_3_code 158 = .ok (.aload_n 0, 1) := by decide +kernel
theorem d_Mo_begin_159 : decode prog_8_method_3_code 159 = .ok (.iconst 0, 1) := by decide +kernel
theorem d_Mo_begin_160 : decode prog_8_method_3_code 160 = .ok (.putfield 58, 3) := by decide +kernel
theorem d_Mo_begin_163 : decode prog_8_method_3_code 163 = .ok (.aload_n 0, 1) := by decide +kernel
theorem d_Mo_begin_164 : decode prog_8_method_3_code 164 = .ok (.iconst 0, 1) := by decide +kernel
theorem d_Mo_begin_165 : decode prog_8_method_3_code 165 = .ok (.putfield 61, 3) := by decide +kernel
theorem d_Mo_begin_168 : decode prog_8_method_3_code 168 = .ok (.aload_n 0, 1) := by decide +kernel
theorem d_Mo_begin_169 : decode prog_8_method_3_code 169 = .ok (.iconst (-1), 1) := by decide +kernel
theorem d_Mo_begin_170 : decode prog_8_method_3_code 170 = .ok (.putfield 64, 3) := by decide +kernel
theorem d_Mo_begin_173 : decode prog_8_method_3_code 173 = .ok (.aload_n 0, 1) := by decide +kernel
theorem d_Mo_begin_174 : decode prog_8_method_3_code 174 = .ok (.iconst 0, 1) := by decide +kernel
theorem d_Mo_begin_175 : decode prog_8_method_3_code 175 = .ok (.putfield 67, 3) := by decide +kernel
theorem d_Mo_begin_178 : decode prog_8_method_3_code 178 = .ok (.aload_n 0, 1) := by decide +kernel
theorem d_Mo_begin_179 : decode prog_8_method_3_code 179 = .ok (.iconst 0, 1) := by decide +kernel
theorem d_Mo_begin_180 : decode prog_8_method_3_code 180 = .ok (.putfield 70, 3) := by decide +kernel
theorem d_Mo_begin_183 : decode prog_8_method_3_code 183 = .ok (.aload_n 0, 1) := by decide +kernel
theorem d_Mo_begin_184 : decode prog_8_method_3_code 184 = .ok (.iconst 0, 1) := by decide +kernel
theorem d_Mo_begin_185 : decode prog_8_method_3_code 185 = .ok (.putfield 73, 3) := by decide +kernel
theorem d_Mo_begin_188 : decode prog_8_method_3_code 188 = .ok (.aload_n 0, 1) := by decide +kernel
theorem d_Mo_begin_189 : decode prog_8_method_3_code 189 = .ok (.iconst 0, 1) := by decide +kernel
theorem d_Mo_begin_190 : decode prog_8_method_3_code 190 = .ok (.putfield 76, 3) := by decide +kernel
theorem d_Mo_begin_193 : decode prog_8_method_3_code 193 = .ok (.aload_n 0, 1) := by decide +kernel
theorem d_Mo_begin_194 : decode prog_8_method_3_code 194 = .ok (.iconst 0, 1) := by decide +kernel
theorem d_Mo_begin_195 : decode prog_8_method_3_code 195 = .ok (.putfield 79, 3) := by decide +kernel
theorem d_Mo_begin_198 : decode prog_8_method_3_code 198 = .ok (.aload_n 0, 1) := by decide +kernel
theorem d_Mo_begin_199 : decode prog_8_method_3_code 199 = .ok (.iconst 0, 1) := by decide +kernel
theorem d_Mo_begin_200 : decode prog_8_method_3_code 200 = .ok (.putfield 82, 3) := by decide +kernel
theorem d_Mo_begin_203 : decode prog_8_method_3_code 203 = .ok (.aload_n 0, 1) := by decide +kernel
theorem d_Mo_begin_204 : decode prog_8_method_3_code 204 = .ok (.iconst 0, 1) := by decide +kernel
theorem d_Mo_begin_205 : decode prog_8_method_3_code 205 = .ok (.putfield 85, 3) := by decide +kernel
theorem d_Mo_begin_208 : decode prog_8_method_3_code 208 = .ok (.iconst 1, 1) := by decide +kernel
theorem d_Mo_begin_209 : decode prog_8_method_3_code 209 = .ok (.ireturn, 1) := by decide +kernel
noncomputable def F_Mo_begin_137 (K : Int32 → zM → Prop) (n : Nat) : Int32 → zM → Prop := Nat.rec (motive := fun _ => Int32 → zM → Prop) (fun _ _ => False) (fun _ ih x5 μ => ((16 : Int32) ≤ x5 → (∀ μ16 : zM, μ16 = zp μ 19 12 (0 : Int32) → (∀ μ17 : zM, μ17 = zp μ16 19 13 (0 : Int32) → (∀ μ18 : zM, μ18 = zp μ17 19 15 (-1 : Int32) → (∀ μ19 : zM, μ19 = zp μ18 19 17 (0 : Int32) → (∀ μ20 : zM, μ20 = zp μ19 19 18 (0 : Int32) → (∀ μ21 : zM, μ21 = zp μ20 19 19 (0 : Int32) → (∀ μ22 : zM, μ22 = zp μ21 19 20 (0 : Int32) → (∀ μ23 : zM, μ23 = zp μ22 19 21 (0 : Int32) → (∀ μ24 : zM, μ24 = zp μ23 19 22 (0 : Int32) → (∀ μ25 : zM, μ25 = zp μ24 19 23 (0 : Int32) → (K (1 : Int32) μ25)))))))))))) ∧ (¬ (16 : Int32) ≤ x5 → (vp_in x5 16 ∧ ∀ μ27 : zM, μ27 = zp μ 26 x5.toNatClampNeg (-1 : Int32) → (∀ x28 : Int32, x28 = x5 + 1 → (ih x28 μ27))))) n
noncomputable def F_Mo_begin_113 (K : Int32 → zM → Prop) (n : Nat) : Int32 → zM → Prop := Nat.rec (motive := fun _ => Int32 → zM → Prop) (fun _ _ => False) (fun _ ih x5 μ => ((64 : Int32) ≤ x5 → (∃ n : Nat, F_Mo_begin_137 K n (0 : Int32) μ)) ∧ (¬ (64 : Int32) ≤ x5 → (vp_in x5 64 ∧ ∀ μ30 : zM, μ30 = zp μ 21 x5.toNatClampNeg (-1 : Int32) → (∀ x31 : Int32, x31 = x5 + 1 → (ih x31 μ30))))) n
noncomputable def F_Mo_begin_72 (K : Int32 → zM → Prop) (n : Nat) : Int32 → zM → Prop := Nat.rec (motive := fun _ => Int32 → zM → Prop) (fun _ _ => False) (fun _ ih x5 μ => ((4096 : Int32) ≤ x5 → (∃ n : Nat, F_Mo_begin_113 K n (0 : Int32) μ)) ∧ (¬ (4096 : Int32) ≤ x5 → (vp_in x5 4096 ∧ ∀ μ33 : zM, μ33 = zp μ 20 x5.toNatClampNeg (0 : Int32) → (vp_in x5 4096 ∧ ∀ μ35 : zM, μ35 = zp μ33 22 x5.toNatClampNeg (0 : Int32) → (vp_in x5 4096 ∧ ∀ μ37 : zM, μ37 = zp μ35 23 x5.toNatClampNeg (vp_nar .boolean (0 : Int32)) → (∀ x38 : Int32, x38 = x5 + 1 → (ih x38 μ37))))))) n
def f_Mo_begin (μ : zM) (a1 a2 a3 a4 : Int32) (K : Int32 → zM → Prop) : Prop := (a1 < (4 : Int32) → (K (0 : Int32) μ)) ∧ (¬ a1 < (4 : Int32) → (((64 : Int32) < a1 → (K (0 : Int32) μ)) ∧ (¬ (64 : Int32) < a1 → ((a2 < (1 : Int32) → (K (0 : Int32) μ)) ∧ (¬ a2 < (1 : Int32) → (((200 : Int32) < a2 → (K (0 : Int32) μ)) ∧ (¬ (200 : Int32) < a2 → ((a3 < (1 : Int32) → (K (0 : Int32) μ)) ∧ (¬ a3 < (1 : Int32) → (((200 : Int32) < a3 → (K (0 : Int32) μ)) ∧ (¬ (200 : Int32) < a3 → ((a4 < 0 → (K (0 : Int32) μ)) ∧ (¬ a4 < 0 → ((a4 ≤ a1 → (∀ μ9 : zM, μ9 = zp μ 19 0 a1 → (∀ μ10 : zM, μ10 = zp μ9 19 1 a2 → (∀ μ11 : zM, μ11 = zp μ10 19 2 a3 → (∀ μ12 : zM, μ12 = zp μ11 19 3 a4 → (∃ n : Nat, F_Mo_begin_72 K n (0 : Int32) μ12)))))) ∧ (¬ a4 ≤ a1 → (K (0 : Int32) μ))))))))))))))))
set_option maxHeartbeats 4000000 in
set_option maxRecDepth 100000 in
theorem L_Mo_begin_137 {p : Program} {l : Launch} {e : Env} {s : State} {m : MethodId} {args : Array Value} {below : List Frame} {meth : Method} {c : Code} {E : zE} (X : zX E p s m args c prog_8_method_3_code "BeatHeapModel" 6) (hr : meth.sig.returnType = (some .boolean)) (hlk : meth.locks = false) (K : Int32 → zM → Prop) : ∀ (n : Nat) (x5 : Int32) (μ : zM) (H : Heap) (locs : List Loc) (ls : Array Slot), F_Mo_begin_137 K n x5 μ → zW zwM E s μ H locs → lv_has ls 6 [(0, .ref (E.2.1 19)), (5, .int x5)] → W p l e { frames := 0, cells := 0, slots := 0, locals := 0 } s m args below meth c H locs 0 0 (MQ below (va_Qi K (zR zwM E) (zA E)) args s 0 0 (zA E)) (F0 m 137 ls []) := by
  have hx := X.1
  have hb := X.2.1
  intro n
  induction n with
  | zero => intro x5 μ H locs ls h; exact False.elim h
  | succ n ih =>
    intro x5 μ H locs ls h w hl
    refine lv_iload hx hb d_Mo_begin_137 (lv_at hl 1 rfl) ?_
    refine lv_bipush (v := 16) hx hb d_Mo_begin_139 (by decide) ?_
    refine lv_icmp_ge (tgt := 158) hx hb d_Mo_begin_141 (by decide) (fun c15 => ?_) (fun c15 => ?_)
    · have h := h.1 c15
      refine lv_aload_n hx hb d_Mo_begin_158 rfl (lv_at hl 0 rfl) ?_
      refine lv_iconst (v := 0) hx hb d_Mo_begin_159 (by decide) ?_
      refine pt_19_12 X w w_fl_Mo_58 d_Mo_begin_160 (fun μ16 H locs eμ16 w => ?_)
      have h := h μ16 eμ16
      refine lv_aload_n hx hb d_Mo_begin_163 rfl (lv_at hl 0 rfl) ?_
      refine lv_iconst (v := 0) hx hb d_Mo_begin_164 (by decide) ?_
      refine pt_19_13 X w w_fl_Mo_61 d_Mo_begin_165 (fun μ17 H locs eμ17 w => ?_)
      have h := h μ17 eμ17
      refine lv_aload_n hx hb d_Mo_begin_168 rfl (lv_at hl 0 rfl) ?_
      refine lv_iconst (v := (-1)) hx hb d_Mo_begin_169 (by decide) ?_
      refine pt_19_15 X w w_fl_Mo_64 d_Mo_begin_170 (fun μ18 H locs eμ18 w => ?_)
      have h := h μ18 eμ18
      refine lv_aload_n hx hb d_Mo_begin_173 rfl (lv_at hl 0 rfl) ?_
      refine lv_iconst (v := 0) hx hb d_Mo_begin_174 (by decide) ?_
      refine pt_19_17 X w w_fl_Mo_67 d_Mo_begin_175 (fun μ19 H locs eμ19 w => ?_)
      have h := h μ19 eμ19
      refine lv_aload_n hx hb d_Mo_begin_178 rfl (lv_at hl 0 rfl) ?_
      refine lv_iconst (v := 0) hx hb d_Mo_begin_179 (by decide) ?_
      refine pt_19_18 X w w_fl_Mo_70 d_Mo_begin_180 (fun μ20 H locs eμ20 w => ?_)
      have h := h μ20 eμ20
      refine lv_aload_n hx hb d_Mo_begin_183 rfl (lv_at hl 0 rfl) ?_
      refine lv_iconst (v := 0) hx hb d_Mo_begin_184 (by decide) ?_
      refine pt_19_19 X w w_fl_Mo_73 d_Mo_begin_185 (fun μ21 H locs eμ21 w => ?_)
      have h := h μ21 eμ21
      refine lv_aload_n hx hb d_Mo_begin_188 rfl (lv_at hl 0 rfl) ?_
      refine lv_iconst (v := 0) hx hb d_Mo_begin_189 (by decide) ?_
      refine pt_19_20 X w w_fl_Mo_76 d_Mo_begin_190 (fun μ22 H locs eμ22 w => ?_)
      have h := h μ22 eμ22
      refine lv_aload_n hx hb d_Mo_begin_193 rfl (lv_at hl 0 rfl) ?_
      refine lv_iconst (v := 0) hx hb d_Mo_begin_194 (by decide) ?_
      refine pt_19_21 X w w_fl_Mo_79 d_Mo_begin_195 (fun μ23 H locs eμ23 w => ?_)
      have h := h μ23 eμ23
      refine lv_aload_n hx hb d_Mo_begin_198 rfl (lv_at hl 0 rfl) ?_
      refine lv_iconst (v := 0) hx hb d_Mo_begin_199 (by decide) ?_
      refine pt_19_22 X w w_fl_Mo_82 d_Mo_begin_200 (fun μ24 H locs eμ24 w => ?_)
      have h := h μ24 eμ24
      refine lv_aload_n hx hb d_Mo_begin_203 rfl (lv_at hl 0 rfl) ?_
      refine lv_iconst (v := 0) hx hb d_Mo_begin_204 (by decide) ?_
      refine pt_19_23 X w w_fl_Mo_85 d_Mo_begin_205 (fun μ25 H locs eμ25 w => ?_)
      have h := h μ25 eμ25
      refine lv_iconst (v := 1) hx hb d_Mo_begin_208 (by decide) ?_
      exact z_zret X hr hlk w (by decide) h d_Mo_begin_209
    · have h := h.2 c15
      refine lv_aload_n hx hb d_Mo_begin_144 rfl (lv_at hl 0 rfl) ?_
      refine gt_19_10 X w w_fl_Mo_29 d_Mo_begin_145 ?_
      refine lv_iload hx hb d_Mo_begin_148 (lv_at hl 1 rfl) ?_
      refine lv_iconst (v := (-1)) hx hb d_Mo_begin_150 (by decide) ?_
      obtain ⟨hi26, h⟩ := h
      refine as_26 X w hi26 d_Mo_begin_151 (fun μ27 H locs eμ27 w => ?_)
      have h := h μ27 eμ27
      obtain ⟨x28, ex28⟩ : ∃ y : Int32, y = x5 + 1 := ⟨_, rfl⟩
      have h := h x28 ex28
      refine lv_iinc (v := x28) (lv' := [(5, .int x28), (0, .ref (E.2.1 19))]) hx hb d_Mo_begin_152 hl (k := 1) rfl (by rw [ex28]; rfl) (by decide) rfl (fun ls hl => ?_)
      refine lv_goto (tgt := 137) hx hb d_Mo_begin_155 (by decide) ?_
      exact ih x28 μ27 _ _ _ h w (lv_sub hl [1, 0] rfl)

set_option maxHeartbeats 4000000 in
set_option maxRecDepth 100000 in
theorem L_Mo_begin_113 {p : Program} {l : Launch} {e : Env} {s : State} {m : MethodId} {args : Array Value} {below : List Frame} {meth : Method} {c : Code} {E : zE} (X : zX E p s m args c prog_8_method_3_code "BeatHeapModel" 6) (hr : meth.sig.returnType = (some .boolean)) (hlk : meth.locks = false) (K : Int32 → zM → Prop) : ∀ (n : Nat) (x5 : Int32) (μ : zM) (H : Heap) (locs : List Loc) (ls : Array Slot), F_Mo_begin_113 K n x5 μ → zW zwM E s μ H locs → lv_has ls 6 [(0, .ref (E.2.1 19)), (5, .int x5)] → W p l e { frames := 0, cells := 0, slots := 0, locals := 0 } s m args below meth c H locs 0 0 (MQ below (va_Qi K (zR zwM E) (zA E)) args s 0 0 (zA E)) (F0 m 113 ls []) := by
  have hx := X.1
  have hb := X.2.1
  intro n
  induction n with
  | zero => intro x5 μ H locs ls h; exact False.elim h
  | succ n ih =>
    intro x5 μ H locs ls h w hl
    refine lv_iload hx hb d_Mo_begin_113 (lv_at hl 1 rfl) ?_
    refine lv_bipush (v := 64) hx hb d_Mo_begin_115 (by decide) ?_
    refine lv_icmp_ge (tgt := 134) hx hb d_Mo_begin_117 (by decide) (fun c14 => ?_) (fun c14 => ?_)
    · have h := h.1 c14
      refine lv_iconst (v := 0) hx hb d_Mo_begin_134 (by decide) ?_
      refine lv_istore (lv' := [(5, .int (0 : Int32)), (0, .ref (E.2.1 19))]) hx hb d_Mo_begin_135 hl (by decide) rfl (fun ls hl => ?_)
      obtain ⟨n, h⟩ := h
      exact L_Mo_begin_137 X hr hlk K n (0 : Int32) μ _ _ _ h w (lv_sub hl [1, 0] rfl)
    · have h := h.2 c14
      refine lv_aload_n hx hb d_Mo_begin_120 rfl (lv_at hl 0 rfl) ?_
      refine gt_19_5 X w w_fl_Mo_13 d_Mo_begin_121 ?_
      refine lv_iload hx hb d_Mo_begin_124 (lv_at hl 1 rfl) ?_
      refine lv_iconst (v := (-1)) hx hb d_Mo_begin_126 (by decide) ?_
      obtain ⟨hi29, h⟩ := h
      refine as_21 X w hi29 d_Mo_begin_127 (fun μ30 H locs eμ30 w => ?_)
      have h := h μ30 eμ30
      obtain ⟨x31, ex31⟩ : ∃ y : Int32, y = x5 + 1 := ⟨_, rfl⟩
      have h := h x31 ex31
      refine lv_iinc (v := x31) (lv' := [(5, .int x31), (0, .ref (E.2.1 19))]) hx hb d_Mo_begin_128 hl (k := 1) rfl (by rw [ex31]; rfl) (by decide) rfl (fun ls hl => ?_)
      refine lv_goto (tgt := 113) hx hb d_Mo_begin_131 (by decide) ?_
      exact ih x31 μ30 _ _ _ h w (lv_sub hl [1, 0] rfl)

set_option maxHeartbeats 4000000 in
set_option maxRecDepth 100000 in
theorem L_Mo_begin_72 {p : Program} {l : Launch} {e : Env} {s : State} {m : MethodId} {args : Array Value} {below : List Frame} {meth : Method} {c : Code} {E : zE} (X : zX E p s m args c prog_8_method_3_code "BeatHeapModel" 6) (hr : meth.sig.returnType = (some .boolean)) (hlk : meth.locks = false) (K : Int32 → zM → Prop) : ∀ (n : Nat) (x5 : Int32) (μ : zM) (H : Heap) (locs : List Loc) (ls : Array Slot), F_Mo_begin_72 K n x5 μ → zW zwM E s μ H locs → lv_has ls 6 [(0, .ref (E.2.1 19)), (5, .int x5)] → W p l e { frames := 0, cells := 0, slots := 0, locals := 0 } s m args below meth c H locs 0 0 (MQ below (va_Qi K (zR zwM E) (zA E)) args s 0 0 (zA E)) (F0 m 72 ls []) := by
  have hx := X.1
  have hb := X.2.1
  intro n
  induction n with
  | zero => intro x5 μ H locs ls h; exact False.elim h
  | succ n ih =>
    intro x5 μ H locs ls h w hl
    refine lv_iload hx hb d_Mo_begin_72 (lv_at hl 1 rfl) ?_
    refine lv_sipush (v := 4096) hx hb d_Mo_begin_74 (by decide) ?_
    refine lv_icmp_ge (tgt := 110) hx hb d_Mo_begin_77 (by decide) (fun c13 => ?_) (fun c13 => ?_)
    · have h := h.1 c13
      refine lv_iconst (v := 0) hx hb d_Mo_begin_110 (by decide) ?_
      refine lv_istore (lv' := [(5, .int (0 : Int32)), (0, .ref (E.2.1 19))]) hx hb d_Mo_begin_111 hl (by decide) rfl (fun ls hl => ?_)
      obtain ⟨n, h⟩ := h
      exact L_Mo_begin_113 X hr hlk K n (0 : Int32) μ _ _ _ h w (lv_sub hl [1, 0] rfl)
    · have h := h.2 c13
      refine lv_aload_n hx hb d_Mo_begin_80 rfl (lv_at hl 0 rfl) ?_
      refine gt_19_4 X w w_fl_Mo_7 d_Mo_begin_81 ?_
      refine lv_iload hx hb d_Mo_begin_84 (lv_at hl 1 rfl) ?_
      refine lv_iconst (v := 0) hx hb d_Mo_begin_86 (by decide) ?_
      obtain ⟨hi32, h⟩ := h
      refine as_20 X w hi32 d_Mo_begin_87 (fun μ33 H locs eμ33 w => ?_)
      have h := h μ33 eμ33
      refine lv_aload_n hx hb d_Mo_begin_88 rfl (lv_at hl 0 rfl) ?_
      refine gt_19_6 X w w_fl_Mo_16 d_Mo_begin_89 ?_
      refine lv_iload hx hb d_Mo_begin_92 (lv_at hl 1 rfl) ?_
      refine lv_iconst (v := 0) hx hb d_Mo_begin_94 (by decide) ?_
      obtain ⟨hi34, h⟩ := h
      refine as_22 X w hi34 d_Mo_begin_95 (fun μ35 H locs eμ35 w => ?_)
      have h := h μ35 eμ35
      refine lv_aload_n hx hb d_Mo_begin_96 rfl (lv_at hl 0 rfl) ?_
      refine gt_19_7 X w w_fl_Mo_19 d_Mo_begin_97 ?_
      refine lv_iload hx hb d_Mo_begin_100 (lv_at hl 1 rfl) ?_
      refine lv_iconst (v := 0) hx hb d_Mo_begin_102 (by decide) ?_
      obtain ⟨hi36, h⟩ := h
      refine as_23 X w hi36 d_Mo_begin_103 (fun μ37 H locs eμ37 w => ?_)
      have h := h μ37 eμ37
      obtain ⟨x38, ex38⟩ : ∃ y : Int32, y = x5 + 1 := ⟨_, rfl⟩
      have h := h x38 ex38
      refine lv_iinc (v := x38) (lv' := [(5, .int x38), (0, .ref (E.2.1 19))]) hx hb d_Mo_begin_104 hl (k := 1) rfl (by rw [ex38]; rfl) (by decide) rfl (fun ls hl => ?_)
      refine lv_goto (tgt := 72) hx hb d_Mo_begin_107 (by decide) ?_
      exact ih x38 μ37 _ _ _ h w (lv_sub hl [1, 0] rfl)

set_option maxHeartbeats 4000000 in
set_option maxRecDepth 100000 in
theorem c_Mo_begin (l : Launch) (E : zE) (μ : zM) (a1 a2 a3 a4 : Int32) (K : Int32 → zM → Prop) (h : f_Mo_begin μ a1 a2 a3 a4 K) : Met l y_Mo_begin (Cond.code y_Mo_begin prog_8_method_3_code 6 (some .boolean) :: zT) { frames := 0, cells := 0, slots := 0, locals := 0 } (va_Pc [.ref (E.2.1 19), .int a1, .int a2, .int a3, .int a4] (zR zwM E μ)) (va_Qi K (zR zwM E) (zA E)) 0 0 (zA E) := by
  refine z_head (by decide) (Nat.le_of_ble_eq_true rfl) ?_
  intro p e s m below meth c X hr hlk w ls hl
  have X : zX E p s m _ c prog_8_method_3_code "BeatHeapModel" 6 := X
  have hx := X.1
  have hb := X.2.1
  have hl : lv_has ls 6 [(0, .ref (E.2.1 19)), (1, .int a1), (2, .int a2), (3, .int a3), (4, .int a4)] := hl
  unfold f_Mo_begin at h
  refine lv_iload_n hx hb d_Mo_begin_0 rfl (lv_at hl 1 rfl) ?_
  refine lv_iconst (v := 4) hx hb d_Mo_begin_1 (by decide) ?_
  refine lv_icmp_lt (tgt := 46) hx hb d_Mo_begin_2 (by decide) (fun c1 => ?_) (fun c1 => ?_)
  · have h := h.1 c1
    refine lv_iconst (v := 0) hx hb d_Mo_begin_46 (by decide) ?_
    exact z_zret X hr hlk w (by decide) h d_Mo_begin_47
  · have h := h.2 c1
    refine lv_iload_n hx hb d_Mo_begin_5 rfl (lv_at hl 1 rfl) ?_
    refine lv_bipush (v := 64) hx hb d_Mo_begin_6 (by decide) ?_
    refine lv_icmp_gt (tgt := 46) hx hb d_Mo_begin_8 (by decide) (fun c2 => ?_) (fun c2 => ?_)
    · have h := h.1 c2
      refine lv_iconst (v := 0) hx hb d_Mo_begin_46 (by decide) ?_
      exact z_zret X hr hlk w (by decide) h d_Mo_begin_47
    · have h := h.2 c2
      refine lv_iload_n hx hb d_Mo_begin_11 rfl (lv_at hl 2 rfl) ?_
      refine lv_iconst (v := 1) hx hb d_Mo_begin_12 (by decide) ?_
      refine lv_icmp_lt (tgt := 46) hx hb d_Mo_begin_13 (by decide) (fun c3 => ?_) (fun c3 => ?_)
      · have h := h.1 c3
        refine lv_iconst (v := 0) hx hb d_Mo_begin_46 (by decide) ?_
        exact z_zret X hr hlk w (by decide) h d_Mo_begin_47
      · have h := h.2 c3
        refine lv_iload_n hx hb d_Mo_begin_16 rfl (lv_at hl 2 rfl) ?_
        refine lv_sipush (v := 200) hx hb d_Mo_begin_17 (by decide) ?_
        refine lv_icmp_gt (tgt := 46) hx hb d_Mo_begin_20 (by decide) (fun c4 => ?_) (fun c4 => ?_)
        · have h := h.1 c4
          refine lv_iconst (v := 0) hx hb d_Mo_begin_46 (by decide) ?_
          exact z_zret X hr hlk w (by decide) h d_Mo_begin_47
        · have h := h.2 c4
          refine lv_iload_n hx hb d_Mo_begin_23 rfl (lv_at hl 3 rfl) ?_
          refine lv_iconst (v := 1) hx hb d_Mo_begin_24 (by decide) ?_
          refine lv_icmp_lt (tgt := 46) hx hb d_Mo_begin_25 (by decide) (fun c5 => ?_) (fun c5 => ?_)
          · have h := h.1 c5
            refine lv_iconst (v := 0) hx hb d_Mo_begin_46 (by decide) ?_
            exact z_zret X hr hlk w (by decide) h d_Mo_begin_47
          · have h := h.2 c5
            refine lv_iload_n hx hb d_Mo_begin_28 rfl (lv_at hl 3 rfl) ?_
            refine lv_sipush (v := 200) hx hb d_Mo_begin_29 (by decide) ?_
            refine lv_icmp_gt (tgt := 46) hx hb d_Mo_begin_32 (by decide) (fun c6 => ?_) (fun c6 => ?_)
            · have h := h.1 c6
              refine lv_iconst (v := 0) hx hb d_Mo_begin_46 (by decide) ?_
              exact z_zret X hr hlk w (by decide) h d_Mo_begin_47
            · have h := h.2 c6
              refine lv_iload hx hb d_Mo_begin_35 (lv_at hl 4 rfl) ?_
              refine lv_if_lt (tgt := 46) hx hb d_Mo_begin_37 (by decide) (fun c7 => ?_) (fun c7 => ?_)
              · have h := h.1 c7
                refine lv_iconst (v := 0) hx hb d_Mo_begin_46 (by decide) ?_
                exact z_zret X hr hlk w (by decide) h d_Mo_begin_47
              · have h := h.2 c7
                refine lv_iload hx hb d_Mo_begin_40 (lv_at hl 4 rfl) ?_
                refine lv_iload_n hx hb d_Mo_begin_42 rfl (lv_at hl 1 rfl) ?_
                refine lv_icmp_le (tgt := 48) hx hb d_Mo_begin_43 (by decide) (fun c8 => ?_) (fun c8 => ?_)
                · have h := h.1 c8
                  refine lv_aload_n hx hb d_Mo_begin_48 rfl (lv_at hl 0 rfl) ?_
                  refine lv_iload_n hx hb d_Mo_begin_49 rfl (lv_at hl 1 rfl) ?_
                  refine pt_19_0 X w w_fl_Mo_45 d_Mo_begin_50 (fun μ9 H locs eμ9 w => ?_)
                  have h := h μ9 eμ9
                  refine lv_aload_n hx hb d_Mo_begin_53 rfl (lv_at hl 0 rfl) ?_
                  refine lv_iload_n hx hb d_Mo_begin_54 rfl (lv_at hl 2 rfl) ?_
                  refine pt_19_1 X w w_fl_Mo_49 d_Mo_begin_55 (fun μ10 H locs eμ10 w => ?_)
                  have h := h μ10 eμ10
                  refine lv_aload_n hx hb d_Mo_begin_58 rfl (lv_at hl 0 rfl) ?_
                  refine lv_iload_n hx hb d_Mo_begin_59 rfl (lv_at hl 3 rfl) ?_
                  refine pt_19_2 X w w_fl_Mo_52 d_Mo_begin_60 (fun μ11 H locs eμ11 w => ?_)
                  have h := h μ11 eμ11
                  refine lv_aload_n hx hb d_Mo_begin_63 rfl (lv_at hl 0 rfl) ?_
                  refine lv_iload hx hb d_Mo_begin_64 (lv_at hl 4 rfl) ?_
                  refine pt_19_3 X w w_fl_Mo_55 d_Mo_begin_66 (fun μ12 H locs eμ12 w => ?_)
                  have h := h μ12 eμ12
                  refine lv_iconst (v := 0) hx hb d_Mo_begin_69 (by decide) ?_
                  refine lv_istore (lv' := [(5, .int (0 : Int32)), (0, .ref (E.2.1 19)), (1, .int a1), (2, .int a2), (3, .int a3), (4, .int a4)]) hx hb d_Mo_begin_70 hl (by decide) rfl (fun ls hl => ?_)
                  obtain ⟨n, h⟩ := h
                  exact L_Mo_begin_72 X hr hlk K n (0 : Int32) μ12 _ _ _ h w (lv_sub hl [1, 0] rfl)
                · have h := h.2 c8
                  refine lv_iconst (v := 0) hx hb d_Mo_begin_46 (by decide) ?_
                  exact z_zret X hr hlk w (by decide) h d_Mo_begin_47
theorem q_Mo_isRoot : (y_Mo_isRoot.cls ≠ "java/lang/invoke/MethodHandle" ∧ y_Mo_isRoot.cls ≠ "java/lang/invoke/VarHandle") ∧ (parseMethodDescriptor y_Mo_isRoot.desc).map (fun d => d.parameters.length) = some 1 := by decide +kernel
theorem d_Mo_isRoot_0 : decode prog_8_method_20_code 0 = .ok (.iload_n 0, 1) := by decide +kernel
theorem d_Mo_isRoot_1 : decode prog_8_method_20_code 1 = .ok (.ifCond .lt 13, 3) := by decide +kernel
theorem d_Mo_isRoot_4 : decode prog_8_method_20_code 4 = .ok (.iload_n 0, 1) := by decide +kernel
theorem d_Mo_isRoot_5 : decode prog_8_method_20_code 5 = .ok (.bipush 16, 2) := by decide +kernel
theorem d_Mo_isRoot_7 : decode prog_8_method_20_code 7 = .ok (.if_icmp .ge 7, 3) := by decide +kernel
theorem d_Mo_isRoot_10 : decode prog_8_method_20_code 10 = .ok (.iconst 1, 1) := by decide +kernel
theorem d_Mo_isRoot_11 : decode prog_8_method_20_code 11 = .ok (.goto 4, 3) := by decide +kernel
theorem d_Mo_isRoot_14 : decode prog_8_method_20_code 14 = .ok (.iconst 0, 1) := by decide +kernel
theorem d_Mo_isRoot_15 : decode prog_8_method_20_code 15 = .ok (.ireturn, 1) := by decide +kernel
def f_Mo_isRoot (μ : zM) (a0 : Int32) (K : Int32 → zM → Prop) : Prop := (a0 < 0 → (K (0 : Int32) μ)) ∧ (¬ a0 < 0 → (((16 : Int32) ≤ a0 → (K (0 : Int32) μ)) ∧ (¬ (16 : Int32) ≤ a0 → (K (1 : Int32) μ))))
set_option maxHeartbeats 4000000 in
set_option maxRecDepth 100000 in
theorem c_Mo_isRoot (l : Launch) (E : zE) (μ : zM) (a0 : Int32) (K : Int32 → zM → Prop) (h : f_Mo_isRoot μ a0 K) : Met l y_Mo_isRoot (Cond.code y_Mo_isRoot prog_8_method_20_code 1 (some .boolean) :: zT) { frames := 0, cells := 0, slots := 0, locals := 0 } (va_Pc [.int a0] (zR zwM E μ)) (va_Qi K (zR zwM E) (zA E)) 0 0 (zA E) := by
  refine z_head (by decide) (Nat.le_of_ble_eq_true rfl) ?_
  intro p e s m below meth c X hr hlk w ls hl
  have X : zX E p s m _ c prog_8_method_20_code "BeatHeapModel" 1 := X
  have hx := X.1
  have hb := X.2.1
  have hl : lv_has ls 1 [(0, .int a0)] := hl
  unfold f_Mo_isRoot at h
  refine lv_iload_n hx hb d_Mo_isRoot_0 rfl (lv_at hl 0 rfl) ?_
  refine lv_if_lt (tgt := 14) hx hb d_Mo_isRoot_1 (by decide) (fun c1 => ?_) (fun c1 => ?_)
  · have h := h.1 c1
    refine lv_iconst (v := 0) hx hb d_Mo_isRoot_14 (by decide) ?_
    exact z_zret X hr hlk w (by decide) h d_Mo_isRoot_15
  · have h := h.2 c1
    refine lv_iload_n hx hb d_Mo_isRoot_4 rfl (lv_at hl 0 rfl) ?_
    refine lv_bipush (v := 16) hx hb d_Mo_isRoot_5 (by decide) ?_
    refine lv_icmp_ge (tgt := 14) hx hb d_Mo_isRoot_7 (by decide) (fun c2 => ?_) (fun c2 => ?_)
    · have h := h.1 c2
      refine lv_iconst (v := 0) hx hb d_Mo_isRoot_14 (by decide) ?_
      exact z_zret X hr hlk w (by decide) h d_Mo_isRoot_15
    · have h := h.2 c2
      refine lv_iconst (v := 1) hx hb d_Mo_isRoot_10 (by decide) ?_
      refine lv_goto (tgt := 15) hx hb d_Mo_isRoot_11 (by decide) ?_
      exact z_zret X hr hlk w (by decide) h d_Mo_isRoot_15
theorem q_Mo_sizeOf : (y_Mo_sizeOf.cls ≠ "java/lang/invoke/MethodHandle" ∧ y_Mo_sizeOf.cls ≠ "java/lang/invoke/VarHandle") ∧ (parseMethodDescriptor y_Mo_sizeOf.desc).map (fun d => d.parameters.length) = some 1 := by decide +kernel
theorem d_Mo_sizeOf_0 : decode prog_8_method_4_code 0 = .ok (.iconst 4, 1) := by decide +kernel
theorem d_Mo_sizeOf_1 : decode prog_8_method_4_code 1 = .ok (.iload_n 0, 1) := by decide +kernel
theorem d_Mo_sizeOf_2 : decode prog_8_method_4_code 2 = .ok (.ishl, 1) := by decide +kernel
theorem d_Mo_sizeOf_3 : decode prog_8_method_4_code 3 = .ok (.ireturn, 1) := by decide +kernel
def f_Mo_sizeOf (μ : zM) (a0 : Int32) (K : Int32 → zM → Prop) : Prop := K ((4 : Int32) <<< (a0 &&& 31)) μ
set_option maxHeartbeats 4000000 in
set_option maxRecDepth 100000 in
theorem c_Mo_sizeOf (l : Launch) (E : zE) (μ : zM) (a0 : Int32) (K : Int32 → zM → Prop) (h : f_Mo_sizeOf μ a0 K) : Met l y_Mo_sizeOf (Cond.code y_Mo_sizeOf prog_8_method_4_code 1 (some .int) :: zT) { frames := 0, cells := 0, slots := 0, locals := 0 } (va_Pc [.int a0] (zR zwM E μ)) (va_Qi K (zR zwM E) (zA E)) 0 0 (zA E) := by
  refine z_head (by decide) (Nat.le_of_ble_eq_true rfl) ?_
  intro p e s m below meth c X hr hlk w ls hl
  have X : zX E p s m _ c prog_8_method_4_code "BeatHeapModel" 1 := X
  have hx := X.1
  have hb := X.2.1
  have hl : lv_has ls 1 [(0, .int a0)] := hl
  unfold f_Mo_sizeOf at h
  refine lv_iconst (v := 4) hx hb d_Mo_sizeOf_0 (by decide) ?_
  refine lv_iload_n hx hb d_Mo_sizeOf_1 rfl (lv_at hl 0 rfl) ?_
  refine lv_ishl hx hb d_Mo_sizeOf_2 ?_
  exact z_iret X hr hlk w h d_Mo_sizeOf_3
theorem q_Mo_classFor : (y_Mo_classFor.cls ≠ "java/lang/invoke/MethodHandle" ∧ y_Mo_classFor.cls ≠ "java/lang/invoke/VarHandle") ∧ (parseMethodDescriptor y_Mo_classFor.desc).map (fun d => d.parameters.length) = some 1 := by decide +kernel
theorem d_Mo_classFor_0 : decode prog_8_method_5_code 0 = .ok (.iconst 0, 1) := by decide +kernel
theorem d_Mo_classFor_1 : decode prog_8_method_5_code 1 = .ok (.istore_n 1, 1) := by decide +kernel
theorem d_Mo_classFor_2 : decode prog_8_method_5_code 2 = .ok (.iload_n 1, 1) := by decide +kernel
theorem d_Mo_classFor_3 : decode prog_8_method_5_code 3 = .ok (.invokestatic 88, 3) := by decide +kernel
theorem d_Mo_classFor_6 : decode prog_8_method_5_code 6 = .ok (.iload_n 0, 1) := by decide +kernel
theorem d_Mo_classFor_7 : decode prog_8_method_5_code 7 = .ok (.if_icmp .ge 9, 3) := by decide +kernel
theorem d_Mo_classFor_10 : decode prog_8_method_5_code 10 = .ok (.iinc 1 1, 3) := by decide +kernel
theorem d_Mo_classFor_13 : decode prog_8_method_5_code 13 = .ok (.goto (-11), 3) := by decide +kernel
theorem d_Mo_classFor_16 : decode prog_8_method_5_code 16 = .ok (.iload_n 1, 1) := by decide +kernel
theorem d_Mo_classFor_17 : decode prog_8_method_5_code 17 = .ok (.ireturn, 1) := by decide +kernel
noncomputable def F_Mo_classFor_2 (K : Int32 → zM → Prop) (n : Nat) : Int32 → Int32 → zM → Prop := Nat.rec (motive := fun _ => Int32 → Int32 → zM → Prop) (fun _ _ _ => False) (fun _ ih x0 x1 μ => f_Mo_sizeOf μ x1 (fun r2 μ1 => ((x0 ≤ r2 → (K x1 μ1)) ∧ (¬ x0 ≤ r2 → (∀ x4 : Int32, x4 = x1 + 1 → (ih x0 x4 μ1)))))) n
def f_Mo_classFor (μ : zM) (a0 : Int32) (K : Int32 → zM → Prop) : Prop := ∃ n : Nat, F_Mo_classFor_2 K n a0 (0 : Int32) μ
set_option maxHeartbeats 4000000 in
set_option maxRecDepth 100000 in
theorem L_Mo_classFor_2 {p : Program} {l : Launch} {e : Env} {s : State} {m : MethodId} {args : Array Value} {below : List Frame} {meth : Method} {c : Code} {E : zE} (X : zX E p s m args c prog_8_method_5_code "BeatHeapModel" 2) (hr : meth.sig.returnType = (some .int)) (hlk : meth.locks = false) (K : Int32 → zM → Prop) : ∀ (n : Nat) (x0 x1 : Int32) (μ : zM) (H : Heap) (locs : List Loc) (ls : Array Slot), F_Mo_classFor_2 K n x0 x1 μ → zW zwM E s μ H locs → lv_has ls 2 [(0, .int x0), (1, .int x1)] → W p l e { frames := 1, cells := 0, slots := 0, locals := 20 } s m args below meth c H locs 0 0 (MQ below (va_Qi K (zR zwM E) (zA E)) args s 0 0 (zA E)) (F0 m 2 ls []) := by
  have hx := X.1
  have hb := X.2.1
  intro n
  induction n with
  | zero => intro x0 x1 μ H locs ls h; exact False.elim h
  | succ n ih =>
    intro x0 x1 μ H locs ls h w hl
    have h : (fun ih : Int32 → Int32 → zM → Prop => f_Mo_sizeOf μ x1 (fun r2 μ1 => ((x0 ≤ r2 → (K x1 μ1)) ∧ (¬ x0 ≤ r2 → (∀ x4 : Int32, x4 = x1 + 1 → (ih x0 x4 μ1)))))) (F_Mo_classFor_2 K n) := h
    refine lv_iload_n hx hb d_Mo_classFor_2 rfl (lv_at hl 1 rfl) ?_
    refine z_cSi (As := [.int x1]) (rest := []) X w (c_Mo_sizeOf l E μ x1 _ h) w_ml_Mo_88 w_st_Mo_sizeOf w_in_Mo w_co_Mo_sizeOf q_Mo_sizeOf.1 q_Mo_sizeOf.2 rfl ⟨Nat.le_of_ble_eq_true rfl, Nat.le_of_ble_eq_true rfl⟩ ⟨Nat.zero_le _, Nat.zero_le _⟩ hl.1 rfl (Nat.le_of_ble_eq_true rfl) d_Mo_classFor_3 (fun r2 μ1 H locs h w => ?_)
    refine lv_iload_n hx hb d_Mo_classFor_6 rfl (lv_at hl 0 rfl) ?_
    refine lv_icmp_ge (tgt := 16) hx hb d_Mo_classFor_7 (by decide) (fun c3 => ?_) (fun c3 => ?_)
    · have h := h.1 c3
      refine lv_iload_n hx hb d_Mo_classFor_16 rfl (lv_at hl 1 rfl) ?_
      exact z_iret X hr hlk w h d_Mo_classFor_17
    · have h := h.2 c3
      obtain ⟨x4, ex4⟩ : ∃ y : Int32, y = x1 + 1 := ⟨_, rfl⟩
      have h := h x4 ex4
      refine lv_iinc (v := x4) (lv' := [(1, .int x4), (0, .int x0)]) hx hb d_Mo_classFor_10 hl (k := 1) rfl (by rw [ex4]; rfl) (by decide) rfl (fun ls hl => ?_)
      refine lv_goto (tgt := 2) hx hb d_Mo_classFor_13 (by decide) ?_
      exact ih x0 x4 μ1 _ _ _ h w (lv_sub hl [1, 0] rfl)

set_option maxHeartbeats 4000000 in
set_option maxRecDepth 100000 in
theorem c_Mo_classFor (l : Launch) (E : zE) (μ : zM) (a0 : Int32) (K : Int32 → zM → Prop) (h : f_Mo_classFor μ a0 K) : Met l y_Mo_classFor (Cond.code y_Mo_classFor prog_8_method_5_code 2 (some .int) :: zT) { frames := 1, cells := 0, slots := 0, locals := 20 } (va_Pc [.int a0] (zR zwM E μ)) (va_Qi K (zR zwM E) (zA E)) 0 0 (zA E) := by
  refine z_head (by decide) (Nat.le_of_ble_eq_true rfl) ?_
  intro p e s m below meth c X hr hlk w ls hl
  have X : zX E p s m _ c prog_8_method_5_code "BeatHeapModel" 2 := X
  have hx := X.1
  have hb := X.2.1
  have hl : lv_has ls 2 [(0, .int a0)] := hl
  unfold f_Mo_classFor at h
  refine lv_iconst (v := 0) hx hb d_Mo_classFor_0 (by decide) ?_
  refine lv_istore_n (lv' := [(1, .int (0 : Int32)), (0, .int a0)]) hx hb d_Mo_classFor_1 rfl hl (by decide) rfl (fun ls hl => ?_)
  obtain ⟨n, h⟩ := h
  exact L_Mo_classFor_2 X hr hlk K n a0 (0 : Int32) μ _ _ _ h w (lv_sub hl [1, 0] rfl)
