theorem q_Ar_fillI : (y_Ar_fillI.cls ≠ "java/lang/invoke/MethodHandle" ∧ y_Ar_fillI.cls ≠ "java/lang/invoke/VarHandle") ∧ (parseMethodDescriptor y_Ar_fillI.desc).map (fun d => d.parameters.length) = some 2 := by decide +kernel
theorem d_Ar_fillI_0 : decode prog_10_method_103_code 0 = .ok (.iconst 0, 1) := by decide +kernel
theorem d_Ar_fillI_1 : decode prog_10_method_103_code 1 = .ok (.istore_n 2, 1) := by decide +kernel
theorem d_Ar_fillI_2 : decode prog_10_method_103_code 2 = .ok (.aload_n 0, 1) := by decide +kernel
theorem d_Ar_fillI_3 : decode prog_10_method_103_code 3 = .ok (.arraylength, 1) := by decide +kernel
theorem d_Ar_fillI_4 : decode prog_10_method_103_code 4 = .ok (.istore_n 3, 1) := by decide +kernel
theorem d_Ar_fillI_5 : decode prog_10_method_103_code 5 = .ok (.iload_n 2, 1) := by decide +kernel
theorem d_Ar_fillI_6 : decode prog_10_method_103_code 6 = .ok (.iload_n 3, 1) := by decide +kernel
theorem d_Ar_fillI_7 : decode prog_10_method_103_code 7 = .ok (.if_icmp .ge 13, 3) := by decide +kernel
theorem d_Ar_fillI_10 : decode prog_10_method_103_code 10 = .ok (.aload_n 0, 1) := by decide +kernel
theorem d_Ar_fillI_11 : decode prog_10_method_103_code 11 = .ok (.iload_n 2, 1) := by decide +kernel
theorem d_Ar_fillI_12 : decode prog_10_method_103_code 12 = .ok (.iload_n 1, 1) := by decide +kernel
theorem d_Ar_fillI_13 : decode prog_10_method_103_code 13 = .ok (.iastore, 1) := by decide +kernel
theorem d_Ar_fillI_14 : decode prog_10_method_103_code 14 = .ok (.iinc 2 1, 3) := by decide +kernel
theorem d_Ar_fillI_17 : decode prog_10_method_103_code 17 = .ok (.goto (-12), 3) := by decide +kernel
theorem d_Ar_fillI_20 : decode prog_10_method_103_code 20 = .ok (.return_, 1) := by decide +kernel
noncomputable def F_Ar_fillI_14_5 (K : zM → Prop) (n : Nat) : Int32 → Int32 → Int32 → zM → Prop := Nat.rec (motive := fun _ => Int32 → Int32 → Int32 → zM → Prop) (fun _ _ _ _ => False) (fun _ ih x1 x2 x3 μ => (x3 ≤ x2 → (K μ)) ∧ (¬ x3 ≤ x2 → (vp_in x2 16 ∧ ∀ μ3 : zM, μ3 = zp μ 14 x2.toNatClampNeg x1 → (∀ x4 : Int32, x4 = x2 + 1 → (ih x1 x4 x3 μ3))))) n
def f_Ar_fillI_14 (μ : zM) (a1 : Int32) (K : zM → Prop) : Prop := ∃ n : Nat, F_Ar_fillI_14_5 K n a1 (0 : Int32) (16 : Int32) μ
set_option maxHeartbeats 4000000 in
set_option maxRecDepth 100000 in
theorem L_Ar_fillI_14_5 {p : Program} {l : Launch} {e : Env} {s : State} {m : MethodId} {args : Array Value} {below : List Frame} {meth : Method} {c : Code} {E : zE} (X : zX E p s m args c prog_10_method_103_code "java/util/Arrays" 4) (hr : meth.sig.returnType = none) (hlk : meth.locks = false) (K : zM → Prop) : ∀ (n : Nat) (x1 x2 x3 : Int32) (μ : zM) (H : Heap) (locs : List Loc) (ls : Array Slot), F_Ar_fillI_14_5 K n x1 x2 x3 μ → zW zwC E s μ H locs → lv_has ls 4 [(0, .ref (E.2.1 14)), (1, .int x1), (2, .int x2), (3, .int x3)] → W p l e { frames := 0, cells := 0, slots := 0, locals := 0 } s m args below meth c H locs 0 0 (MQ below (va_Qv K (zR zwC E) (zA E)) args s 0 0 (zA E)) (F0 m 5 ls []) := by
  have hx := X.1
  have hb := X.2.1
  intro n
  induction n with
  | zero => intro x1 x2 x3 μ H locs ls h; exact False.elim h
  | succ n ih =>
    intro x1 x2 x3 μ H locs ls h w hl
    refine lv_iload_n hx hb d_Ar_fillI_5 rfl (lv_at hl 2 rfl) ?_
    refine lv_iload_n hx hb d_Ar_fillI_6 rfl (lv_at hl 3 rfl) ?_
    refine lv_icmp_ge (tgt := 20) hx hb d_Ar_fillI_7 (by decide) (fun c1 => ?_) (fun c1 => ?_)
    · have h := h.1 c1
      exact z_vret X hr hlk w h d_Ar_fillI_20
    · have h := h.2 c1
      refine lv_aload_n hx hb d_Ar_fillI_10 rfl (lv_at hl 0 rfl) ?_
      refine lv_iload_n hx hb d_Ar_fillI_11 rfl (lv_at hl 2 rfl) ?_
      refine lv_iload_n hx hb d_Ar_fillI_12 rfl (lv_at hl 1 rfl) ?_
      obtain ⟨hi2, h⟩ := h
      refine as_14 X w hi2 d_Ar_fillI_13 (fun μ3 H locs eμ3 w => ?_)
      have h := h μ3 eμ3
      obtain ⟨x4, ex4⟩ : ∃ y : Int32, y = x2 + 1 := ⟨_, rfl⟩
      have h := h x4 ex4
      refine lv_iinc (v := x4) (lv' := [(2, .int x4), (0, .ref (E.2.1 14)), (1, .int x1), (3, .int x3)]) hx hb d_Ar_fillI_14 hl (k := 2) rfl (by rw [ex4]; rfl) (by decide) rfl (fun ls hl => ?_)
      refine lv_goto (tgt := 5) hx hb d_Ar_fillI_17 (by decide) ?_
      exact ih x1 x4 x3 μ3 _ _ _ h w (lv_sub hl [1, 2, 0, 3] rfl)

set_option maxHeartbeats 4000000 in
set_option maxRecDepth 100000 in
theorem c_Ar_fillI_14 (l : Launch) (E : zE) (μ : zM) (a1 : Int32) (K : zM → Prop) (h : f_Ar_fillI_14 μ a1 K) : Met l y_Ar_fillI (Cond.code y_Ar_fillI prog_10_method_103_code 4 none :: zT) { frames := 0, cells := 0, slots := 0, locals := 0 } (va_Pc [.ref (E.2.1 14), .int a1] (zR zwC E μ)) (va_Qv K (zR zwC E) (zA E)) 0 0 (zA E) := by
  refine z_head (by decide) (Nat.le_of_ble_eq_true rfl) ?_
  intro p e s m below meth c X hr hlk w ls hl
  have X : zX E p s m _ c prog_10_method_103_code "java/util/Arrays" 4 := X
  have hx := X.1
  have hb := X.2.1
  have hl : lv_has ls 4 [(0, .ref (E.2.1 14)), (1, .int a1)] := hl
  unfold f_Ar_fillI_14 at h
  refine lv_iconst (v := 0) hx hb d_Ar_fillI_0 (by decide) ?_
  refine lv_istore_n (lv' := [(2, .int (0 : Int32)), (0, .ref (E.2.1 14)), (1, .int a1)]) hx hb d_Ar_fillI_1 rfl hl (by decide) rfl (fun ls hl => ?_)
  refine lv_aload_n hx hb d_Ar_fillI_2 rfl (lv_at hl 1 rfl) ?_
  refine an_14 (v := 16) X w (by decide) d_Ar_fillI_3 ?_
  refine lv_istore_n (lv' := [(3, .int (16 : Int32)), (2, .int (0 : Int32)), (0, .ref (E.2.1 14)), (1, .int a1)]) hx hb d_Ar_fillI_4 rfl hl (by decide) rfl (fun ls hl => ?_)
  obtain ⟨n, h⟩ := h
  exact L_Ar_fillI_14_5 X hr hlk K n a1 (0 : Int32) (16 : Int32) μ _ _ _ h w (lv_sub hl [2, 3, 1, 0] rfl)
noncomputable def F_Ar_fillI_3_5 (K : zM → Prop) (n : Nat) : Int32 → Int32 → Int32 → zM → Prop := Nat.rec (motive := fun _ => Int32 → Int32 → Int32 → zM → Prop) (fun _ _ _ _ => False) (fun _ ih x1 x2 x3 μ => (x3 ≤ x2 → (K μ)) ∧ (¬ x3 ≤ x2 → (vp_in x2 4096 ∧ ∀ μ3 : zM, μ3 = zp μ 3 x2.toNatClampNeg x1 → (∀ x4 : Int32, x4 = x2 + 1 → (ih x1 x4 x3 μ3))))) n
def f_Ar_fillI_3 (μ : zM) (a1 : Int32) (K : zM → Prop) : Prop := ∃ n : Nat, F_Ar_fillI_3_5 K n a1 (0 : Int32) (4096 : Int32) μ
set_option maxHeartbeats 4000000 in
set_option maxRecDepth 100000 in
theorem L_Ar_fillI_3_5 {p : Program} {l : Launch} {e : Env} {s : State} {m : MethodId} {args : Array Value} {below : List Frame} {meth : Method} {c : Code} {E : zE} (X : zX E p s m args c prog_10_method_103_code "java/util/Arrays" 4) (hr : meth.sig.returnType = none) (hlk : meth.locks = false) (K : zM → Prop) : ∀ (n : Nat) (x1 x2 x3 : Int32) (μ : zM) (H : Heap) (locs : List Loc) (ls : Array Slot), F_Ar_fillI_3_5 K n x1 x2 x3 μ → zW zwC E s μ H locs → lv_has ls 4 [(0, .ref (E.2.1 3)), (1, .int x1), (2, .int x2), (3, .int x3)] → W p l e { frames := 0, cells := 0, slots := 0, locals := 0 } s m args below meth c H locs 0 0 (MQ below (va_Qv K (zR zwC E) (zA E)) args s 0 0 (zA E)) (F0 m 5 ls []) := by
  have hx := X.1
  have hb := X.2.1
  intro n
  induction n with
  | zero => intro x1 x2 x3 μ H locs ls h; exact False.elim h
  | succ n ih =>
    intro x1 x2 x3 μ H locs ls h w hl
    refine lv_iload_n hx hb d_Ar_fillI_5 rfl (lv_at hl 2 rfl) ?_
    refine lv_iload_n hx hb d_Ar_fillI_6 rfl (lv_at hl 3 rfl) ?_
    refine lv_icmp_ge (tgt := 20) hx hb d_Ar_fillI_7 (by decide) (fun c1 => ?_) (fun c1 => ?_)
    · have h := h.1 c1
      exact z_vret X hr hlk w h d_Ar_fillI_20
    · have h := h.2 c1
      refine lv_aload_n hx hb d_Ar_fillI_10 rfl (lv_at hl 0 rfl) ?_
      refine lv_iload_n hx hb d_Ar_fillI_11 rfl (lv_at hl 2 rfl) ?_
      refine lv_iload_n hx hb d_Ar_fillI_12 rfl (lv_at hl 1 rfl) ?_
      obtain ⟨hi2, h⟩ := h
      refine as_3 X w hi2 d_Ar_fillI_13 (fun μ3 H locs eμ3 w => ?_)
      have h := h μ3 eμ3
      obtain ⟨x4, ex4⟩ : ∃ y : Int32, y = x2 + 1 := ⟨_, rfl⟩
      have h := h x4 ex4
      refine lv_iinc (v := x4) (lv' := [(2, .int x4), (0, .ref (E.2.1 3)), (1, .int x1), (3, .int x3)]) hx hb d_Ar_fillI_14 hl (k := 2) rfl (by rw [ex4]; rfl) (by decide) rfl (fun ls hl => ?_)
      refine lv_goto (tgt := 5) hx hb d_Ar_fillI_17 (by decide) ?_
      exact ih x1 x4 x3 μ3 _ _ _ h w (lv_sub hl [1, 2, 0, 3] rfl)

set_option maxHeartbeats 4000000 in
set_option maxRecDepth 100000 in
theorem c_Ar_fillI_3 (l : Launch) (E : zE) (μ : zM) (a1 : Int32) (K : zM → Prop) (h : f_Ar_fillI_3 μ a1 K) : Met l y_Ar_fillI (Cond.code y_Ar_fillI prog_10_method_103_code 4 none :: zT) { frames := 0, cells := 0, slots := 0, locals := 0 } (va_Pc [.ref (E.2.1 3), .int a1] (zR zwC E μ)) (va_Qv K (zR zwC E) (zA E)) 0 0 (zA E) := by
  refine z_head (by decide) (Nat.le_of_ble_eq_true rfl) ?_
  intro p e s m below meth c X hr hlk w ls hl
  have X : zX E p s m _ c prog_10_method_103_code "java/util/Arrays" 4 := X
  have hx := X.1
  have hb := X.2.1
  have hl : lv_has ls 4 [(0, .ref (E.2.1 3)), (1, .int a1)] := hl
  unfold f_Ar_fillI_3 at h
  refine lv_iconst (v := 0) hx hb d_Ar_fillI_0 (by decide) ?_
  refine lv_istore_n (lv' := [(2, .int (0 : Int32)), (0, .ref (E.2.1 3)), (1, .int a1)]) hx hb d_Ar_fillI_1 rfl hl (by decide) rfl (fun ls hl => ?_)
  refine lv_aload_n hx hb d_Ar_fillI_2 rfl (lv_at hl 1 rfl) ?_
  refine an_3 (v := 4096) X w (by decide) d_Ar_fillI_3 ?_
  refine lv_istore_n (lv' := [(3, .int (4096 : Int32)), (2, .int (0 : Int32)), (0, .ref (E.2.1 3)), (1, .int a1)]) hx hb d_Ar_fillI_4 rfl hl (by decide) rfl (fun ls hl => ?_)
  obtain ⟨n, h⟩ := h
  exact L_Ar_fillI_3_5 X hr hlk K n a1 (0 : Int32) (4096 : Int32) μ _ _ _ h w (lv_sub hl [2, 3, 1, 0] rfl)
theorem q_Ar_fillB : (y_Ar_fillB.cls ≠ "java/lang/invoke/MethodHandle" ∧ y_Ar_fillB.cls ≠ "java/lang/invoke/VarHandle") ∧ (parseMethodDescriptor y_Ar_fillB.desc).map (fun d => d.parameters.length) = some 2 := by decide +kernel
theorem d_Ar_fillB_0 : decode prog_10_method_109_code 0 = .ok (.iconst 0, 1) := by decide +kernel
theorem d_Ar_fillB_1 : decode prog_10_method_109_code 1 = .ok (.istore_n 2, 1) := by decide +kernel
theorem d_Ar_fillB_2 : decode prog_10_method_109_code 2 = .ok (.aload_n 0, 1) := by decide +kernel
theorem d_Ar_fillB_3 : decode prog_10_method_109_code 3 = .ok (.arraylength, 1) := by decide +kernel
theorem d_Ar_fillB_4 : decode prog_10_method_109_code 4 = .ok (.istore_n 3, 1) := by decide +kernel
theorem d_Ar_fillB_5 : decode prog_10_method_109_code 5 = .ok (.iload_n 2, 1) := by decide +kernel
theorem d_Ar_fillB_6 : decode prog_10_method_109_code 6 = .ok (.iload_n 3, 1) := by decide +kernel
theorem d_Ar_fillB_7 : decode prog_10_method_109_code 7 = .ok (.if_icmp .ge 13, 3) := by decide +kernel
theorem d_Ar_fillB_10 : decode prog_10_method_109_code 10 = .ok (.aload_n 0, 1) := by decide +kernel
theorem d_Ar_fillB_11 : decode prog_10_method_109_code 11 = .ok (.iload_n 2, 1) := by decide +kernel
theorem d_Ar_fillB_12 : decode prog_10_method_109_code 12 = .ok (.iload_n 1, 1) := by decide +kernel
theorem d_Ar_fillB_13 : decode prog_10_method_109_code 13 = .ok (.bastore, 1) := by decide +kernel
theorem d_Ar_fillB_14 : decode prog_10_method_109_code 14 = .ok (.iinc 2 1, 3) := by decide +kernel
theorem d_Ar_fillB_17 : decode prog_10_method_109_code 17 = .ok (.goto (-12), 3) := by decide +kernel
theorem d_Ar_fillB_20 : decode prog_10_method_109_code 20 = .ok (.return_, 1) := by decide +kernel
noncomputable def F_Ar_fillB_4_5 (K : zM → Prop) (n : Nat) : Int32 → Int32 → Int32 → zM → Prop := Nat.rec (motive := fun _ => Int32 → Int32 → Int32 → zM → Prop) (fun _ _ _ _ => False) (fun _ ih x1 x2 x3 μ => (x3 ≤ x2 → (K μ)) ∧ (¬ x3 ≤ x2 → (vp_in x2 1024 ∧ ∀ μ3 : zM, μ3 = zp μ 4 x2.toNatClampNeg (vp_nar .byte x1) → (∀ x4 : Int32, x4 = x2 + 1 → (ih x1 x4 x3 μ3))))) n
def f_Ar_fillB_4 (μ : zM) (a1 : Int32) (K : zM → Prop) : Prop := ∃ n : Nat, F_Ar_fillB_4_5 K n a1 (0 : Int32) (1024 : Int32) μ
set_option maxHeartbeats 4000000 in
set_option maxRecDepth 100000 in
theorem L_Ar_fillB_4_5 {p : Program} {l : Launch} {e : Env} {s : State} {m : MethodId} {args : Array Value} {below : List Frame} {meth : Method} {c : Code} {E : zE} (X : zX E p s m args c prog_10_method_109_code "java/util/Arrays" 4) (hr : meth.sig.returnType = none) (hlk : meth.locks = false) (K : zM → Prop) : ∀ (n : Nat) (x1 x2 x3 : Int32) (μ : zM) (H : Heap) (locs : List Loc) (ls : Array Slot), F_Ar_fillB_4_5 K n x1 x2 x3 μ → zW zwC E s μ H locs → lv_has ls 4 [(0, .ref (E.2.1 4)), (1, .int x1), (2, .int x2), (3, .int x3)] → W p l e { frames := 0, cells := 0, slots := 0, locals := 0 } s m args below meth c H locs 0 0 (MQ below (va_Qv K (zR zwC E) (zA E)) args s 0 0 (zA E)) (F0 m 5 ls []) := by
  have hx := X.1
  have hb := X.2.1
  intro n
  induction n with
  | zero => intro x1 x2 x3 μ H locs ls h; exact False.elim h
  | succ n ih =>
    intro x1 x2 x3 μ H locs ls h w hl
    refine lv_iload_n hx hb d_Ar_fillB_5 rfl (lv_at hl 2 rfl) ?_
    refine lv_iload_n hx hb d_Ar_fillB_6 rfl (lv_at hl 3 rfl) ?_
    refine lv_icmp_ge (tgt := 20) hx hb d_Ar_fillB_7 (by decide) (fun c1 => ?_) (fun c1 => ?_)
    · have h := h.1 c1
      exact z_vret X hr hlk w h d_Ar_fillB_20
    · have h := h.2 c1
      refine lv_aload_n hx hb d_Ar_fillB_10 rfl (lv_at hl 0 rfl) ?_
      refine lv_iload_n hx hb d_Ar_fillB_11 rfl (lv_at hl 2 rfl) ?_
      refine lv_iload_n hx hb d_Ar_fillB_12 rfl (lv_at hl 1 rfl) ?_
      obtain ⟨hi2, h⟩ := h
      refine as_4 X w hi2 d_Ar_fillB_13 (fun μ3 H locs eμ3 w => ?_)
      have h := h μ3 eμ3
      obtain ⟨x4, ex4⟩ : ∃ y : Int32, y = x2 + 1 := ⟨_, rfl⟩
      have h := h x4 ex4
      refine lv_iinc (v := x4) (lv' := [(2, .int x4), (0, .ref (E.2.1 4)), (1, .int x1), (3, .int x3)]) hx hb d_Ar_fillB_14 hl (k := 2) rfl (by rw [ex4]; rfl) (by decide) rfl (fun ls hl => ?_)
      refine lv_goto (tgt := 5) hx hb d_Ar_fillB_17 (by decide) ?_
      exact ih x1 x4 x3 μ3 _ _ _ h w (lv_sub hl [1, 2, 0, 3] rfl)

set_option maxHeartbeats 4000000 in
set_option maxRecDepth 100000 in
theorem c_Ar_fillB_4 (l : Launch) (E : zE) (μ : zM) (a1 : Int32) (K : zM → Prop) (h : f_Ar_fillB_4 μ a1 K) : Met l y_Ar_fillB (Cond.code y_Ar_fillB prog_10_method_109_code 4 none :: zT) { frames := 0, cells := 0, slots := 0, locals := 0 } (va_Pc [.ref (E.2.1 4), .int a1] (zR zwC E μ)) (va_Qv K (zR zwC E) (zA E)) 0 0 (zA E) := by
  refine z_head (by decide) (Nat.le_of_ble_eq_true rfl) ?_
  intro p e s m below meth c X hr hlk w ls hl
  have X : zX E p s m _ c prog_10_method_109_code "java/util/Arrays" 4 := X
  have hx := X.1
  have hb := X.2.1
  have hl : lv_has ls 4 [(0, .ref (E.2.1 4)), (1, .int a1)] := hl
  unfold f_Ar_fillB_4 at h
  refine lv_iconst (v := 0) hx hb d_Ar_fillB_0 (by decide) ?_
  refine lv_istore_n (lv' := [(2, .int (0 : Int32)), (0, .ref (E.2.1 4)), (1, .int a1)]) hx hb d_Ar_fillB_1 rfl hl (by decide) rfl (fun ls hl => ?_)
  refine lv_aload_n hx hb d_Ar_fillB_2 rfl (lv_at hl 1 rfl) ?_
  refine an_4 (v := 1024) X w (by decide) d_Ar_fillB_3 ?_
  refine lv_istore_n (lv' := [(3, .int (1024 : Int32)), (2, .int (0 : Int32)), (0, .ref (E.2.1 4)), (1, .int a1)]) hx hb d_Ar_fillB_4 rfl hl (by decide) rfl (fun ls hl => ?_)
  obtain ⟨n, h⟩ := h
  exact L_Ar_fillB_4_5 X hr hlk K n a1 (0 : Int32) (1024 : Int32) μ _ _ _ h w (lv_sub hl [2, 3, 1, 0] rfl)
noncomputable def F_Ar_fillB_5_5 (K : zM → Prop) (n : Nat) : Int32 → Int32 → Int32 → zM → Prop := Nat.rec (motive := fun _ => Int32 → Int32 → Int32 → zM → Prop) (fun _ _ _ _ => False) (fun _ ih x1 x2 x3 μ => (x3 ≤ x2 → (K μ)) ∧ (¬ x3 ≤ x2 → (vp_in x2 1024 ∧ ∀ μ3 : zM, μ3 = zp μ 5 x2.toNatClampNeg (vp_nar .byte x1) → (∀ x4 : Int32, x4 = x2 + 1 → (ih x1 x4 x3 μ3))))) n
def f_Ar_fillB_5 (μ : zM) (a1 : Int32) (K : zM → Prop) : Prop := ∃ n : Nat, F_Ar_fillB_5_5 K n a1 (0 : Int32) (1024 : Int32) μ
set_option maxHeartbeats 4000000 in
set_option maxRecDepth 100000 in
theorem L_Ar_fillB_5_5 {p : Program} {l : Launch} {e : Env} {s : State} {m : MethodId} {args : Array Value} {below : List Frame} {meth : Method} {c : Code} {E : zE} (X : zX E p s m args c prog_10_method_109_code "java/util/Arrays" 4) (hr : meth.sig.returnType = none) (hlk : meth.locks = false) (K : zM → Prop) : ∀ (n : Nat) (x1 x2 x3 : Int32) (μ : zM) (H : Heap) (locs : List Loc) (ls : Array Slot), F_Ar_fillB_5_5 K n x1 x2 x3 μ → zW zwC E s μ H locs → lv_has ls 4 [(0, .ref (E.2.1 5)), (1, .int x1), (2, .int x2), (3, .int x3)] → W p l e { frames := 0, cells := 0, slots := 0, locals := 0 } s m args below meth c H locs 0 0 (MQ below (va_Qv K (zR zwC E) (zA E)) args s 0 0 (zA E)) (F0 m 5 ls []) := by
  have hx := X.1
  have hb := X.2.1
  intro n
  induction n with
  | zero => intro x1 x2 x3 μ H locs ls h; exact False.elim h
  | succ n ih =>
    intro x1 x2 x3 μ H locs ls h w hl
    refine lv_iload_n hx hb d_Ar_fillB_5 rfl (lv_at hl 2 rfl) ?_
    refine lv_iload_n hx hb d_Ar_fillB_6 rfl (lv_at hl 3 rfl) ?_
    refine lv_icmp_ge (tgt := 20) hx hb d_Ar_fillB_7 (by decide) (fun c1 => ?_) (fun c1 => ?_)
    · have h := h.1 c1
      exact z_vret X hr hlk w h d_Ar_fillB_20
    · have h := h.2 c1
      refine lv_aload_n hx hb d_Ar_fillB_10 rfl (lv_at hl 0 rfl) ?_
      refine lv_iload_n hx hb d_Ar_fillB_11 rfl (lv_at hl 2 rfl) ?_
      refine lv_iload_n hx hb d_Ar_fillB_12 rfl (lv_at hl 1 rfl) ?_
      obtain ⟨hi2, h⟩ := h
      refine as_5 X w hi2 d_Ar_fillB_13 (fun μ3 H locs eμ3 w => ?_)
      have h := h μ3 eμ3
      obtain ⟨x4, ex4⟩ : ∃ y : Int32, y = x2 + 1 := ⟨_, rfl⟩
      have h := h x4 ex4
      refine lv_iinc (v := x4) (lv' := [(2, .int x4), (0, .ref (E.2.1 5)), (1, .int x1), (3, .int x3)]) hx hb d_Ar_fillB_14 hl (k := 2) rfl (by rw [ex4]; rfl) (by decide) rfl (fun ls hl => ?_)
      refine lv_goto (tgt := 5) hx hb d_Ar_fillB_17 (by decide) ?_
      exact ih x1 x4 x3 μ3 _ _ _ h w (lv_sub hl [1, 2, 0, 3] rfl)

set_option maxHeartbeats 4000000 in
set_option maxRecDepth 100000 in
theorem c_Ar_fillB_5 (l : Launch) (E : zE) (μ : zM) (a1 : Int32) (K : zM → Prop) (h : f_Ar_fillB_5 μ a1 K) : Met l y_Ar_fillB (Cond.code y_Ar_fillB prog_10_method_109_code 4 none :: zT) { frames := 0, cells := 0, slots := 0, locals := 0 } (va_Pc [.ref (E.2.1 5), .int a1] (zR zwC E μ)) (va_Qv K (zR zwC E) (zA E)) 0 0 (zA E) := by
  refine z_head (by decide) (Nat.le_of_ble_eq_true rfl) ?_
  intro p e s m below meth c X hr hlk w ls hl
  have X : zX E p s m _ c prog_10_method_109_code "java/util/Arrays" 4 := X
  have hx := X.1
  have hb := X.2.1
  have hl : lv_has ls 4 [(0, .ref (E.2.1 5)), (1, .int a1)] := hl
  unfold f_Ar_fillB_5 at h
  refine lv_iconst (v := 0) hx hb d_Ar_fillB_0 (by decide) ?_
  refine lv_istore_n (lv' := [(2, .int (0 : Int32)), (0, .ref (E.2.1 5)), (1, .int a1)]) hx hb d_Ar_fillB_1 rfl hl (by decide) rfl (fun ls hl => ?_)
  refine lv_aload_n hx hb d_Ar_fillB_2 rfl (lv_at hl 1 rfl) ?_
  refine an_5 (v := 1024) X w (by decide) d_Ar_fillB_3 ?_
  refine lv_istore_n (lv' := [(3, .int (1024 : Int32)), (2, .int (0 : Int32)), (0, .ref (E.2.1 5)), (1, .int a1)]) hx hb d_Ar_fillB_4 rfl hl (by decide) rfl (fun ls hl => ?_)
  obtain ⟨n, h⟩ := h
  exact L_Ar_fillB_5_5 X hr hlk K n a1 (0 : Int32) (1024 : Int32) μ _ _ _ h w (lv_sub hl [2, 3, 1, 0] rfl)
noncomputable def F_Ar_fillI_8_5 (K : zM → Prop) (n : Nat) : Int32 → Int32 → Int32 → zM → Prop := Nat.rec (motive := fun _ => Int32 → Int32 → Int32 → zM → Prop) (fun _ _ _ _ => False) (fun _ ih x1 x2 x3 μ => (x3 ≤ x2 → (K μ)) ∧ (¬ x3 ≤ x2 → (vp_in x2 64 ∧ ∀ μ3 : zM, μ3 = zp μ 8 x2.toNatClampNeg x1 → (∀ x4 : Int32, x4 = x2 + 1 → (ih x1 x4 x3 μ3))))) n
def f_Ar_fillI_8 (μ : zM) (a1 : Int32) (K : zM → Prop) : Prop := ∃ n : Nat, F_Ar_fillI_8_5 K n a1 (0 : Int32) (64 : Int32) μ
set_option maxHeartbeats 4000000 in
set_option maxRecDepth 100000 in
theorem L_Ar_fillI_8_5 {p : Program} {l : Launch} {e : Env} {s : State} {m : MethodId} {args : Array Value} {below : List Frame} {meth : Method} {c : Code} {E : zE} (X : zX E p s m args c prog_10_method_103_code "java/util/Arrays" 4) (hr : meth.sig.returnType = none) (hlk : meth.locks = false) (K : zM → Prop) : ∀ (n : Nat) (x1 x2 x3 : Int32) (μ : zM) (H : Heap) (locs : List Loc) (ls : Array Slot), F_Ar_fillI_8_5 K n x1 x2 x3 μ → zW zwC E s μ H locs → lv_has ls 4 [(0, .ref (E.2.1 8)), (1, .int x1), (2, .int x2), (3, .int x3)] → W p l e { frames := 0, cells := 0, slots := 0, locals := 0 } s m args below meth c H locs 0 0 (MQ below (va_Qv K (zR zwC E) (zA E)) args s 0 0 (zA E)) (F0 m 5 ls []) := by
  have hx := X.1
  have hb := X.2.1
  intro n
  induction n with
  | zero => intro x1 x2 x3 μ H locs ls h; exact False.elim h
  | succ n ih =>
    intro x1 x2 x3 μ H locs ls h w hl
    refine lv_iload_n hx hb d_Ar_fillI_5 rfl (lv_at hl 2 rfl) ?_
    refine lv_iload_n hx hb d_Ar_fillI_6 rfl (lv_at hl 3 rfl) ?_
    refine lv_icmp_ge (tgt := 20) hx hb d_Ar_fillI_7 (by decide) (fun c1 => ?_) (fun c1 => ?_)
    · have h := h.1 c1
      exact z_vret X hr hlk w h d_Ar_fillI_20
    · have h := h.2 c1
      refine lv_aload_n hx hb d_Ar_fillI_10 rfl (lv_at hl 0 rfl) ?_
      refine lv_iload_n hx hb d_Ar_fillI_11 rfl (lv_at hl 2 rfl) ?_
      refine lv_iload_n hx hb d_Ar_fillI_12 rfl (lv_at hl 1 rfl) ?_
      obtain ⟨hi2, h⟩ := h
      refine as_8 X w hi2 d_Ar_fillI_13 (fun μ3 H locs eμ3 w => ?_)
      have h := h μ3 eμ3
      obtain ⟨x4, ex4⟩ : ∃ y : Int32, y = x2 + 1 := ⟨_, rfl⟩
      have h := h x4 ex4
      refine lv_iinc (v := x4) (lv' := [(2, .int x4), (0, .ref (E.2.1 8)), (1, .int x1), (3, .int x3)]) hx hb d_Ar_fillI_14 hl (k := 2) rfl (by rw [ex4]; rfl) (by decide) rfl (fun ls hl => ?_)
      refine lv_goto (tgt := 5) hx hb d_Ar_fillI_17 (by decide) ?_
      exact ih x1 x4 x3 μ3 _ _ _ h w (lv_sub hl [1, 2, 0, 3] rfl)

set_option maxHeartbeats 4000000 in
set_option maxRecDepth 100000 in
theorem c_Ar_fillI_8 (l : Launch) (E : zE) (μ : zM) (a1 : Int32) (K : zM → Prop) (h : f_Ar_fillI_8 μ a1 K) : Met l y_Ar_fillI (Cond.code y_Ar_fillI prog_10_method_103_code 4 none :: zT) { frames := 0, cells := 0, slots := 0, locals := 0 } (va_Pc [.ref (E.2.1 8), .int a1] (zR zwC E μ)) (va_Qv K (zR zwC E) (zA E)) 0 0 (zA E) := by
  refine z_head (by decide) (Nat.le_of_ble_eq_true rfl) ?_
  intro p e s m below meth c X hr hlk w ls hl
  have X : zX E p s m _ c prog_10_method_103_code "java/util/Arrays" 4 := X
  have hx := X.1
  have hb := X.2.1
  have hl : lv_has ls 4 [(0, .ref (E.2.1 8)), (1, .int a1)] := hl
  unfold f_Ar_fillI_8 at h
  refine lv_iconst (v := 0) hx hb d_Ar_fillI_0 (by decide) ?_
  refine lv_istore_n (lv' := [(2, .int (0 : Int32)), (0, .ref (E.2.1 8)), (1, .int a1)]) hx hb d_Ar_fillI_1 rfl hl (by decide) rfl (fun ls hl => ?_)
  refine lv_aload_n hx hb d_Ar_fillI_2 rfl (lv_at hl 1 rfl) ?_
  refine an_8 (v := 64) X w (by decide) d_Ar_fillI_3 ?_
  refine lv_istore_n (lv' := [(3, .int (64 : Int32)), (2, .int (0 : Int32)), (0, .ref (E.2.1 8)), (1, .int a1)]) hx hb d_Ar_fillI_4 rfl hl (by decide) rfl (fun ls hl => ?_)
  obtain ⟨n, h⟩ := h
  exact L_Ar_fillI_8_5 X hr hlk K n a1 (0 : Int32) (64 : Int32) μ _ _ _ h w (lv_sub hl [2, 3, 1, 0] rfl)
noncomputable def F_Ar_fillI_9_5 (K : zM → Prop) (n : Nat) : Int32 → Int32 → Int32 → zM → Prop := Nat.rec (motive := fun _ => Int32 → Int32 → Int32 → zM → Prop) (fun _ _ _ _ => False) (fun _ ih x1 x2 x3 μ => (x3 ≤ x2 → (K μ)) ∧ (¬ x3 ≤ x2 → (vp_in x2 64 ∧ ∀ μ3 : zM, μ3 = zp μ 9 x2.toNatClampNeg x1 → (∀ x4 : Int32, x4 = x2 + 1 → (ih x1 x4 x3 μ3))))) n
def f_Ar_fillI_9 (μ : zM) (a1 : Int32) (K : zM → Prop) : Prop := ∃ n : Nat, F_Ar_fillI_9_5 K n a1 (0 : Int32) (64 : Int32) μ
set_option maxHeartbeats 4000000 in
set_option maxRecDepth 100000 in
theorem L_Ar_fillI_9_5 {p : Program} {l : Launch} {e : Env} {s : State} {m : MethodId} {args : Array Value} {below : List Frame} {meth : Method} {c : Code} {E : zE} (X : zX E p s m args c prog_10_method_103_code "java/util/Arrays" 4) (hr : meth.sig.returnType = none) (hlk : meth.locks = false) (K : zM → Prop) : ∀ (n : Nat) (x1 x2 x3 : Int32) (μ : zM) (H : Heap) (locs : List Loc) (ls : Array Slot), F_Ar_fillI_9_5 K n x1 x2 x3 μ → zW zwC E s μ H locs → lv_has ls 4 [(0, .ref (E.2.1 9)), (1, .int x1), (2, .int x2), (3, .int x3)] → W p l e { frames := 0, cells := 0, slots := 0, locals := 0 } s m args below meth c H locs 0 0 (MQ below (va_Qv K (zR zwC E) (zA E)) args s 0 0 (zA E)) (F0 m 5 ls []) := by
  have hx := X.1
  have hb := X.2.1
  intro n
  induction n with
  | zero => intro x1 x2 x3 μ H locs ls h; exact False.elim h
  | succ n ih =>
    intro x1 x2 x3 μ H locs ls h w hl
    refine lv_iload_n hx hb d_Ar_fillI_5 rfl (lv_at hl 2 rfl) ?_
    refine lv_iload_n hx hb d_Ar_fillI_6 rfl (lv_at hl 3 rfl) ?_
    refine lv_icmp_ge (tgt := 20) hx hb d_Ar_fillI_7 (by decide) (fun c1 => ?_) (fun c1 => ?_)
    · have h := h.1 c1
      exact z_vret X hr hlk w h d_Ar_fillI_20
    · have h := h.2 c1
      refine lv_aload_n hx hb d_Ar_fillI_10 rfl (lv_at hl 0 rfl) ?_
      refine lv_iload_n hx hb d_Ar_fillI_11 rfl (lv_at hl 2 rfl) ?_
      refine lv_iload_n hx hb d_Ar_fillI_12 rfl (lv_at hl 1 rfl) ?_
      obtain ⟨hi2, h⟩ := h
      refine as_9 X w hi2 d_Ar_fillI_13 (fun μ3 H locs eμ3 w => ?_)
      have h := h μ3 eμ3
      obtain ⟨x4, ex4⟩ : ∃ y : Int32, y = x2 + 1 := ⟨_, rfl⟩
      have h := h x4 ex4
      refine lv_iinc (v := x4) (lv' := [(2, .int x4), (0, .ref (E.2.1 9)), (1, .int x1), (3, .int x3)]) hx hb d_Ar_fillI_14 hl (k := 2) rfl (by rw [ex4]; rfl) (by decide) rfl (fun ls hl => ?_)
      refine lv_goto (tgt := 5) hx hb d_Ar_fillI_17 (by decide) ?_
      exact ih x1 x4 x3 μ3 _ _ _ h w (lv_sub hl [1, 2, 0, 3] rfl)

set_option maxHeartbeats 4000000 in
set_option maxRecDepth 100000 in
theorem c_Ar_fillI_9 (l : Launch) (E : zE) (μ : zM) (a1 : Int32) (K : zM → Prop) (h : f_Ar_fillI_9 μ a1 K) : Met l y_Ar_fillI (Cond.code y_Ar_fillI prog_10_method_103_code 4 none :: zT) { frames := 0, cells := 0, slots := 0, locals := 0 } (va_Pc [.ref (E.2.1 9), .int a1] (zR zwC E μ)) (va_Qv K (zR zwC E) (zA E)) 0 0 (zA E) := by
  refine z_head (by decide) (Nat.le_of_ble_eq_true rfl) ?_
  intro p e s m below meth c X hr hlk w ls hl
  have X : zX E p s m _ c prog_10_method_103_code "java/util/Arrays" 4 := X
  have hx := X.1
  have hb := X.2.1
  have hl : lv_has ls 4 [(0, .ref (E.2.1 9)), (1, .int a1)] := hl
  unfold f_Ar_fillI_9 at h
  refine lv_iconst (v := 0) hx hb d_Ar_fillI_0 (by decide) ?_
  refine lv_istore_n (lv' := [(2, .int (0 : Int32)), (0, .ref (E.2.1 9)), (1, .int a1)]) hx hb d_Ar_fillI_1 rfl hl (by decide) rfl (fun ls hl => ?_)
  refine lv_aload_n hx hb d_Ar_fillI_2 rfl (lv_at hl 1 rfl) ?_
  refine an_9 (v := 64) X w (by decide) d_Ar_fillI_3 ?_
  refine lv_istore_n (lv' := [(3, .int (64 : Int32)), (2, .int (0 : Int32)), (0, .ref (E.2.1 9)), (1, .int a1)]) hx hb d_Ar_fillI_4 rfl hl (by decide) rfl (fun ls hl => ?_)
  obtain ⟨n, h⟩ := h
  exact L_Ar_fillI_9_5 X hr hlk K n a1 (0 : Int32) (64 : Int32) μ _ _ _ h w (lv_sub hl [2, 3, 1, 0] rfl)
theorem q_Ma_min : (y_Ma_min.cls ≠ "java/lang/invoke/MethodHandle" ∧ y_Ma_min.cls ≠ "java/lang/invoke/VarHandle") ∧ (parseMethodDescriptor y_Ma_min.desc).map (fun d => d.parameters.length) = some 2 := by decide +kernel
theorem d_Ma_min_0 : decode prog_9_method_69_code 0 = .ok (.iload_n 0, 1) := by decide +kernel
theorem d_Ma_min_1 : decode prog_9_method_69_code 1 = .ok (.iload_n 1, 1) := by decide +kernel
theorem d_Ma_min_2 : decode prog_9_method_69_code 2 = .ok (.if_icmp .gt 7, 3) := by decide +kernel
theorem d_Ma_min_5 : decode prog_9_method_69_code 5 = .ok (.iload_n 0, 1) := by decide +kernel
theorem d_Ma_min_6 : decode prog_9_method_69_code 6 = .ok (.goto 4, 3) := by decide +kernel
theorem d_Ma_min_9 : decode prog_9_method_69_code 9 = .ok (.iload_n 1, 1) := by decide +kernel
theorem d_Ma_min_10 : decode prog_9_method_69_code 10 = .ok (.ireturn, 1) := by decide +kernel
def f_Ma_min (μ : zM) (a0 a1 : Int32) (K : Int32 → zM → Prop) : Prop := (a1 < a0 → (K a1 μ)) ∧ (¬ a1 < a0 → (K a0 μ))
set_option maxHeartbeats 4000000 in
set_option maxRecDepth 100000 in
theorem c_Ma_min (l : Launch) (E : zE) (μ : zM) (a0 a1 : Int32) (K : Int32 → zM → Prop) (h : f_Ma_min μ a0 a1 K) : Met l y_Ma_min (Cond.code y_Ma_min prog_9_method_69_code 2 (some .int) :: zT) { frames := 0, cells := 0, slots := 0, locals := 0 } (va_Pc [.int a0, .int a1] (zR zwC E μ)) (va_Qi K (zR zwC E) (zA E)) 0 0 (zA E) := by
  refine z_headF (by decide +kernel) (Nat.le_of_ble_eq_true rfl) ?_
  intro p e s m below meth c X hr hlk w ls hl
  have X : zX E p s m _ c prog_9_method_69_code "java/lang/Math" 2 := X
  have hx := X.1
  have hb := X.2.1
  have hl : lv_has ls 2 [(0, .int a0), (1, .int a1)] := hl
  unfold f_Ma_min at h
  refine lv_iload_n hx hb d_Ma_min_0 rfl (lv_at hl 0 rfl) ?_
  refine lv_iload_n hx hb d_Ma_min_1 rfl (lv_at hl 1 rfl) ?_
  refine lv_icmp_gt (tgt := 9) hx hb d_Ma_min_2 (by decide) (fun c1 => ?_) (fun c1 => ?_)
  · have h := h.1 c1
    refine lv_iload_n hx hb d_Ma_min_9 rfl (lv_at hl 1 rfl) ?_
    exact z_iret X hr hlk w h d_Ma_min_10
  · have h := h.2 c1
    refine lv_iload_n hx hb d_Ma_min_5 rfl (lv_at hl 0 rfl) ?_
    refine lv_goto (tgt := 10) hx hb d_Ma_min_6 (by decide) ?_
    exact z_iret X hr hlk w h d_Ma_min_10
theorem q_Bk_clearAll : (y_Bk_clearAll.cls ≠ "java/lang/invoke/MethodHandle" ∧ y_Bk_clearAll.cls ≠ "java/lang/invoke/VarHandle") ∧ (parseMethodDescriptor y_Bk_clearAll.desc).map (fun d => d.parameters.length) = some 1 := by decide +kernel
theorem d_Bk_clearAll_0 : decode prog_2_method_2_code 0 = .ok (.aload_n 0, 1) := by decide +kernel
theorem d_Bk_clearAll_1 : decode prog_2_method_2_code 1 = .ok (.getfield 9, 3) := by decide +kernel
theorem d_Bk_clearAll_4 : decode prog_2_method_2_code 4 = .ok (.iconst 0, 1) := by decide +kernel
theorem d_Bk_clearAll_5 : decode prog_2_method_2_code 5 = .ok (.invokestatic 34, 3) := by decide +kernel
theorem d_Bk_clearAll_8 : decode prog_2_method_2_code 8 = .ok (.aload_n 0, 1) := by decide +kernel
theorem d_Bk_clearAll_9 : decode prog_2_method_2_code 9 = .ok (.getfield 15, 3) := by decide +kernel
theorem d_Bk_clearAll_12 : decode prog_2_method_2_code 12 = .ok (.iconst 0, 1) := by decide +kernel
theorem d_Bk_clearAll_13 : decode prog_2_method_2_code 13 = .ok (.invokestatic 40, 3) := by decide +kernel
theorem d_Bk_clearAll_16 : decode prog_2_method_2_code 16 = .ok (.aload_n 0, 1) := by decide +kernel
theorem d_Bk_clearAll_17 : decode prog_2_method_2_code 17 = .ok (.getfield 19, 3) := by decide +kernel
theorem d_Bk_clearAll_20 : decode prog_2_method_2_code 20 = .ok (.iconst 0, 1) := by decide +kernel
theorem d_Bk_clearAll_21 : decode prog_2_method_2_code 21 = .ok (.invokestatic 40, 3) := by decide +kernel
theorem d_Bk_clearAll_24 : decode prog_2_method_2_code 24 = .ok (.aload_n 0, 1) := by decide +kernel
theorem d_Bk_clearAll_25 : decode prog_2_method_2_code 25 = .ok (.getfield 28, 3) := by decide +kernel
theorem d_Bk_clearAll_28 : decode prog_2_method_2_code 28 = .ok (.iconst (-1), 1) := by decide +kernel
theorem d_Bk_clearAll_29 : decode prog_2_method_2_code 29 = .ok (.invokestatic 34, 3) := by decide +kernel
theorem d_Bk_clearAll_32 : decode prog_2_method_2_code 32 = .ok (.aload_n 0, 1) := by decide +kernel
theorem d_Bk_clearAll_33 : decode prog_2_method_2_code 33 = .ok (.getfield 31, 3) := by decide +kernel
theorem d_Bk_clearAll_36 : decode prog_2_method_2_code 36 = .ok (.iconst 0, 1) := by decide +kernel
theorem d_Bk_clearAll_37 : decode prog_2_method_2_code 37 = .ok (.invokestatic 34, 3) := by decide +kernel
theorem d_Bk_clearAll_40 : decode prog_2_method_2_code 40 = .ok (.aload_n 0, 1) := by decide +kernel
theorem d_Bk_clearAll_41 : decode prog_2_method_2_code 41 = .ok (.iload_n 1, 1) := by decide +kernel
theorem d_Bk_clearAll_42 : decode prog_2_method_2_code 42 = .ok (.bipush 64, 2) := by decide +kernel
theorem d_Bk_clearAll_44 : decode prog_2_method_2_code 44 = .ok (.invokestatic 43, 3) := by decide +kernel
theorem d_Bk_clearAll_47 : decode prog_2_method_2_code 47 = .ok (.putfield 49, 3) := by decide +kernel
theorem d_Bk_clearAll_50 : decode prog_2_method_2_code 50 = .ok (.aload_n 0, 1) := by decide +kernel
theorem d_Bk_clearAll_51 : decode prog_2_method_2_code 51 = .ok (.aload_n 0, 1) := by decide +kernel
theorem d_Bk_clearAll_52 : decode prog_2_method_2_code 52 = .ok (.getfield 49, 3) := by decide +kernel
theorem d_Bk_clearAll_55 : decode prog_2_method_2_code 55 = .ok (.putfield 53, 3) := by decide +kernel
theorem d_Bk_clearAll_58 : decode prog_2_method_2_code 58 = .ok (.aload_n 0, 1) := by decide +kernel
theorem d_Bk_clearAll_59 : decode prog_2_method_2_code 59 = .ok (.iconst 0, 1) := by decide +kernel
theorem d_Bk_clearAll_60 : decode prog_2_method_2_code 60 = .ok (.putfield 56, 3) := by decide +kernel
theorem d_Bk_clearAll_63 : decode prog_2_method_2_code 63 = .ok (.aload_n 0, 1) := by decide +kernel
theorem d_Bk_clearAll_64 : decode prog_2_method_2_code 64 = .ok (.iconst 0, 1) := by decide +kernel
theorem d_Bk_clearAll_65 : decode prog_2_method_2_code 65 = .ok (.putfield 59, 3) := by decide +kernel
theorem d_Bk_clearAll_68 : decode prog_2_method_2_code 68 = .ok (.return_, 1) := by decide +kernel
def f_Bk_clearAll (μ : zM) (a1 : Int32) (K : zM → Prop) : Prop := f_Ar_fillI_3 μ (0 : Int32) (fun μ1 => (f_Ar_fillB_4 μ1 (0 : Int32) (fun μ2 => (f_Ar_fillB_5 μ2 (0 : Int32) (fun μ3 => (f_Ar_fillI_8 μ3 (-1 : Int32) (fun μ4 => (f_Ar_fillI_9 μ4 (0 : Int32) (fun μ5 => (f_Ma_min μ5 a1 (64 : Int32) (fun r7 μ6 => (∀ μ8 : zM, μ8 = zp μ6 2 7 r7 → (∀ μ9 : zM, μ9 = zp μ8 2 8 (μ8 2 7) → (∀ μ10 : zM, μ10 = zp μ9 2 9 (0 : Int32) → (∀ μ11 : zM, μ11 = zp μ10 2 10 (0 : Int32) → (K μ11))))))))))))))))
set_option maxHeartbeats 4000000 in
set_option maxRecDepth 100000 in
theorem c_Bk_clearAll (l : Launch) (E : zE) (μ : zM) (a1 : Int32) (K : zM → Prop) (h : f_Bk_clearAll μ a1 K) : Met l y_Bk_clearAll (Cond.code y_Bk_clearAll prog_2_method_2_code 2 none :: zT) { frames := 1, cells := 0, slots := 0, locals := 23 } (va_Pc [.ref (E.2.1 2), .int a1] (zR zwC E μ)) (va_Qv K (zR zwC E) (zA E)) 0 0 (zA E) := by
  refine z_head (by decide) (Nat.le_of_ble_eq_true rfl) ?_
  intro p e s m below meth c X hr hlk w ls hl
  have X : zX E p s m _ c prog_2_method_2_code "BeatHeap$Blocks" 2 := X
  have hx := X.1
  have hb := X.2.1
  have hl : lv_has ls 2 [(0, .ref (E.2.1 2)), (1, .int a1)] := hl
  unfold f_Bk_clearAll at h
  refine lv_aload_n hx hb d_Bk_clearAll_0 rfl (lv_at hl 0 rfl) ?_
  refine gt_2_0 X w w_fl_Bk_9 d_Bk_clearAll_1 ?_
  refine lv_iconst (v := 0) hx hb d_Bk_clearAll_4 (by decide) ?_
  refine z_cSv (As := [.ref (E.2.1 3), .int (0 : Int32)]) (rest := []) X w (c_Ar_fillI_3 l E μ (0 : Int32) _ h) w_ml_Bk_34 w_st_Ar_fillI w_in_Ar w_co_Ar_fillI q_Ar_fillI.1 q_Ar_fillI.2 rfl ⟨Nat.le_of_ble_eq_true rfl, Nat.le_of_ble_eq_true rfl⟩ ⟨Nat.zero_le _, Nat.zero_le _⟩ hl.1 rfl (Nat.le_of_ble_eq_true rfl) d_Bk_clearAll_5 (fun μ1 H locs h w => ?_)
  refine lv_aload_n hx hb d_Bk_clearAll_8 rfl (lv_at hl 0 rfl) ?_
  refine gt_2_1 X w w_fl_Bk_15 d_Bk_clearAll_9 ?_
  refine lv_iconst (v := 0) hx hb d_Bk_clearAll_12 (by decide) ?_
  refine z_cSv (As := [.ref (E.2.1 4), .int (0 : Int32)]) (rest := []) X w (c_Ar_fillB_4 l E μ1 (0 : Int32) _ h) w_ml_Bk_40 w_st_Ar_fillB w_in_Ar w_co_Ar_fillB q_Ar_fillB.1 q_Ar_fillB.2 rfl ⟨Nat.le_of_ble_eq_true rfl, Nat.le_of_ble_eq_true rfl⟩ ⟨Nat.zero_le _, Nat.zero_le _⟩ hl.1 rfl (Nat.le_of_ble_eq_true rfl) d_Bk_clearAll_13 (fun μ2 H locs h w => ?_)
  refine lv_aload_n hx hb d_Bk_clearAll_16 rfl (lv_at hl 0 rfl) ?_
  refine gt_2_2 X w w_fl_Bk_19 d_Bk_clearAll_17 ?_
  refine lv_iconst (v := 0) hx hb d_Bk_clearAll_20 (by decide) ?_
  refine z_cSv (As := [.ref (E.2.1 5), .int (0 : Int32)]) (rest := []) X w (c_Ar_fillB_5 l E μ2 (0 : Int32) _ h) w_ml_Bk_40 w_st_Ar_fillB w_in_Ar w_co_Ar_fillB q_Ar_fillB.1 q_Ar_fillB.2 rfl ⟨Nat.le_of_ble_eq_true rfl, Nat.le_of_ble_eq_true rfl⟩ ⟨Nat.zero_le _, Nat.zero_le _⟩ hl.1 rfl (Nat.le_of_ble_eq_true rfl) d_Bk_clearAll_21 (fun μ3 H locs h w => ?_)
  refine lv_aload_n hx hb d_Bk_clearAll_24 rfl (lv_at hl 0 rfl) ?_
  refine gt_2_5 X w w_fl_Bk_28 d_Bk_clearAll_25 ?_
  refine lv_iconst (v := (-1)) hx hb d_Bk_clearAll_28 (by decide) ?_
  refine z_cSv (As := [.ref (E.2.1 8), .int (-1 : Int32)]) (rest := []) X w (c_Ar_fillI_8 l E μ3 (-1 : Int32) _ h) w_ml_Bk_34 w_st_Ar_fillI w_in_Ar w_co_Ar_fillI q_Ar_fillI.1 q_Ar_fillI.2 rfl ⟨Nat.le_of_ble_eq_true rfl, Nat.le_of_ble_eq_true rfl⟩ ⟨Nat.zero_le _, Nat.zero_le _⟩ hl.1 rfl (Nat.le_of_ble_eq_true rfl) d_Bk_clearAll_29 (fun μ4 H locs h w => ?_)
  refine lv_aload_n hx hb d_Bk_clearAll_32 rfl (lv_at hl 0 rfl) ?_
  refine gt_2_6 X w w_fl_Bk_31 d_Bk_clearAll_33 ?_
  refine lv_iconst (v := 0) hx hb d_Bk_clearAll_36 (by decide) ?_
  refine z_cSv (As := [.ref (E.2.1 9), .int (0 : Int32)]) (rest := []) X w (c_Ar_fillI_9 l E μ4 (0 : Int32) _ h) w_ml_Bk_34 w_st_Ar_fillI w_in_Ar w_co_Ar_fillI q_Ar_fillI.1 q_Ar_fillI.2 rfl ⟨Nat.le_of_ble_eq_true rfl, Nat.le_of_ble_eq_true rfl⟩ ⟨Nat.zero_le _, Nat.zero_le _⟩ hl.1 rfl (Nat.le_of_ble_eq_true rfl) d_Bk_clearAll_37 (fun μ5 H locs h w => ?_)
  refine lv_aload_n hx hb d_Bk_clearAll_40 rfl (lv_at hl 0 rfl) ?_
  refine lv_iload_n hx hb d_Bk_clearAll_41 rfl (lv_at hl 1 rfl) ?_
  refine lv_bipush (v := 64) hx hb d_Bk_clearAll_42 (by decide) ?_
  refine z_cSi (As := [.int a1, .int (64 : Int32)]) (rest := [.ref (E.2.1 2)]) X w (c_Ma_min l E μ5 a1 (64 : Int32) _ h) w_ml_Bk_43 w_st_Ma_min w_in_Ma w_co_Ma_min q_Ma_min.1 q_Ma_min.2 rfl ⟨Nat.le_of_ble_eq_true rfl, Nat.le_of_ble_eq_true rfl⟩ ⟨Nat.zero_le _, Nat.zero_le _⟩ hl.1 rfl (Nat.le_of_ble_eq_true rfl) d_Bk_clearAll_44 (fun r7 μ6 H locs h w => ?_)
  refine pt_2_7 X w w_fl_Bk_49 d_Bk_clearAll_47 (fun μ8 H locs eμ8 w => ?_)
  have h := h μ8 eμ8
  refine lv_aload_n hx hb d_Bk_clearAll_50 rfl (lv_at hl 0 rfl) ?_
  refine lv_aload_n hx hb d_Bk_clearAll_51 rfl (lv_at hl 0 rfl) ?_
  refine gt_2_7 X w w_fl_Bk_49 d_Bk_clearAll_52 ?_
  refine pt_2_8 X w w_fl_Bk_53 d_Bk_clearAll_55 (fun μ9 H locs eμ9 w => ?_)
  have h := h μ9 eμ9
  refine lv_aload_n hx hb d_Bk_clearAll_58 rfl (lv_at hl 0 rfl) ?_
  refine lv_iconst (v := 0) hx hb d_Bk_clearAll_59 (by decide) ?_
  refine pt_2_9 X w w_fl_Bk_56 d_Bk_clearAll_60 (fun μ10 H locs eμ10 w => ?_)
  have h := h μ10 eμ10
  refine lv_aload_n hx hb d_Bk_clearAll_63 rfl (lv_at hl 0 rfl) ?_
  refine lv_iconst (v := 0) hx hb d_Bk_clearAll_64 (by decide) ?_
  refine pt_2_10 X w w_fl_Bk_59 d_Bk_clearAll_65 (fun μ11 H locs eμ11 w => ?_)
  have h := h μ11 eμ11
  exact z_vret X hr hlk w h d_Bk_clearAll_68
theorem q_Ck_clearAll : (y_Ck_clearAll.cls ≠ "java/lang/invoke/MethodHandle" ∧ y_Ck_clearAll.cls ≠ "java/lang/invoke/VarHandle") ∧ (parseMethodDescriptor y_Ck_clearAll.desc).map (fun d => d.parameters.length) = some 0 := by decide +kernel
theorem d_Ck_clearAll_0 : decode prog_3_method_2_code 0 = .ok (.aload_n 0, 1) := by decide +kernel
theorem d_Ck_clearAll_1 : decode prog_3_method_2_code 1 = .ok (.iconst 0, 1) := by decide +kernel
theorem d_Ck_clearAll_2 : decode prog_3_method_2_code 2 = .ok (.putfield 15, 3) := by decide +kernel
theorem d_Ck_clearAll_5 : decode prog_3_method_2_code 5 = .ok (.aload_n 0, 1) := by decide +kernel
theorem d_Ck_clearAll_6 : decode prog_3_method_2_code 6 = .ok (.iconst 0, 1) := by decide +kernel
theorem d_Ck_clearAll_7 : decode prog_3_method_2_code 7 = .ok (.putfield 19, 3) := by decide +kernel
theorem d_Ck_clearAll_10 : decode prog_3_method_2_code 10 = .ok (.aload_n 0, 1) := by decide +kernel
theorem d_Ck_clearAll_11 : decode prog_3_method_2_code 11 = .ok (.iconst 0, 1) := by decide +kernel
theorem d_Ck_clearAll_12 : decode prog_3_method_2_code 12 = .ok (.putfield 22, 3) := by decide +kernel
theorem d_Ck_clearAll_15 : decode prog_3_method_2_code 15 = .ok (.aload_n 0, 1) := by decide +kernel
theorem d_Ck_clearAll_16 : decode prog_3_method_2_code 16 = .ok (.iconst 0, 1) := by decide +kernel
theorem d_Ck_clearAll_17 : decode prog_3_method_2_code 17 = .ok (.putfield 25, 3) := by decide +kernel
theorem d_Ck_clearAll_20 : decode prog_3_method_2_code 20 = .ok (.return_, 1) := by decide +kernel
def f_Ck_clearAll (μ : zM) (K : zM → Prop) : Prop := ∀ μ1 : zM, μ1 = zp μ 10 1 (0 : Int32) → (∀ μ2 : zM, μ2 = zp μ1 10 2 (0 : Int32) → (∀ μ3 : zM, μ3 = zp μ2 10 3 (0 : Int32) → (∀ μ4 : zM, μ4 = zp μ3 10 4 (0 : Int32) → (K μ4))))
set_option maxHeartbeats 4000000 in
set_option maxRecDepth 100000 in
theorem c_Ck_clearAll (l : Launch) (E : zE) (μ : zM) (K : zM → Prop) (h : f_Ck_clearAll μ K) : Met l y_Ck_clearAll (Cond.code y_Ck_clearAll prog_3_method_2_code 1 none :: zT) { frames := 0, cells := 0, slots := 0, locals := 0 } (va_Pc [.ref (E.2.1 10)] (zR zwC E μ)) (va_Qv K (zR zwC E) (zA E)) 0 0 (zA E) := by
  refine z_head (by decide) (Nat.le_of_ble_eq_true rfl) ?_
  intro p e s m below meth c X hr hlk w ls hl
  have X : zX E p s m _ c prog_3_method_2_code "BeatHeap$Clock" 1 := X
  have hx := X.1
  have hb := X.2.1
  have hl : lv_has ls 1 [(0, .ref (E.2.1 10))] := hl
  unfold f_Ck_clearAll at h
  refine lv_aload_n hx hb d_Ck_clearAll_0 rfl (lv_at hl 0 rfl) ?_
  refine lv_iconst (v := 0) hx hb d_Ck_clearAll_1 (by decide) ?_
  refine pt_10_1 X w w_fl_Ck_15 d_Ck_clearAll_2 (fun μ1 H locs eμ1 w => ?_)
  have h := h μ1 eμ1
  refine lv_aload_n hx hb d_Ck_clearAll_5 rfl (lv_at hl 0 rfl) ?_
  refine lv_iconst (v := 0) hx hb d_Ck_clearAll_6 (by decide) ?_
  refine pt_10_2 X w w_fl_Ck_19 d_Ck_clearAll_7 (fun μ2 H locs eμ2 w => ?_)
  have h := h μ2 eμ2
  refine lv_aload_n hx hb d_Ck_clearAll_10 rfl (lv_at hl 0 rfl) ?_
  refine lv_iconst (v := 0) hx hb d_Ck_clearAll_11 (by decide) ?_
  refine pt_10_3 X w w_fl_Ck_22 d_Ck_clearAll_12 (fun μ3 H locs eμ3 w => ?_)
  have h := h μ3 eμ3
  refine lv_aload_n hx hb d_Ck_clearAll_15 rfl (lv_at hl 0 rfl) ?_
  refine lv_iconst (v := 0) hx hb d_Ck_clearAll_16 (by decide) ?_
  refine pt_10_4 X w w_fl_Ck_25 d_Ck_clearAll_17 (fun μ4 H locs eμ4 w => ?_)
  have h := h μ4 eμ4
  exact z_vret X hr hlk w h d_Ck_clearAll_20
theorem q_Pi_clearAll : (y_Pi_clearAll.cls ≠ "java/lang/invoke/MethodHandle" ∧ y_Pi_clearAll.cls ≠ "java/lang/invoke/VarHandle") ∧ (parseMethodDescriptor y_Pi_clearAll.desc).map (fun d => d.parameters.length) = some 0 := by decide +kernel
theorem d_Pi_clearAll_0 : decode prog_5_method_2_code 0 = .ok (.aload_n 0, 1) := by decide +kernel
theorem d_Pi_clearAll_1 : decode prog_5_method_2_code 1 = .ok (.iconst 0, 1) := by decide +kernel
theorem d_Pi_clearAll_2 : decode prog_5_method_2_code 2 = .ok (.putfield 15, 3) := by decide +kernel
theorem d_Pi_clearAll_5 : decode prog_5_method_2_code 5 = .ok (.return_, 1) := by decide +kernel
def f_Pi_clearAll_12 (μ : zM) (K : zM → Prop) : Prop := ∀ μ1 : zM, μ1 = zp μ 12 1 (0 : Int32) → (K μ1)
set_option maxHeartbeats 4000000 in
set_option maxRecDepth 100000 in
theorem c_Pi_clearAll_12 (l : Launch) (E : zE) (μ : zM) (K : zM → Prop) (h : f_Pi_clearAll_12 μ K) : Met l y_Pi_clearAll (Cond.code y_Pi_clearAll prog_5_method_2_code 1 none :: zT) { frames := 0, cells := 0, slots := 0, locals := 0 } (va_Pc [.ref (E.2.1 12)] (zR zwC E μ)) (va_Qv K (zR zwC E) (zA E)) 0 0 (zA E) := by
  refine z_head (by decide) (Nat.le_of_ble_eq_true rfl) ?_
  intro p e s m below meth c X hr hlk w ls hl
  have X : zX E p s m _ c prog_5_method_2_code "BeatHeap$Pile" 1 := X
  have hx := X.1
  have hb := X.2.1
  have hl : lv_has ls 1 [(0, .ref (E.2.1 12))] := hl
  unfold f_Pi_clearAll_12 at h
  refine lv_aload_n hx hb d_Pi_clearAll_0 rfl (lv_at hl 0 rfl) ?_
  refine lv_iconst (v := 0) hx hb d_Pi_clearAll_1 (by decide) ?_
  refine pt_12_1 X w w_fl_Pi_15 d_Pi_clearAll_2 (fun μ1 H locs eμ1 w => ?_)
  have h := h μ1 eμ1
  exact z_vret X hr hlk w h d_Pi_clearAll_5
theorem q_Co_rest : (y_Co_rest.cls ≠ "java/lang/invoke/MethodHandle" ∧ y_Co_rest.cls ≠ "java/lang/invoke/VarHandle") ∧ (parseMethodDescriptor y_Co_rest.desc).map (fun d => d.parameters.length) = some 0 := by decide +kernel
theorem d_Co_rest_0 : decode prog_4_method_3_code 0 = .ok (.aload_n 0, 1) := by decide +kernel
theorem d_Co_rest_1 : decode prog_4_method_3_code 1 = .ok (.iconst 0, 1) := by decide +kernel
theorem d_Co_rest_2 : decode prog_4_method_3_code 2 = .ok (.putfield 55, 3) := by decide +kernel
theorem d_Co_rest_5 : decode prog_4_method_3_code 5 = .ok (.aload_n 0, 1) := by decide +kernel
theorem d_Co_rest_6 : decode prog_4_method_3_code 6 = .ok (.iconst 0, 1) := by decide +kernel
theorem d_Co_rest_7 : decode prog_4_method_3_code 7 = .ok (.putfield 58, 3) := by decide +kernel
theorem d_Co_rest_10 : decode prog_4_method_3_code 10 = .ok (.aload_n 0, 1) := by decide +kernel
theorem d_Co_rest_11 : decode prog_4_method_3_code 11 = .ok (.iconst 0, 1) := by decide +kernel
theorem d_Co_rest_12 : decode prog_4_method_3_code 12 = .ok (.putfield 61, 3) := by decide +kernel
theorem d_Co_rest_15 : decode prog_4_method_3_code 15 = .ok (.aload_n 0, 1) := by decide +kernel
theorem d_Co_rest_16 : decode prog_4_method_3_code 16 = .ok (.iconst (-1), 1) := by decide +kernel
theorem d_Co_rest_17 : decode prog_4_method_3_code 17 = .ok (.putfield 64, 3) := by decide +kernel
theorem d_Co_rest_20 : decode prog_4_method_3_code 20 = .ok (.aload_n 0, 1) := by decide +kernel
theorem d_Co_rest_21 : decode prog_4_method_3_code 21 = .ok (.iconst 0, 1) := by decide +kernel
theorem d_Co_rest_22 : decode prog_4_method_3_code 22 = .ok (.putfield 67, 3) := by decide +kernel
theorem d_Co_rest_25 : decode prog_4_method_3_code 25 = .ok (.aload_n 0, 1) := by decide +kernel
theorem d_Co_rest_26 : decode prog_4_method_3_code 26 = .ok (.iconst 0, 1) := by decide +kernel
theorem d_Co_rest_27 : decode prog_4_method_3_code 27 = .ok (.putfield 70, 3) := by decide +kernel
theorem d_Co_rest_30 : decode prog_4_method_3_code 30 = .ok (.return_, 1) := by decide +kernel
def f_Co_rest (μ : zM) (K : zM → Prop) : Prop := ∀ μ1 : zM, μ1 = zp μ 1 7 (0 : Int32) → (∀ μ2 : zM, μ2 = zp μ1 1 8 (0 : Int32) → (∀ μ3 : zM, μ3 = zp μ2 1 9 (0 : Int32) → (∀ μ4 : zM, μ4 = zp μ3 1 10 (-1 : Int32) → (∀ μ5 : zM, μ5 = zp μ4 1 11 (0 : Int32) → (∀ μ6 : zM, μ6 = zp μ5 1 12 (0 : Int32) → (K μ6))))))
set_option maxHeartbeats 4000000 in
set_option maxRecDepth 100000 in
theorem c_Co_rest (l : Launch) (E : zE) (μ : zM) (K : zM → Prop) (h : f_Co_rest μ K) : Met l y_Co_rest (Cond.code y_Co_rest prog_4_method_3_code 1 none :: zT) { frames := 0, cells := 0, slots := 0, locals := 0 } (va_Pc [.ref (E.2.1 1)] (zR zwC E μ)) (va_Qv K (zR zwC E) (zA E)) 0 0 (zA E) := by
  refine z_head (by decide) (Nat.le_of_ble_eq_true rfl) ?_
  intro p e s m below meth c X hr hlk w ls hl
  have X : zX E p s m _ c prog_4_method_3_code "BeatHeap$Collector" 1 := X
  have hx := X.1
  have hb := X.2.1
  have hl : lv_has ls 1 [(0, .ref (E.2.1 1))] := hl
  unfold f_Co_rest at h
  refine lv_aload_n hx hb d_Co_rest_0 rfl (lv_at hl 0 rfl) ?_
  refine lv_iconst (v := 0) hx hb d_Co_rest_1 (by decide) ?_
  refine pt_1_7 X w w_fl_Co_55 d_Co_rest_2 (fun μ1 H locs eμ1 w => ?_)
  have h := h μ1 eμ1
  refine lv_aload_n hx hb d_Co_rest_5 rfl (lv_at hl 0 rfl) ?_
  refine lv_iconst (v := 0) hx hb d_Co_rest_6 (by decide) ?_
  refine pt_1_8 X w w_fl_Co_58 d_Co_rest_7 (fun μ2 H locs eμ2 w => ?_)
  have h := h μ2 eμ2
  refine lv_aload_n hx hb d_Co_rest_10 rfl (lv_at hl 0 rfl) ?_
  refine lv_iconst (v := 0) hx hb d_Co_rest_11 (by decide) ?_
  refine pt_1_9 X w w_fl_Co_61 d_Co_rest_12 (fun μ3 H locs eμ3 w => ?_)
  have h := h μ3 eμ3
  refine lv_aload_n hx hb d_Co_rest_15 rfl (lv_at hl 0 rfl) ?_
  refine lv_iconst (v := (-1)) hx hb d_Co_rest_16 (by decide) ?_
  refine pt_1_10 X w w_fl_Co_64 d_Co_rest_17 (fun μ4 H locs eμ4 w => ?_)
  have h := h μ4 eμ4
  refine lv_aload_n hx hb d_Co_rest_20 rfl (lv_at hl 0 rfl) ?_
  refine lv_iconst (v := 0) hx hb d_Co_rest_21 (by decide) ?_
  refine pt_1_11 X w w_fl_Co_67 d_Co_rest_22 (fun μ5 H locs eμ5 w => ?_)
  have h := h μ5 eμ5
  refine lv_aload_n hx hb d_Co_rest_25 rfl (lv_at hl 0 rfl) ?_
  refine lv_iconst (v := 0) hx hb d_Co_rest_26 (by decide) ?_
  refine pt_1_12 X w w_fl_Co_70 d_Co_rest_27 (fun μ6 H locs eμ6 w => ?_)
  have h := h μ6 eμ6
  exact z_vret X hr hlk w h d_Co_rest_30
theorem q_Co_clearAll : (y_Co_clearAll.cls ≠ "java/lang/invoke/MethodHandle" ∧ y_Co_clearAll.cls ≠ "java/lang/invoke/VarHandle") ∧ (parseMethodDescriptor y_Co_clearAll.desc).map (fun d => d.parameters.length) = some 3 := by decide +kernel
theorem d_Co_clearAll_0 : decode prog_4_method_2_code 0 = .ok (.aload_n 0, 1) := by decide +kernel
theorem d_Co_clearAll_1 : decode prog_4_method_2_code 1 = .ok (.iload_n 1, 1) := by decide +kernel
theorem d_Co_clearAll_2 : decode prog_4_method_2_code 2 = .ok (.putfield 36, 3) := by decide +kernel
theorem d_Co_clearAll_5 : decode prog_4_method_2_code 5 = .ok (.aload_n 0, 1) := by decide +kernel
theorem d_Co_clearAll_6 : decode prog_4_method_2_code 6 = .ok (.iload_n 2, 1) := by decide +kernel
theorem d_Co_clearAll_7 : decode prog_4_method_2_code 7 = .ok (.putfield 40, 3) := by decide +kernel
theorem d_Co_clearAll_10 : decode prog_4_method_2_code 10 = .ok (.aload_n 0, 1) := by decide +kernel
theorem d_Co_clearAll_11 : decode prog_4_method_2_code 11 = .ok (.iload_n 3, 1) := by decide +kernel
theorem d_Co_clearAll_12 : decode prog_4_method_2_code 12 = .ok (.putfield 43, 3) := by decide +kernel
theorem d_Co_clearAll_15 : decode prog_4_method_2_code 15 = .ok (.aload_n 0, 1) := by decide +kernel
theorem d_Co_clearAll_16 : decode prog_4_method_2_code 16 = .ok (.iconst 0, 1) := by decide +kernel
theorem d_Co_clearAll_17 : decode prog_4_method_2_code 17 = .ok (.putfield 46, 3) := by decide +kernel
theorem d_Co_clearAll_20 : decode prog_4_method_2_code 20 = .ok (.aload_n 0, 1) := by decide +kernel
theorem d_Co_clearAll_21 : decode prog_4_method_2_code 21 = .ok (.getfield 28, 3) := by decide +kernel
theorem d_Co_clearAll_24 : decode prog_4_method_2_code 24 = .ok (.invokevirtual 49, 3) := by decide +kernel
theorem d_Co_clearAll_27 : decode prog_4_method_2_code 27 = .ok (.aload_n 0, 1) := by decide +kernel
theorem d_Co_clearAll_28 : decode prog_4_method_2_code 28 = .ok (.invokevirtual 52, 3) := by decide +kernel
theorem d_Co_clearAll_31 : decode prog_4_method_2_code 31 = .ok (.return_, 1) := by decide +kernel
def f_Co_clearAll (μ : zM) (a1 a2 a3 : Int32) (K : zM → Prop) : Prop := ∀ μ1 : zM, μ1 = zp μ 1 4 a1 → (∀ μ2 : zM, μ2 = zp μ1 1 5 a2 → (∀ μ3 : zM, μ3 = zp μ2 1 6 a3 → (∀ μ4 : zM, μ4 = zp μ3 1 13 (0 : Int32) → (f_Pi_clearAll_12 μ4 (fun μ5 => (f_Co_rest μ5 (fun μ6 => (K μ6))))))))
set_option maxHeartbeats 4000000 in
set_option maxRecDepth 100000 in
theorem c_Co_clearAll (l : Launch) (E : zE) (μ : zM) (a1 a2 a3 : Int32) (K : zM → Prop) (h : f_Co_clearAll μ a1 a2 a3 K) : Met l y_Co_clearAll (Cond.code y_Co_clearAll prog_4_method_2_code 4 none :: zT) { frames := 1, cells := 0, slots := 0, locals := 20 } (va_Pc [.ref (E.2.1 1), .int a1, .int a2, .int a3] (zR zwC E μ)) (va_Qv K (zR zwC E) (zA E)) 0 0 (zA E) := by
  refine z_head (by decide) (Nat.le_of_ble_eq_true rfl) ?_
  intro p e s m below meth c X hr hlk w ls hl
  have X : zX E p s m _ c prog_4_method_2_code "BeatHeap$Collector" 4 := X
  have hx := X.1
  have hb := X.2.1
  have hl : lv_has ls 4 [(0, .ref (E.2.1 1)), (1, .int a1), (2, .int a2), (3, .int a3)] := hl
  unfold f_Co_clearAll at h
  refine lv_aload_n hx hb d_Co_clearAll_0 rfl (lv_at hl 0 rfl) ?_
  refine lv_iload_n hx hb d_Co_clearAll_1 rfl (lv_at hl 1 rfl) ?_
  refine pt_1_4 X w w_fl_Co_36 d_Co_clearAll_2 (fun μ1 H locs eμ1 w => ?_)
  have h := h μ1 eμ1
  refine lv_aload_n hx hb d_Co_clearAll_5 rfl (lv_at hl 0 rfl) ?_
  refine lv_iload_n hx hb d_Co_clearAll_6 rfl (lv_at hl 2 rfl) ?_
  refine pt_1_5 X w w_fl_Co_40 d_Co_clearAll_7 (fun μ2 H locs eμ2 w => ?_)
  have h := h μ2 eμ2
  refine lv_aload_n hx hb d_Co_clearAll_10 rfl (lv_at hl 0 rfl) ?_
  refine lv_iload_n hx hb d_Co_clearAll_11 rfl (lv_at hl 3 rfl) ?_
  refine pt_1_6 X w w_fl_Co_43 d_Co_clearAll_12 (fun μ3 H locs eμ3 w => ?_)
  have h := h μ3 eμ3
  refine lv_aload_n hx hb d_Co_clearAll_15 rfl (lv_at hl 0 rfl) ?_
  refine lv_iconst (v := 0) hx hb d_Co_clearAll_16 (by decide) ?_
  refine pt_1_13 X w w_fl_Co_46 d_Co_clearAll_17 (fun μ4 H locs eμ4 w => ?_)
  have h := h μ4 eμ4
  refine lv_aload_n hx hb d_Co_clearAll_20 rfl (lv_at hl 0 rfl) ?_
  refine gt_1_2 X w w_fl_Co_28 d_Co_clearAll_21 ?_
  refine z_cVv (As := []) (rest := []) (q0 := 12) (ci := 3) X w (c_Pi_clearAll_12 l E μ4 _ h) rfl rfl rfl w_ml_Co_49 ⟨w_im_Pi_clearAll, w_se_Pi_clearAll⟩ w_in_Pi w_co_Pi_clearAll q_Pi_clearAll.1 q_Pi_clearAll.2 rfl ⟨Nat.le_of_ble_eq_true rfl, Nat.le_of_ble_eq_true rfl⟩ ⟨Nat.zero_le _, Nat.zero_le _⟩ hl.1 rfl (Nat.le_of_ble_eq_true rfl) d_Co_clearAll_24 (fun μ5 H locs h w => ?_)
  refine lv_aload_n hx hb d_Co_clearAll_27 rfl (lv_at hl 0 rfl) ?_
  refine z_cVv (As := []) (rest := []) (q0 := 1) (ci := 2) X w (c_Co_rest l E μ5 _ h) rfl rfl rfl w_ml_Co_52 ⟨w_im_Co_rest, w_se_Co_rest⟩ w_in_Co w_co_Co_rest q_Co_rest.1 q_Co_rest.2 rfl ⟨Nat.le_of_ble_eq_true rfl, Nat.le_of_ble_eq_true rfl⟩ ⟨Nat.zero_le _, Nat.zero_le _⟩ hl.1 rfl (Nat.le_of_ble_eq_true rfl) d_Co_clearAll_28 (fun μ6 H locs h w => ?_)
  exact z_vret X hr hlk w h d_Co_clearAll_31
theorem q_Bh_setAll : (y_Bh_setAll.cls ≠ "java/lang/invoke/MethodHandle" ∧ y_Bh_setAll.cls ≠ "java/lang/invoke/VarHandle") ∧ (parseMethodDescriptor y_Bh_setAll.desc).map (fun d => d.parameters.length) = some 4 := by decide +kernel
theorem d_Bh_setAll_0 : decode prog_1_method_26_code 0 = .ok (.aload_n 0, 1) := by decide +kernel
theorem d_Bh_setAll_1 : decode prog_1_method_26_code 1 = .ok (.getfield 30, 3) := by decide +kernel
theorem d_Bh_setAll_4 : decode prog_1_method_26_code 4 = .ok (.iconst (-1), 1) := by decide +kernel
theorem d_Bh_setAll_5 : decode prog_1_method_26_code 5 = .ok (.invokestatic 175, 3) := by decide +kernel
theorem d_Bh_setAll_8 : decode prog_1_method_26_code 8 = .ok (.aload_n 0, 1) := by decide +kernel
theorem d_Bh_setAll_9 : decode prog_1_method_26_code 9 = .ok (.iconst 0, 1) := by decide +kernel
theorem d_Bh_setAll_10 : decode prog_1_method_26_code 10 = .ok (.putfield 146, 3) := by decide +kernel
theorem d_Bh_setAll_13 : decode prog_1_method_26_code 13 = .ok (.aload_n 0, 1) := by decide +kernel
theorem d_Bh_setAll_14 : decode prog_1_method_26_code 14 = .ok (.getfield 20, 3) := by decide +kernel
theorem d_Bh_setAll_17 : decode prog_1_method_26_code 17 = .ok (.iload_n 1, 1) := by decide +kernel
theorem d_Bh_setAll_18 : decode prog_1_method_26_code 18 = .ok (.invokevirtual 181, 3) := by decide +kernel
theorem d_Bh_setAll_21 : decode prog_1_method_26_code 21 = .ok (.aload_n 0, 1) := by decide +kernel
theorem d_Bh_setAll_22 : decode prog_1_method_26_code 22 = .ok (.getfield 25, 3) := by decide +kernel
theorem d_Bh_setAll_25 : decode prog_1_method_26_code 25 = .ok (.invokevirtual 184, 3) := by decide +kernel
theorem d_Bh_setAll_28 : decode prog_1_method_26_code 28 = .ok (.aload_n 0, 1) := by decide +kernel
theorem d_Bh_setAll_29 : decode prog_1_method_26_code 29 = .ok (.getfield 12, 3) := by decide +kernel
theorem d_Bh_setAll_32 : decode prog_1_method_26_code 32 = .ok (.iload_n 2, 1) := by decide +kernel
theorem d_Bh_setAll_33 : decode prog_1_method_26_code 33 = .ok (.iload_n 3, 1) := by decide +kernel
theorem d_Bh_setAll_34 : decode prog_1_method_26_code 34 = .ok (.iload 4, 2) := by decide +kernel
theorem d_Bh_setAll_36 : decode prog_1_method_26_code 36 = .ok (.invokevirtual 186, 3) := by decide +kernel
theorem d_Bh_setAll_39 : decode prog_1_method_26_code 39 = .ok (.return_, 1) := by decide +kernel
def f_Bh_setAll (μ : zM) (a1 a2 a3 a4 : Int32) (K : zM → Prop) : Prop := f_Ar_fillI_14 μ (-1 : Int32) (fun μ1 => (∀ μ2 : zM, μ2 = zp μ1 0 5 (0 : Int32) → (f_Bk_clearAll μ2 a1 (fun μ3 => (f_Ck_clearAll μ3 (fun μ4 => (f_Co_clearAll μ4 a2 a3 a4 (fun μ5 => (K μ5)))))))))
set_option maxHeartbeats 4000000 in
set_option maxRecDepth 100000 in
theorem c_Bh_setAll (l : Launch) (E : zE) (μ : zM) (a1 a2 a3 a4 : Int32) (K : zM → Prop) (h : f_Bh_setAll μ a1 a2 a3 a4 K) : Met l y_Bh_setAll (Cond.code y_Bh_setAll prog_1_method_26_code 5 none :: zT) { frames := 2, cells := 0, slots := 0, locals := 44 } (va_Pc [.ref (E.2.1 0), .int a1, .int a2, .int a3, .int a4] (zR zwC E μ)) (va_Qv K (zR zwC E) (zA E)) 0 0 (zA E) := by
  refine z_head (by decide) (Nat.le_of_ble_eq_true rfl) ?_
  intro p e s m below meth c X hr hlk w ls hl
  have X : zX E p s m _ c prog_1_method_26_code "BeatHeap" 5 := X
  have hx := X.1
  have hb := X.2.1
  have hl : lv_has ls 5 [(0, .ref (E.2.1 0)), (1, .int a1), (2, .int a2), (3, .int a3), (4, .int a4)] := hl
  unfold f_Bh_setAll at h
  refine lv_aload_n hx hb d_Bh_setAll_0 rfl (lv_at hl 0 rfl) ?_
  refine gt_0_3 X w w_fl_Bh_30 d_Bh_setAll_1 ?_
  refine lv_iconst (v := (-1)) hx hb d_Bh_setAll_4 (by decide) ?_
  refine z_cSv (As := [.ref (E.2.1 14), .int (-1 : Int32)]) (rest := []) X w (c_Ar_fillI_14 l E μ (-1 : Int32) _ h) w_ml_Bh_175 w_st_Ar_fillI w_in_Ar w_co_Ar_fillI q_Ar_fillI.1 q_Ar_fillI.2 rfl ⟨Nat.le_of_ble_eq_true rfl, Nat.le_of_ble_eq_true rfl⟩ ⟨Nat.zero_le _, Nat.zero_le _⟩ hl.1 rfl (Nat.le_of_ble_eq_true rfl) d_Bh_setAll_5 (fun μ1 H locs h w => ?_)
  refine lv_aload_n hx hb d_Bh_setAll_8 rfl (lv_at hl 0 rfl) ?_
  refine lv_iconst (v := 0) hx hb d_Bh_setAll_9 (by decide) ?_
  refine pt_0_5 X w w_fl_Bh_146 d_Bh_setAll_10 (fun μ2 H locs eμ2 w => ?_)
  have h := h μ2 eμ2
  refine lv_aload_n hx hb d_Bh_setAll_13 rfl (lv_at hl 0 rfl) ?_
  refine gt_0_1 X w w_fl_Bh_20 d_Bh_setAll_14 ?_
  refine lv_iload_n hx hb d_Bh_setAll_17 rfl (lv_at hl 1 rfl) ?_
  refine z_cVv (As := [.int a1]) (rest := []) (q0 := 2) (ci := 0) X w (c_Bk_clearAll l E μ2 a1 _ h) rfl rfl rfl w_ml_Bh_181 ⟨w_im_Bk_clearAll, w_se_Bk_clearAll⟩ w_in_Bk w_co_Bk_clearAll q_Bk_clearAll.1 q_Bk_clearAll.2 rfl ⟨Nat.le_of_ble_eq_true rfl, Nat.le_of_ble_eq_true rfl⟩ ⟨Nat.zero_le _, Nat.zero_le _⟩ hl.1 rfl (Nat.le_of_ble_eq_true rfl) d_Bh_setAll_18 (fun μ3 H locs h w => ?_)
  refine lv_aload_n hx hb d_Bh_setAll_21 rfl (lv_at hl 0 rfl) ?_
  refine gt_0_2 X w w_fl_Bh_25 d_Bh_setAll_22 ?_
  refine z_cVv (As := []) (rest := []) (q0 := 10) (ci := 1) X w (c_Ck_clearAll l E μ3 _ h) rfl rfl rfl w_ml_Bh_184 ⟨w_im_Ck_clearAll, w_se_Ck_clearAll⟩ w_in_Ck w_co_Ck_clearAll q_Ck_clearAll.1 q_Ck_clearAll.2 rfl ⟨Nat.le_of_ble_eq_true rfl, Nat.le_of_ble_eq_true rfl⟩ ⟨Nat.zero_le _, Nat.zero_le _⟩ hl.1 rfl (Nat.le_of_ble_eq_true rfl) d_Bh_setAll_25 (fun μ4 H locs h w => ?_)
  refine lv_aload_n hx hb d_Bh_setAll_28 rfl (lv_at hl 0 rfl) ?_
  refine gt_0_0 X w w_fl_Bh_12 d_Bh_setAll_29 ?_
  refine lv_iload_n hx hb d_Bh_setAll_32 rfl (lv_at hl 2 rfl) ?_
  refine lv_iload_n hx hb d_Bh_setAll_33 rfl (lv_at hl 3 rfl) ?_
  refine lv_iload hx hb d_Bh_setAll_34 (lv_at hl 4 rfl) ?_
  refine z_cVv (As := [.int a2, .int a3, .int a4]) (rest := []) (q0 := 1) (ci := 2) X w (c_Co_clearAll l E μ4 a2 a3 a4 _ h) rfl rfl rfl w_ml_Bh_186 ⟨w_im_Co_clearAll, w_se_Co_clearAll⟩ w_in_Co w_co_Co_clearAll q_Co_clearAll.1 q_Co_clearAll.2 rfl ⟨Nat.le_of_ble_eq_true rfl, Nat.le_of_ble_eq_true rfl⟩ ⟨Nat.zero_le _, Nat.zero_le _⟩ hl.1 rfl (Nat.le_of_ble_eq_true rfl) d_Bh_setAll_36 (fun μ5 H locs h w => ?_)
  exact z_vret X hr hlk w h d_Bh_setAll_39
theorem q_Bh_within : (y_Bh_within.cls ≠ "java/lang/invoke/MethodHandle" ∧ y_Bh_within.cls ≠ "java/lang/invoke/VarHandle") ∧ (parseMethodDescriptor y_Bh_within.desc).map (fun d => d.parameters.length) = some 3 := by decide +kernel
theorem d_Bh_within_0 : decode prog_1_method_20_code 0 = .ok (.iload_n 0, 1) := by decide +kernel
theorem d_Bh_within_1 : decode prog_1_method_20_code 1 = .ok (.iload_n 1, 1) := by decide +kernel
theorem d_Bh_within_2 : decode prog_1_method_20_code 2 = .ok (.if_icmp .lt 12, 3) := by decide +kernel
theorem d_Bh_within_5 : decode prog_1_method_20_code 5 = .ok (.iload_n 0, 1) := by decide +kernel
theorem d_Bh_within_6 : decode prog_1_method_20_code 6 = .ok (.iload_n 2, 1) := by decide +kernel
theorem d_Bh_within_7 : decode prog_1_method_20_code 7 = .ok (.if_icmp .gt 7, 3) := by decide +kernel
theorem d_Bh_within_10 : decode prog_1_method_20_code 10 = .ok (.iconst 1, 1) := by decide +kernel
theorem d_Bh_within_11 : decode prog_1_method_20_code 11 = .ok (.goto 4, 3) := by decide +kernel
theorem d_Bh_within_14 : decode prog_1_method_20_code 14 = .ok (.iconst 0, 1) := by decide +kernel
theorem d_Bh_within_15 : decode prog_1_method_20_code 15 = .ok (.ireturn, 1) := by decide +kernel
def f_Bh_within (μ : zM) (a0 a1 a2 : Int32) (K : Int32 → zM → Prop) : Prop := (a0 < a1 → (K (0 : Int32) μ)) ∧ (¬ a0 < a1 → ((a2 < a0 → (K (0 : Int32) μ)) ∧ (¬ a2 < a0 → (K (1 : Int32) μ))))
set_option maxHeartbeats 4000000 in
set_option maxRecDepth 100000 in
theorem c_Bh_within (l : Launch) (E : zE) (μ : zM) (a0 a1 a2 : Int32) (K : Int32 → zM → Prop) (h : f_Bh_within μ a0 a1 a2 K) : Met l y_Bh_within (Cond.code y_Bh_within prog_1_method_20_code 3 (some .boolean) :: zT) { frames := 0, cells := 0, slots := 0, locals := 0 } (va_Pc [.int a0, .int a1, .int a2] (zR zwC E μ)) (va_Qi K (zR zwC E) (zA E)) 0 0 (zA E) := by
  refine z_head (by decide) (Nat.le_of_ble_eq_true rfl) ?_
  intro p e s m below meth c X hr hlk w ls hl
  have X : zX E p s m _ c prog_1_method_20_code "BeatHeap" 3 := X
  have hx := X.1
  have hb := X.2.1
  have hl : lv_has ls 3 [(0, .int a0), (1, .int a1), (2, .int a2)] := hl
  unfold f_Bh_within at h
  refine lv_iload_n hx hb d_Bh_within_0 rfl (lv_at hl 0 rfl) ?_
  refine lv_iload_n hx hb d_Bh_within_1 rfl (lv_at hl 1 rfl) ?_
  refine lv_icmp_lt (tgt := 14) hx hb d_Bh_within_2 (by decide) (fun c1 => ?_) (fun c1 => ?_)
  · have h := h.1 c1
    refine lv_iconst (v := 0) hx hb d_Bh_within_14 (by decide) ?_
    exact z_zret X hr hlk w (by decide) h d_Bh_within_15
  · have h := h.2 c1
    refine lv_iload_n hx hb d_Bh_within_5 rfl (lv_at hl 0 rfl) ?_
    refine lv_iload_n hx hb d_Bh_within_6 rfl (lv_at hl 2 rfl) ?_
    refine lv_icmp_gt (tgt := 14) hx hb d_Bh_within_7 (by decide) (fun c2 => ?_) (fun c2 => ?_)
    · have h := h.1 c2
      refine lv_iconst (v := 0) hx hb d_Bh_within_14 (by decide) ?_
      exact z_zret X hr hlk w (by decide) h d_Bh_within_15
    · have h := h.2 c2
      refine lv_iconst (v := 1) hx hb d_Bh_within_10 (by decide) ?_
      refine lv_goto (tgt := 15) hx hb d_Bh_within_11 (by decide) ?_
      exact z_zret X hr hlk w (by decide) h d_Bh_within_15
