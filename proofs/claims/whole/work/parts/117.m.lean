theorem q_Mo_meet : (y_Mo_meet.cls ≠ "java/lang/invoke/MethodHandle" ∧ y_Mo_meet.cls ≠ "java/lang/invoke/VarHandle") ∧ (parseMethodDescriptor y_Mo_meet.desc).map (fun d => d.parameters.length) = some 0 := by decide +kernel
theorem d_Mo_meet_0 : decode prog_8_method_40_code 0 = .ok (.iconst 0, 1) := by decide +kernel
theorem d_Mo_meet_1 : decode prog_8_method_40_code 1 = .ok (.istore_n 1, 1) := by decide +kernel
theorem d_Mo_meet_2 : decode prog_8_method_40_code 2 = .ok (.iload_n 1, 1) := by decide +kernel
theorem d_Mo_meet_3 : decode prog_8_method_40_code 3 = .ok (.sipush 4096, 3) := by decide +kernel
theorem d_Mo_meet_6 : decode prog_8_method_40_code 6 = .ok (.if_icmp .ge 16, 3) := by decide +kernel
theorem d_Mo_meet_9 : decode prog_8_method_40_code 9 = .ok (.aload_n 0, 1) := by decide +kernel
theorem d_Mo_meet_10 : decode prog_8_method_40_code 10 = .ok (.getfield 38, 3) := by decide +kernel
theorem d_Mo_meet_13 : decode prog_8_method_40_code 13 = .ok (.iload_n 1, 1) := by decide +kernel
theorem d_Mo_meet_14 : decode prog_8_method_40_code 14 = .ok (.iconst 0, 1) := by decide +kernel
theorem d_Mo_meet_15 : decode prog_8_method_40_code 15 = .ok (.bastore, 1) := by decide +kernel
theorem d_Mo_meet_16 : decode prog_8_method_40_code 16 = .ok (.iinc 1 1, 3) := by decide +kernel
theorem d_Mo_meet_19 : decode prog_8_method_40_code 19 = .ok (.goto (-17), 3) := by decide +kernel
theorem d_Mo_meet_22 : decode prog_8_method_40_code 22 = .ok (.aload_n 0, 1) := by decide +kernel
theorem d_Mo_meet_23 : decode prog_8_method_40_code 23 = .ok (.iconst 0, 1) := by decide +kernel
theorem d_Mo_meet_24 : decode prog_8_method_40_code 24 = .ok (.putfield 164, 3) := by decide +kernel
theorem d_Mo_meet_27 : decode prog_8_method_40_code 27 = .ok (.aload_n 0, 1) := by decide +kernel
theorem d_Mo_meet_28 : decode prog_8_method_40_code 28 = .ok (.iconst 1, 1) := by decide +kernel
theorem d_Mo_meet_29 : decode prog_8_method_40_code 29 = .ok (.putfield 167, 3) := by decide +kernel
theorem d_Mo_meet_32 : decode prog_8_method_40_code 32 = .ok (.iconst 0, 1) := by decide +kernel
theorem d_Mo_meet_33 : decode prog_8_method_40_code 33 = .ok (.istore_n 1, 1) := by decide +kernel
theorem d_Mo_meet_34 : decode prog_8_method_40_code 34 = .ok (.iload_n 1, 1) := by decide +kernel
theorem d_Mo_meet_35 : decode prog_8_method_40_code 35 = .ok (.bipush 16, 2) := by decide +kernel
theorem d_Mo_meet_37 : decode prog_8_method_40_code 37 = .ok (.if_icmp .ge 20, 3) := by decide +kernel
theorem d_Mo_meet_40 : decode prog_8_method_40_code 40 = .ok (.aload_n 0, 1) := by decide +kernel
theorem d_Mo_meet_41 : decode prog_8_method_40_code 41 = .ok (.aload_n 0, 1) := by decide +kernel
theorem d_Mo_meet_42 : decode prog_8_method_40_code 42 = .ok (.getfield 29, 3) := by decide +kernel
theorem d_Mo_meet_45 : decode prog_8_method_40_code 45 = .ok (.iload_n 1, 1) := by decide +kernel
theorem d_Mo_meet_46 : decode prog_8_method_40_code 46 = .ok (.iaload, 1) := by decide +kernel
theorem d_Mo_meet_47 : decode prog_8_method_40_code 47 = .ok (.iconst 0, 1) := by decide +kernel
theorem d_Mo_meet_48 : decode prog_8_method_40_code 48 = .ok (.invokevirtual 171, 3) := by decide +kernel
theorem d_Mo_meet_51 : decode prog_8_method_40_code 51 = .ok (.iinc 1 1, 3) := by decide +kernel
theorem d_Mo_meet_54 : decode prog_8_method_40_code 54 = .ok (.goto (-20), 3) := by decide +kernel
theorem d_Mo_meet_57 : decode prog_8_method_40_code 57 = .ok (.iconst 1, 1) := by decide +kernel
theorem d_Mo_meet_58 : decode prog_8_method_40_code 58 = .ok (.istore_n 1, 1) := by decide +kernel
theorem d_Mo_meet_59 : decode prog_8_method_40_code 59 = .ok (.iload_n 1, 1) := by decide +kernel
theorem d_Mo_meet_60 : decode prog_8_method_40_code 60 = .ok (.ifCond .eq 113, 3) := by decide +kernel
theorem d_Mo_meet_63 : decode prog_8_method_40_code 63 = .ok (.aload_n 0, 1) := by decide +kernel
theorem d_Mo_meet_64 : decode prog_8_method_40_code 64 = .ok (.getfield 164, 3) := by decide +kernel
theorem d_Mo_meet_67 : decode prog_8_method_40_code 67 = .ok (.istore_n 2, 1) := by decide +kernel
theorem d_Mo_meet_68 : decode prog_8_method_40_code 68 = .ok (.iconst 0, 1) := by decide +kernel
theorem d_Mo_meet_69 : decode prog_8_method_40_code 69 = .ok (.istore_n 3, 1) := by decide +kernel
theorem d_Mo_meet_70 : decode prog_8_method_40_code 70 = .ok (.iload_n 3, 1) := by decide +kernel
theorem d_Mo_meet_71 : decode prog_8_method_40_code 71 = .ok (.bipush 64, 2) := by decide +kernel
theorem d_Mo_meet_73 : decode prog_8_method_40_code 73 = .ok (.aload_n 0, 1) := by decide +kernel
theorem d_Mo_meet_74 : decode prog_8_method_40_code 74 = .ok (.getfield 45, 3) := by decide +kernel
theorem d_Mo_meet_77 : decode prog_8_method_40_code 77 = .ok (.imul, 1) := by decide +kernel
theorem d_Mo_meet_78 : decode prog_8_method_40_code 78 = .ok (.if_icmp .ge 78, 3) := by decide +kernel
theorem d_Mo_meet_81 : decode prog_8_method_40_code 81 = .ok (.iconst 1, 1) := by decide +kernel
theorem d_Mo_meet_82 : decode prog_8_method_40_code 82 = .ok (.istore 4, 2) := by decide +kernel
theorem d_Mo_meet_84 : decode prog_8_method_40_code 84 = .ok (.aload_n 0, 1) := by decide +kernel
theorem d_Mo_meet_85 : decode prog_8_method_40_code 85 = .ok (.getfield 38, 3) := by decide +kernel
theorem d_Mo_meet_88 : decode prog_8_method_40_code 88 = .ok (.iload_n 3, 1) := by decide +kernel
theorem d_Mo_meet_89 : decode prog_8_method_40_code 89 = .ok (.baload, 1) := by decide +kernel
theorem d_Mo_meet_90 : decode prog_8_method_40_code 90 = .ok (.ifCond .eq 60, 3) := by decide +kernel
theorem d_Mo_meet_93 : decode prog_8_method_40_code 93 = .ok (.aload_n 0, 1) := by decide +kernel
theorem d_Mo_meet_94 : decode prog_8_method_40_code 94 = .ok (.getfield 16, 3) := by decide +kernel
theorem d_Mo_meet_97 : decode prog_8_method_40_code 97 = .ok (.iload_n 3, 1) := by decide +kernel
theorem d_Mo_meet_98 : decode prog_8_method_40_code 98 = .ok (.iaload, 1) := by decide +kernel
theorem d_Mo_meet_99 : decode prog_8_method_40_code 99 = .ok (.iconst 3, 1) := by decide +kernel
theorem d_Mo_meet_100 : decode prog_8_method_40_code 100 = .ok (.if_icmp .eq 50, 3) := by decide +kernel
theorem d_Mo_meet_103 : decode prog_8_method_40_code 103 = .ok (.iload 4, 2) := by decide +kernel
theorem d_Mo_meet_105 : decode prog_8_method_40_code 105 = .ok (.aload_n 0, 1) := by decide +kernel
theorem d_Mo_meet_106 : decode prog_8_method_40_code 106 = .ok (.getfield 23, 3) := by decide +kernel
theorem d_Mo_meet_109 : decode prog_8_method_40_code 109 = .ok (.iload_n 3, 1) := by decide +kernel
theorem d_Mo_meet_110 : decode prog_8_method_40_code 110 = .ok (.iaload, 1) := by decide +kernel
theorem d_Mo_meet_111 : decode prog_8_method_40_code 111 = .ok (.if_icmp .gt 39, 3) := by decide +kernel
theorem d_Mo_meet_114 : decode prog_8_method_40_code 114 = .ok (.aload_n 0, 1) := by decide +kernel
theorem d_Mo_meet_115 : decode prog_8_method_40_code 115 = .ok (.aload_n 0, 1) := by decide +kernel
theorem d_Mo_meet_116 : decode prog_8_method_40_code 116 = .ok (.getfield 7, 3) := by decide +kernel
theorem d_Mo_meet_119 : decode prog_8_method_40_code 119 = .ok (.iload_n 3, 1) := by decide +kernel
theorem d_Mo_meet_120 : decode prog_8_method_40_code 120 = .ok (.iload 4, 2) := by decide +kernel
theorem d_Mo_meet_122 : decode prog_8_method_40_code 122 = .ok (.iadd, 1) := by decide +kernel
theorem d_Mo_meet_123 : decode prog_8_method_40_code 123 = .ok (.iaload, 1) := by decide +kernel
theorem d_Mo_meet_124 : decode prog_8_method_40_code 124 = .ok (.iconst 1, 1) := by decide +kernel
theorem d_Mo_meet_125 : decode prog_8_method_40_code 125 = .ok (.isub, 1) := by decide +kernel
theorem d_Mo_meet_126 : decode prog_8_method_40_code 126 = .ok (.aload_n 0, 1) := by decide +kernel
theorem d_Mo_meet_127 : decode prog_8_method_40_code 127 = .ok (.getfield 16, 3) := by decide +kernel
theorem d_Mo_meet_130 : decode prog_8_method_40_code 130 = .ok (.iload_n 3, 1) := by decide +kernel
theorem d_Mo_meet_131 : decode prog_8_method_40_code 131 = .ok (.iaload, 1) := by decide +kernel
theorem d_Mo_meet_132 : decode prog_8_method_40_code 132 = .ok (.iconst 2, 1) := by decide +kernel
theorem d_Mo_meet_133 : decode prog_8_method_40_code 133 = .ok (.if_icmp .ne 7, 3) := by decide +kernel
theorem d_Mo_meet_136 : decode prog_8_method_40_code 136 = .ok (.iconst 1, 1) := by decide +kernel
theorem d_Mo_meet_137 : decode prog_8_method_40_code 137 = .ok (.goto 4, 3) := by decide +kernel
theorem d_Mo_meet_140 : decode prog_8_method_40_code 140 = .ok (.iconst 0, 1) := by decide +kernel
theorem d_Mo_meet_141 : decode prog_8_method_40_code 141 = .ok (.invokevirtual 171, 3) := by decide +kernel
theorem d_Mo_meet_144 : decode prog_8_method_40_code 144 = .ok (.iinc 4 1, 3) := by decide +kernel
theorem d_Mo_meet_147 : decode prog_8_method_40_code 147 = .ok (.goto (-63), 3) := by decide +kernel
theorem d_Mo_meet_150 : decode prog_8_method_40_code 150 = .ok (.iinc 3 1, 3) := by decide +kernel
theorem d_Mo_meet_153 : decode prog_8_method_40_code 153 = .ok (.goto (-83), 3) := by decide +kernel
theorem d_Mo_meet_156 : decode prog_8_method_40_code 156 = .ok (.aload_n 0, 1) := by decide +kernel
theorem d_Mo_meet_157 : decode prog_8_method_40_code 157 = .ok (.getfield 164, 3) := by decide +kernel
theorem d_Mo_meet_160 : decode prog_8_method_40_code 160 = .ok (.iload_n 2, 1) := by decide +kernel
theorem d_Mo_meet_161 : decode prog_8_method_40_code 161 = .ok (.if_icmp .le 7, 3) := by decide +kernel
theorem d_Mo_meet_164 : decode prog_8_method_40_code 164 = .ok (.iconst 1, 1) := by decide +kernel
theorem d_Mo_meet_165 : decode prog_8_method_40_code 165 = .ok (.goto 4, 3) := by decide +kernel
theorem d_Mo_meet_168 : decode prog_8_method_40_code 168 = .ok (.iconst 0, 1) := by decide +kernel
theorem d_Mo_meet_169 : decode prog_8_method_40_code 169 = .ok (.istore_n 1, 1) := by decide +kernel
theorem d_Mo_meet_170 : decode prog_8_method_40_code 170 = .ok (.goto (-111), 3) := by decide +kernel
theorem d_Mo_meet_173 : decode prog_8_method_40_code 173 = .ok (.return_, 1) := by decide +kernel
noncomputable def F_Mo_meet_84 (K : zM → Prop) (C59 : Int32 → zM → Prop) (C70 : Int32 → Int32 → zM → Prop) (n : Nat) : Int32 → Int32 → Int32 → zM → Prop := Nat.rec (motive := fun _ => Int32 → Int32 → Int32 → zM → Prop) (fun _ _ _ _ => False) (fun _ ih x2 x3 x4 μ => vp_in x3 4096 ∧ (((μ 29 x3.toNatClampNeg) = 0 → (∀ x11 : Int32, x11 = x3 + 1 → (C70 x2 x11 μ))) ∧ (¬ (μ 29 x3.toNatClampNeg) = 0 → (vp_in x3 4096 ∧ (((μ 22 x3.toNatClampNeg) = (3 : Int32) → (∀ x14 : Int32, x14 = x3 + 1 → (C70 x2 x14 μ))) ∧ (¬ (μ 22 x3.toNatClampNeg) = (3 : Int32) → (vp_in x3 4096 ∧ (((μ 24 x3.toNatClampNeg) < x4 → (∀ x17 : Int32, x17 = x3 + 1 → (C70 x2 x17 μ))) ∧ (¬ (μ 24 x3.toNatClampNeg) < x4 → (vp_in (x3 + x4) 4096 ∧ (vp_in x3 4096 ∧ ((¬ (μ 22 x3.toNatClampNeg) = (2 : Int32) → (f_Mo_meetOne μ ((μ 20 (x3 + x4).toNatClampNeg) - (1 : Int32)) (0 : Int32) (fun μ21 => (∀ x22 : Int32, x22 = x4 + 1 → (ih x2 x3 x22 μ21))))) ∧ ((μ 22 x3.toNatClampNeg) = (2 : Int32) → (f_Mo_meetOne μ ((μ 20 (x3 + x4).toNatClampNeg) - (1 : Int32)) (1 : Int32) (fun μ23 => (∀ x24 : Int32, x24 = x4 + 1 → (ih x2 x3 x24 μ23))))))))))))))))) n
noncomputable def F_Mo_meet_70 (K : zM → Prop) (C59 : Int32 → zM → Prop) (n : Nat) : Int32 → Int32 → zM → Prop := Nat.rec (motive := fun _ => Int32 → Int32 → zM → Prop) (fun _ _ _ => False) (fun _ ih x2 x3 μ => (((64 : Int32) * (μ 19 0)) ≤ x3 → (((μ 19 26) ≤ x2 → (C59 (0 : Int32) μ)) ∧ (¬ (μ 19 26) ≤ x2 → (C59 (1 : Int32) μ)))) ∧ (¬ ((64 : Int32) * (μ 19 0)) ≤ x3 → (∃ n : Nat, F_Mo_meet_84 K C59 ih n x2 x3 (1 : Int32) μ))) n
noncomputable def F_Mo_meet_59 (K : zM → Prop) (n : Nat) : Int32 → zM → Prop := Nat.rec (motive := fun _ => Int32 → zM → Prop) (fun _ _ => False) (fun _ ih x1 μ => (x1 = 0 → (K μ)) ∧ (¬ x1 = 0 → (∀ x6 : Int32, x6 = (μ 19 26) → (∃ n : Nat, F_Mo_meet_70 K ih n x6 (0 : Int32) μ)))) n
noncomputable def F_Mo_meet_34 (K : zM → Prop) (n : Nat) : Int32 → zM → Prop := Nat.rec (motive := fun _ => Int32 → zM → Prop) (fun _ _ => False) (fun _ ih x1 μ => ((16 : Int32) ≤ x1 → (∃ n : Nat, F_Mo_meet_59 K n (1 : Int32) μ)) ∧ (¬ (16 : Int32) ≤ x1 → (vp_in x1 16 ∧ (f_Mo_meetOne μ (μ 26 x1.toNatClampNeg) (0 : Int32) (fun μ26 => (∀ x27 : Int32, x27 = x1 + 1 → (ih x27 μ26))))))) n
noncomputable def F_Mo_meet_2 (K : zM → Prop) (n : Nat) : Int32 → zM → Prop := Nat.rec (motive := fun _ => Int32 → zM → Prop) (fun _ _ => False) (fun _ ih x1 μ => ((4096 : Int32) ≤ x1 → (∀ μ2 : zM, μ2 = zp μ 19 26 (0 : Int32) → (∀ μ3 : zM, μ3 = zp μ2 19 27 (1 : Int32) → (∃ n : Nat, F_Mo_meet_34 K n (0 : Int32) μ3)))) ∧ (¬ (4096 : Int32) ≤ x1 → (vp_in x1 4096 ∧ ∀ μ29 : zM, μ29 = zp μ 29 x1.toNatClampNeg (vp_nar .boolean (0 : Int32)) → (∀ x30 : Int32, x30 = x1 + 1 → (ih x30 μ29))))) n
def f_Mo_meet (μ : zM) (K : zM → Prop) : Prop := ∃ n : Nat, F_Mo_meet_2 K n (0 : Int32) μ
set_option maxHeartbeats 4000000 in
set_option maxRecDepth 100000 in
theorem L_Mo_meet_84 {p : Program} {l : Launch} {e : Env} {s : State} {m : MethodId} {args : Array Value} {below : List Frame} {meth : Method} {c : Code} {E : zE} (X : zX E p s m args c prog_8_method_40_code "BeatHeapModel" 5) (hr : meth.sig.returnType = none) (hlk : meth.locks = false) (K : zM → Prop) (C59 : Int32 → zM → Prop) (C70 : Int32 → Int32 → zM → Prop) (hC59 : ∀ (x1 : Int32) (μ : zM) (H : Heap) (locs : List Loc) (ls : Array Slot), C59 x1 μ → zW zwM E s μ H locs → lv_has ls 5 [(0, .ref (E.2.1 19)), (1, .int x1)] → W p l e { frames := 1, cells := 0, slots := 0, locals := 22 } s m args below meth c H locs 0 0 (MQ below (va_Qv K (zR zwM E) (zA E)) args s 0 0 (zA E)) (F0 m 59 ls [])) (hC70 : ∀ (x2 x3 : Int32) (μ : zM) (H : Heap) (locs : List Loc) (ls : Array Slot), C70 x2 x3 μ → zW zwM E s μ H locs → lv_has ls 5 [(0, .ref (E.2.1 19)), (2, .int x2), (3, .int x3)] → W p l e { frames := 1, cells := 0, slots := 0, locals := 22 } s m args below meth c H locs 0 0 (MQ below (va_Qv K (zR zwM E) (zA E)) args s 0 0 (zA E)) (F0 m 70 ls [])) : ∀ (n : Nat) (x2 x3 x4 : Int32) (μ : zM) (H : Heap) (locs : List Loc) (ls : Array Slot), F_Mo_meet_84 K C59 C70 n x2 x3 x4 μ → zW zwM E s μ H locs → lv_has ls 5 [(0, .ref (E.2.1 19)), (2, .int x2), (3, .int x3), (4, .int x4)] → W p l e { frames := 1, cells := 0, slots := 0, locals := 22 } s m args below meth c H locs 0 0 (MQ below (va_Qv K (zR zwM E) (zA E)) args s 0 0 (zA E)) (F0 m 84 ls []) := by
  have hx := X.1
  have hb := X.2.1
  intro n
  induction n with
  | zero => intro x2 x3 x4 μ H locs ls h; exact False.elim h
  | succ n ih =>
    intro x2 x3 x4 μ H locs ls h w hl
    refine lv_aload_n hx hb d_Mo_meet_84 rfl (lv_at hl 0 rfl) ?_
    refine gt_19_25 X w w_fl_Mo_38 d_Mo_meet_85 ?_
    refine lv_iload_n hx hb d_Mo_meet_88 rfl (lv_at hl 2 rfl) ?_
    obtain ⟨hi9, h⟩ := h
    refine al_29 X w hi9 d_Mo_meet_89 ?_
    refine lv_if_eq (tgt := 150) hx hb d_Mo_meet_90 (by decide) (fun c10 => ?_) (fun c10 => ?_)
    · have h := h.1 c10
      obtain ⟨x11, ex11⟩ : ∃ y : Int32, y = x3 + 1 := ⟨_, rfl⟩
      have h := h x11 ex11
      refine lv_iinc (v := x11) (lv' := [(3, .int x11), (0, .ref (E.2.1 19)), (2, .int x2), (4, .int x4)]) hx hb d_Mo_meet_150 hl (k := 2) rfl (by rw [ex11]; rfl) (by decide) rfl (fun ls hl => ?_)
      refine lv_goto (tgt := 70) hx hb d_Mo_meet_153 (by decide) ?_
      exact hC70 x2 x11 μ _ _ _ h w (lv_sub hl [1, 2, 0] rfl)
    · have h := h.2 c10
      refine lv_aload_n hx hb d_Mo_meet_93 rfl (lv_at hl 0 rfl) ?_
      refine gt_19_6 X w w_fl_Mo_16 d_Mo_meet_94 ?_
      refine lv_iload_n hx hb d_Mo_meet_97 rfl (lv_at hl 2 rfl) ?_
      obtain ⟨hi12, h⟩ := h
      refine al_22 X w hi12 d_Mo_meet_98 ?_
      refine lv_iconst (v := 3) hx hb d_Mo_meet_99 (by decide) ?_
      refine lv_icmp_eq (tgt := 150) hx hb d_Mo_meet_100 (by decide) (fun c13 => ?_) (fun c13 => ?_)
      · have h := h.1 c13
        obtain ⟨x14, ex14⟩ : ∃ y : Int32, y = x3 + 1 := ⟨_, rfl⟩
        have h := h x14 ex14
        refine lv_iinc (v := x14) (lv' := [(3, .int x14), (0, .ref (E.2.1 19)), (2, .int x2), (4, .int x4)]) hx hb d_Mo_meet_150 hl (k := 2) rfl (by rw [ex14]; rfl) (by decide) rfl (fun ls hl => ?_)
        refine lv_goto (tgt := 70) hx hb d_Mo_meet_153 (by decide) ?_
        exact hC70 x2 x14 μ _ _ _ h w (lv_sub hl [1, 2, 0] rfl)
      · have h := h.2 c13
        refine lv_iload hx hb d_Mo_meet_103 (lv_at hl 3 rfl) ?_
        refine lv_aload_n hx hb d_Mo_meet_105 rfl (lv_at hl 0 rfl) ?_
        refine gt_19_8 X w w_fl_Mo_23 d_Mo_meet_106 ?_
        refine lv_iload_n hx hb d_Mo_meet_109 rfl (lv_at hl 2 rfl) ?_
        obtain ⟨hi15, h⟩ := h
        refine al_24 X w hi15 d_Mo_meet_110 ?_
        refine lv_icmp_gt (tgt := 150) hx hb d_Mo_meet_111 (by decide) (fun c16 => ?_) (fun c16 => ?_)
        · have h := h.1 c16
          obtain ⟨x17, ex17⟩ : ∃ y : Int32, y = x3 + 1 := ⟨_, rfl⟩
          have h := h x17 ex17
          refine lv_iinc (v := x17) (lv' := [(3, .int x17), (0, .ref (E.2.1 19)), (2, .int x2), (4, .int x4)]) hx hb d_Mo_meet_150 hl (k := 2) rfl (by rw [ex17]; rfl) (by decide) rfl (fun ls hl => ?_)
          refine lv_goto (tgt := 70) hx hb d_Mo_meet_153 (by decide) ?_
          exact hC70 x2 x17 μ _ _ _ h w (lv_sub hl [1, 2, 0] rfl)
        · have h := h.2 c16
          refine lv_aload_n hx hb d_Mo_meet_114 rfl (lv_at hl 0 rfl) ?_
          refine lv_aload_n hx hb d_Mo_meet_115 rfl (lv_at hl 0 rfl) ?_
          refine gt_19_4 X w w_fl_Mo_7 d_Mo_meet_116 ?_
          refine lv_iload_n hx hb d_Mo_meet_119 rfl (lv_at hl 2 rfl) ?_
          refine lv_iload hx hb d_Mo_meet_120 (lv_at hl 3 rfl) ?_
          refine lv_iadd hx hb d_Mo_meet_122 ?_
          obtain ⟨hi18, h⟩ := h
          refine al_20 X w hi18 d_Mo_meet_123 ?_
          refine lv_iconst (v := 1) hx hb d_Mo_meet_124 (by decide) ?_
          refine lv_isub hx hb d_Mo_meet_125 ?_
          refine lv_aload_n hx hb d_Mo_meet_126 rfl (lv_at hl 0 rfl) ?_
          refine gt_19_6 X w w_fl_Mo_16 d_Mo_meet_127 ?_
          refine lv_iload_n hx hb d_Mo_meet_130 rfl (lv_at hl 2 rfl) ?_
          obtain ⟨hi19, h⟩ := h
          refine al_22 X w hi19 d_Mo_meet_131 ?_
          refine lv_iconst (v := 2) hx hb d_Mo_meet_132 (by decide) ?_
          refine lv_icmp_ne (tgt := 140) hx hb d_Mo_meet_133 (by decide) (fun c20 => ?_) (fun c20 => ?_)
          · have h := h.1 c20
            refine lv_iconst (v := 0) hx hb d_Mo_meet_140 (by decide) ?_
            refine z_cVv (As := [.int ((μ 20 (x3 + x4).toNatClampNeg) - (1 : Int32)), .int (0 : Int32)]) (rest := []) (q0 := 0) (ci := 6) X w (c_Mo_meetOne l E μ ((μ 20 (x3 + x4).toNatClampNeg) - (1 : Int32)) (0 : Int32) _ h) rfl rfl rfl w_ml_Mo_171 ⟨w_im_Mo_meetOne, w_se_Mo_meetOne⟩ w_in_Mo w_co_Mo_meetOne q_Mo_meetOne.1 q_Mo_meetOne.2 rfl ⟨Nat.le_of_ble_eq_true rfl, Nat.le_of_ble_eq_true rfl⟩ ⟨Nat.zero_le _, Nat.zero_le _⟩ hl.1 rfl (Nat.le_of_ble_eq_true rfl) d_Mo_meet_141 (fun μ21 H locs h w => ?_)
            obtain ⟨x22, ex22⟩ : ∃ y : Int32, y = x4 + 1 := ⟨_, rfl⟩
            have h := h x22 ex22
            refine lv_iinc (v := x22) (lv' := [(4, .int x22), (0, .ref (E.2.1 19)), (2, .int x2), (3, .int x3)]) hx hb d_Mo_meet_144 hl (k := 3) rfl (by rw [ex22]; rfl) (by decide) rfl (fun ls hl => ?_)
            refine lv_goto (tgt := 84) hx hb d_Mo_meet_147 (by decide) ?_
            exact ih x2 x3 x22 μ21 _ _ _ h w (lv_sub hl [1, 2, 3, 0] rfl)
          · have h := h.2 c20
            refine lv_iconst (v := 1) hx hb d_Mo_meet_136 (by decide) ?_
            refine lv_goto (tgt := 141) hx hb d_Mo_meet_137 (by decide) ?_
            refine z_cVv (As := [.int ((μ 20 (x3 + x4).toNatClampNeg) - (1 : Int32)), .int (1 : Int32)]) (rest := []) (q0 := 0) (ci := 6) X w (c_Mo_meetOne l E μ ((μ 20 (x3 + x4).toNatClampNeg) - (1 : Int32)) (1 : Int32) _ h) rfl rfl rfl w_ml_Mo_171 ⟨w_im_Mo_meetOne, w_se_Mo_meetOne⟩ w_in_Mo w_co_Mo_meetOne q_Mo_meetOne.1 q_Mo_meetOne.2 rfl ⟨Nat.le_of_ble_eq_true rfl, Nat.le_of_ble_eq_true rfl⟩ ⟨Nat.zero_le _, Nat.zero_le _⟩ hl.1 rfl (Nat.le_of_ble_eq_true rfl) d_Mo_meet_141 (fun μ23 H locs h w => ?_)
            obtain ⟨x24, ex24⟩ : ∃ y : Int32, y = x4 + 1 := ⟨_, rfl⟩
            have h := h x24 ex24
            refine lv_iinc (v := x24) (lv' := [(4, .int x24), (0, .ref (E.2.1 19)), (2, .int x2), (3, .int x3)]) hx hb d_Mo_meet_144 hl (k := 3) rfl (by rw [ex24]; rfl) (by decide) rfl (fun ls hl => ?_)
            refine lv_goto (tgt := 84) hx hb d_Mo_meet_147 (by decide) ?_
            exact ih x2 x3 x24 μ23 _ _ _ h w (lv_sub hl [1, 2, 3, 0] rfl)

set_option maxHeartbeats 4000000 in
set_option maxRecDepth 100000 in
theorem L_Mo_meet_70 {p : Program} {l : Launch} {e : Env} {s : State} {m : MethodId} {args : Array Value} {below : List Frame} {meth : Method} {c : Code} {E : zE} (X : zX E p s m args c prog_8_method_40_code "BeatHeapModel" 5) (hr : meth.sig.returnType = none) (hlk : meth.locks = false) (K : zM → Prop) (C59 : Int32 → zM → Prop) (hC59 : ∀ (x1 : Int32) (μ : zM) (H : Heap) (locs : List Loc) (ls : Array Slot), C59 x1 μ → zW zwM E s μ H locs → lv_has ls 5 [(0, .ref (E.2.1 19)), (1, .int x1)] → W p l e { frames := 1, cells := 0, slots := 0, locals := 22 } s m args below meth c H locs 0 0 (MQ below (va_Qv K (zR zwM E) (zA E)) args s 0 0 (zA E)) (F0 m 59 ls [])) : ∀ (n : Nat) (x2 x3 : Int32) (μ : zM) (H : Heap) (locs : List Loc) (ls : Array Slot), F_Mo_meet_70 K C59 n x2 x3 μ → zW zwM E s μ H locs → lv_has ls 5 [(0, .ref (E.2.1 19)), (2, .int x2), (3, .int x3)] → W p l e { frames := 1, cells := 0, slots := 0, locals := 22 } s m args below meth c H locs 0 0 (MQ below (va_Qv K (zR zwM E) (zA E)) args s 0 0 (zA E)) (F0 m 70 ls []) := by
  have hx := X.1
  have hb := X.2.1
  intro n
  induction n with
  | zero => intro x2 x3 μ H locs ls h; exact False.elim h
  | succ n ih =>
    intro x2 x3 μ H locs ls h w hl
    refine lv_iload_n hx hb d_Mo_meet_70 rfl (lv_at hl 2 rfl) ?_
    refine lv_bipush (v := 64) hx hb d_Mo_meet_71 (by decide) ?_
    refine lv_aload_n hx hb d_Mo_meet_73 rfl (lv_at hl 0 rfl) ?_
    refine gt_19_0 X w w_fl_Mo_45 d_Mo_meet_74 ?_
    refine lv_imul hx hb d_Mo_meet_77 ?_
    refine lv_icmp_ge (tgt := 156) hx hb d_Mo_meet_78 (by decide) (fun c7 => ?_) (fun c7 => ?_)
    · have h := h.1 c7
      refine lv_aload_n hx hb d_Mo_meet_156 rfl (lv_at hl 0 rfl) ?_
      refine gt_19_26 X w w_fl_Mo_164 d_Mo_meet_157 ?_
      refine lv_iload_n hx hb d_Mo_meet_160 rfl (lv_at hl 1 rfl) ?_
      refine lv_icmp_le (tgt := 168) hx hb d_Mo_meet_161 (by decide) (fun c8 => ?_) (fun c8 => ?_)
      · have h := h.1 c8
        refine lv_iconst (v := 0) hx hb d_Mo_meet_168 (by decide) ?_
        refine lv_istore_n (lv' := [(1, .int (0 : Int32)), (0, .ref (E.2.1 19)), (2, .int x2), (3, .int x3)]) hx hb d_Mo_meet_169 rfl hl (by decide) rfl (fun ls hl => ?_)
        refine lv_goto (tgt := 59) hx hb d_Mo_meet_170 (by decide) ?_
        exact hC59 (0 : Int32) μ _ _ _ h w (lv_sub hl [1, 0] rfl)
      · have h := h.2 c8
        refine lv_iconst (v := 1) hx hb d_Mo_meet_164 (by decide) ?_
        refine lv_goto (tgt := 169) hx hb d_Mo_meet_165 (by decide) ?_
        refine lv_istore_n (lv' := [(1, .int (1 : Int32)), (0, .ref (E.2.1 19)), (2, .int x2), (3, .int x3)]) hx hb d_Mo_meet_169 rfl hl (by decide) rfl (fun ls hl => ?_)
        refine lv_goto (tgt := 59) hx hb d_Mo_meet_170 (by decide) ?_
        exact hC59 (1 : Int32) μ _ _ _ h w (lv_sub hl [1, 0] rfl)
    · have h := h.2 c7
      refine lv_iconst (v := 1) hx hb d_Mo_meet_81 (by decide) ?_
      refine lv_istore (lv' := [(4, .int (1 : Int32)), (0, .ref (E.2.1 19)), (2, .int x2), (3, .int x3)]) hx hb d_Mo_meet_82 hl (by decide) rfl (fun ls hl => ?_)
      obtain ⟨n, h⟩ := h
      exact L_Mo_meet_84 X hr hlk K _ _ hC59 ih n x2 x3 (1 : Int32) μ _ _ _ h w (lv_sub hl [1, 2, 3, 0] rfl)

set_option maxHeartbeats 4000000 in
set_option maxRecDepth 100000 in
theorem L_Mo_meet_59 {p : Program} {l : Launch} {e : Env} {s : State} {m : MethodId} {args : Array Value} {below : List Frame} {meth : Method} {c : Code} {E : zE} (X : zX E p s m args c prog_8_method_40_code "BeatHeapModel" 5) (hr : meth.sig.returnType = none) (hlk : meth.locks = false) (K : zM → Prop) : ∀ (n : Nat) (x1 : Int32) (μ : zM) (H : Heap) (locs : List Loc) (ls : Array Slot), F_Mo_meet_59 K n x1 μ → zW zwM E s μ H locs → lv_has ls 5 [(0, .ref (E.2.1 19)), (1, .int x1)] → W p l e { frames := 1, cells := 0, slots := 0, locals := 22 } s m args below meth c H locs 0 0 (MQ below (va_Qv K (zR zwM E) (zA E)) args s 0 0 (zA E)) (F0 m 59 ls []) := by
  have hx := X.1
  have hb := X.2.1
  intro n
  induction n with
  | zero => intro x1 μ H locs ls h; exact False.elim h
  | succ n ih =>
    intro x1 μ H locs ls h w hl
    refine lv_iload_n hx hb d_Mo_meet_59 rfl (lv_at hl 1 rfl) ?_
    refine lv_if_eq (tgt := 173) hx hb d_Mo_meet_60 (by decide) (fun c5 => ?_) (fun c5 => ?_)
    · have h := h.1 c5
      exact z_vret X hr hlk w h d_Mo_meet_173
    · have h := h.2 c5
      refine lv_aload_n hx hb d_Mo_meet_63 rfl (lv_at hl 0 rfl) ?_
      refine gt_19_26 X w w_fl_Mo_164 d_Mo_meet_64 ?_
      refine lv_topi (fun x6 ex6 => ?_)
      have h := h x6 ex6
      refine lv_istore_n (lv' := [(2, .int x6), (0, .ref (E.2.1 19)), (1, .int x1)]) hx hb d_Mo_meet_67 rfl hl (by decide) rfl (fun ls hl => ?_)
      refine lv_iconst (v := 0) hx hb d_Mo_meet_68 (by decide) ?_
      refine lv_istore_n (lv' := [(3, .int (0 : Int32)), (2, .int x6), (0, .ref (E.2.1 19)), (1, .int x1)]) hx hb d_Mo_meet_69 rfl hl (by decide) rfl (fun ls hl => ?_)
      obtain ⟨n, h⟩ := h
      exact L_Mo_meet_70 X hr hlk K _ ih n x6 (0 : Int32) μ _ _ _ h w (lv_sub hl [2, 1, 0] rfl)

set_option maxHeartbeats 4000000 in
set_option maxRecDepth 100000 in
theorem L_Mo_meet_34 {p : Program} {l : Launch} {e : Env} {s : State} {m : MethodId} {args : Array Value} {below : List Frame} {meth : Method} {c : Code} {E : zE} (X : zX E p s m args c prog_8_method_40_code "BeatHeapModel" 5) (hr : meth.sig.returnType = none) (hlk : meth.locks = false) (K : zM → Prop) : ∀ (n : Nat) (x1 : Int32) (μ : zM) (H : Heap) (locs : List Loc) (ls : Array Slot), F_Mo_meet_34 K n x1 μ → zW zwM E s μ H locs → lv_has ls 5 [(0, .ref (E.2.1 19)), (1, .int x1)] → W p l e { frames := 1, cells := 0, slots := 0, locals := 22 } s m args below meth c H locs 0 0 (MQ below (va_Qv K (zR zwM E) (zA E)) args s 0 0 (zA E)) (F0 m 34 ls []) := by
  have hx := X.1
  have hb := X.2.1
  intro n
  induction n with
  | zero => intro x1 μ H locs ls h; exact False.elim h
  | succ n ih =>
    intro x1 μ H locs ls h w hl
    refine lv_iload_n hx hb d_Mo_meet_34 rfl (lv_at hl 1 rfl) ?_
    refine lv_bipush (v := 16) hx hb d_Mo_meet_35 (by decide) ?_
    refine lv_icmp_ge (tgt := 57) hx hb d_Mo_meet_37 (by decide) (fun c4 => ?_) (fun c4 => ?_)
    · have h := h.1 c4
      refine lv_iconst (v := 1) hx hb d_Mo_meet_57 (by decide) ?_
      refine lv_istore_n (lv' := [(1, .int (1 : Int32)), (0, .ref (E.2.1 19))]) hx hb d_Mo_meet_58 rfl hl (by decide) rfl (fun ls hl => ?_)
      obtain ⟨n, h⟩ := h
      exact L_Mo_meet_59 X hr hlk K n (1 : Int32) μ _ _ _ h w (lv_sub hl [1, 0] rfl)
    · have h := h.2 c4
      refine lv_aload_n hx hb d_Mo_meet_40 rfl (lv_at hl 0 rfl) ?_
      refine lv_aload_n hx hb d_Mo_meet_41 rfl (lv_at hl 0 rfl) ?_
      refine gt_19_10 X w w_fl_Mo_29 d_Mo_meet_42 ?_
      refine lv_iload_n hx hb d_Mo_meet_45 rfl (lv_at hl 1 rfl) ?_
      obtain ⟨hi25, h⟩ := h
      refine al_26 X w hi25 d_Mo_meet_46 ?_
      refine lv_iconst (v := 0) hx hb d_Mo_meet_47 (by decide) ?_
      refine z_cVv (As := [.int (μ 26 x1.toNatClampNeg), .int (0 : Int32)]) (rest := []) (q0 := 0) (ci := 6) X w (c_Mo_meetOne l E μ (μ 26 x1.toNatClampNeg) (0 : Int32) _ h) rfl rfl rfl w_ml_Mo_171 ⟨w_im_Mo_meetOne, w_se_Mo_meetOne⟩ w_in_Mo w_co_Mo_meetOne q_Mo_meetOne.1 q_Mo_meetOne.2 rfl ⟨Nat.le_of_ble_eq_true rfl, Nat.le_of_ble_eq_true rfl⟩ ⟨Nat.zero_le _, Nat.zero_le _⟩ hl.1 rfl (Nat.le_of_ble_eq_true rfl) d_Mo_meet_48 (fun μ26 H locs h w => ?_)
      obtain ⟨x27, ex27⟩ : ∃ y : Int32, y = x1 + 1 := ⟨_, rfl⟩
      have h := h x27 ex27
      refine lv_iinc (v := x27) (lv' := [(1, .int x27), (0, .ref (E.2.1 19))]) hx hb d_Mo_meet_51 hl (k := 1) rfl (by rw [ex27]; rfl) (by decide) rfl (fun ls hl => ?_)
      refine lv_goto (tgt := 34) hx hb d_Mo_meet_54 (by decide) ?_
      exact ih x27 μ26 _ _ _ h w (lv_sub hl [1, 0] rfl)

set_option maxHeartbeats 4000000 in
set_option maxRecDepth 100000 in
theorem L_Mo_meet_2 {p : Program} {l : Launch} {e : Env} {s : State} {m : MethodId} {args : Array Value} {below : List Frame} {meth : Method} {c : Code} {E : zE} (X : zX E p s m args c prog_8_method_40_code "BeatHeapModel" 5) (hr : meth.sig.returnType = none) (hlk : meth.locks = false) (K : zM → Prop) : ∀ (n : Nat) (x1 : Int32) (μ : zM) (H : Heap) (locs : List Loc) (ls : Array Slot), F_Mo_meet_2 K n x1 μ → zW zwM E s μ H locs → lv_has ls 5 [(0, .ref (E.2.1 19)), (1, .int x1)] → W p l e { frames := 1, cells := 0, slots := 0, locals := 22 } s m args below meth c H locs 0 0 (MQ below (va_Qv K (zR zwM E) (zA E)) args s 0 0 (zA E)) (F0 m 2 ls []) := by
  have hx := X.1
  have hb := X.2.1
  intro n
  induction n with
  | zero => intro x1 μ H locs ls h; exact False.elim h
  | succ n ih =>
    intro x1 μ H locs ls h w hl
    refine lv_iload_n hx hb d_Mo_meet_2 rfl (lv_at hl 1 rfl) ?_
    refine lv_sipush (v := 4096) hx hb d_Mo_meet_3 (by decide) ?_
    refine lv_icmp_ge (tgt := 22) hx hb d_Mo_meet_6 (by decide) (fun c1 => ?_) (fun c1 => ?_)
    · have h := h.1 c1
      refine lv_aload_n hx hb d_Mo_meet_22 rfl (lv_at hl 0 rfl) ?_
      refine lv_iconst (v := 0) hx hb d_Mo_meet_23 (by decide) ?_
      refine pt_19_26 X w w_fl_Mo_164 d_Mo_meet_24 (fun μ2 H locs eμ2 w => ?_)
      have h := h μ2 eμ2
      refine lv_aload_n hx hb d_Mo_meet_27 rfl (lv_at hl 0 rfl) ?_
      refine lv_iconst (v := 1) hx hb d_Mo_meet_28 (by decide) ?_
      refine pt_19_27 X w (by decide) w_fl_Mo_167 d_Mo_meet_29 (fun μ3 H locs eμ3 w => ?_)
      have h := h μ3 eμ3
      refine lv_iconst (v := 0) hx hb d_Mo_meet_32 (by decide) ?_
      refine lv_istore_n (lv' := [(1, .int (0 : Int32)), (0, .ref (E.2.1 19))]) hx hb d_Mo_meet_33 rfl hl (by decide) rfl (fun ls hl => ?_)
      obtain ⟨n, h⟩ := h
      exact L_Mo_meet_34 X hr hlk K n (0 : Int32) μ3 _ _ _ h w (lv_sub hl [1, 0] rfl)
    · have h := h.2 c1
      refine lv_aload_n hx hb d_Mo_meet_9 rfl (lv_at hl 0 rfl) ?_
      refine gt_19_25 X w w_fl_Mo_38 d_Mo_meet_10 ?_
      refine lv_iload_n hx hb d_Mo_meet_13 rfl (lv_at hl 1 rfl) ?_
      refine lv_iconst (v := 0) hx hb d_Mo_meet_14 (by decide) ?_
      obtain ⟨hi28, h⟩ := h
      refine as_29 X w hi28 d_Mo_meet_15 (fun μ29 H locs eμ29 w => ?_)
      have h := h μ29 eμ29
      obtain ⟨x30, ex30⟩ : ∃ y : Int32, y = x1 + 1 := ⟨_, rfl⟩
      have h := h x30 ex30
      refine lv_iinc (v := x30) (lv' := [(1, .int x30), (0, .ref (E.2.1 19))]) hx hb d_Mo_meet_16 hl (k := 1) rfl (by rw [ex30]; rfl) (by decide) rfl (fun ls hl => ?_)
      refine lv_goto (tgt := 2) hx hb d_Mo_meet_19 (by decide) ?_
      exact ih x30 μ29 _ _ _ h w (lv_sub hl [1, 0] rfl)

set_option maxHeartbeats 4000000 in
set_option maxRecDepth 100000 in
theorem c_Mo_meet (l : Launch) (E : zE) (μ : zM) (K : zM → Prop) (h : f_Mo_meet μ K) : Met l y_Mo_meet (Cond.code y_Mo_meet prog_8_method_40_code 5 none :: zT) { frames := 1, cells := 0, slots := 0, locals := 22 } (va_Pc [.ref (E.2.1 19)] (zR zwM E μ)) (va_Qv K (zR zwM E) (zA E)) 0 0 (zA E) := by
  refine z_head (by decide) (Nat.le_of_ble_eq_true rfl) ?_
  intro p e s m below meth c X hr hlk w ls hl
  have X : zX E p s m _ c prog_8_method_40_code "BeatHeapModel" 5 := X
  have hx := X.1
  have hb := X.2.1
  have hl : lv_has ls 5 [(0, .ref (E.2.1 19))] := hl
  unfold f_Mo_meet at h
  refine lv_iconst (v := 0) hx hb d_Mo_meet_0 (by decide) ?_
  refine lv_istore_n (lv' := [(1, .int (0 : Int32)), (0, .ref (E.2.1 19))]) hx hb d_Mo_meet_1 rfl hl (by decide) rfl (fun ls hl => ?_)
  obtain ⟨n, h⟩ := h
  exact L_Mo_meet_2 X hr hlk K n (0 : Int32) μ _ _ _ h w (lv_sub hl [1, 0] rfl)
theorem q_Mo_reachable : (y_Mo_reachable.cls ≠ "java/lang/invoke/MethodHandle" ∧ y_Mo_reachable.cls ≠ "java/lang/invoke/VarHandle") ∧ (parseMethodDescriptor y_Mo_reachable.desc).map (fun d => d.parameters.length) = some 0 := by decide +kernel
theorem d_Mo_reachable_0 : decode prog_8_method_42_code 0 = .ok (.aload_n 0, 1) := by decide +kernel
theorem d_Mo_reachable_1 : decode prog_8_method_42_code 1 = .ok (.invokevirtual 175, 3) := by decide +kernel
theorem d_Mo_reachable_4 : decode prog_8_method_42_code 4 = .ok (.aload_n 0, 1) := by decide +kernel
theorem d_Mo_reachable_5 : decode prog_8_method_42_code 5 = .ok (.getfield 164, 3) := by decide +kernel
theorem d_Mo_reachable_8 : decode prog_8_method_42_code 8 = .ok (.ireturn, 1) := by decide +kernel
def f_Mo_reachable (μ : zM) (K : Int32 → zM → Prop) : Prop := f_Mo_meet μ (fun μ1 => (K (μ1 19 26) μ1))
set_option maxHeartbeats 4000000 in
set_option maxRecDepth 100000 in
theorem c_Mo_reachable (l : Launch) (E : zE) (μ : zM) (K : Int32 → zM → Prop) (h : f_Mo_reachable μ K) : Met l y_Mo_reachable (Cond.code y_Mo_reachable prog_8_method_42_code 1 (some .int) :: zT) { frames := 2, cells := 0, slots := 0, locals := 46 } (va_Pc [.ref (E.2.1 19)] (zR zwM E μ)) (va_Qi K (zR zwM E) (zA E)) 0 0 (zA E) := by
  refine z_head (by decide) (Nat.le_of_ble_eq_true rfl) ?_
  intro p e s m below meth c X hr hlk w ls hl
  have X : zX E p s m _ c prog_8_method_42_code "BeatHeapModel" 1 := X
  have hx := X.1
  have hb := X.2.1
  have hl : lv_has ls 1 [(0, .ref (E.2.1 19))] := hl
  unfold f_Mo_reachable at h
  refine lv_aload_n hx hb d_Mo_reachable_0 rfl (lv_at hl 0 rfl) ?_
  refine z_cVv (As := []) (rest := []) (q0 := 0) (ci := 6) X w (c_Mo_meet l E μ _ h) rfl rfl rfl w_ml_Mo_175 ⟨w_im_Mo_meet, w_se_Mo_meet⟩ w_in_Mo w_co_Mo_meet q_Mo_meet.1 q_Mo_meet.2 rfl ⟨Nat.le_of_ble_eq_true rfl, Nat.le_of_ble_eq_true rfl⟩ ⟨Nat.zero_le _, Nat.zero_le _⟩ hl.1 rfl (Nat.le_of_ble_eq_true rfl) d_Mo_reachable_1 (fun μ1 H locs h w => ?_)
  refine lv_aload_n hx hb d_Mo_reachable_4 rfl (lv_at hl 0 rfl) ?_
  refine gt_19_26 X w w_fl_Mo_164 d_Mo_reachable_5 ?_
  exact z_iret X hr hlk w h d_Mo_reachable_8
theorem q_Mo_whole : (y_Mo_whole.cls ≠ "java/lang/invoke/MethodHandle" ∧ y_Mo_whole.cls ≠ "java/lang/invoke/VarHandle") ∧ (parseMethodDescriptor y_Mo_whole.desc).map (fun d => d.parameters.length) = some 0 := by decide +kernel
theorem d_Mo_whole_0 : decode prog_8_method_43_code 0 = .ok (.aload_n 0, 1) := by decide +kernel
theorem d_Mo_whole_1 : decode prog_8_method_43_code 1 = .ok (.invokevirtual 175, 3) := by decide +kernel
theorem d_Mo_whole_4 : decode prog_8_method_43_code 4 = .ok (.aload_n 0, 1) := by decide +kernel
theorem d_Mo_whole_5 : decode prog_8_method_43_code 5 = .ok (.getfield 167, 3) := by decide +kernel
theorem d_Mo_whole_8 : decode prog_8_method_43_code 8 = .ok (.ireturn, 1) := by decide +kernel
def f_Mo_whole (μ : zM) (K : Int32 → zM → Prop) : Prop := f_Mo_meet μ (fun μ1 => (((μ1 19 27) = 0 ∨ (μ1 19 27) = 1) ∧ K (μ1 19 27) μ1))
set_option maxHeartbeats 4000000 in
set_option maxRecDepth 100000 in
theorem c_Mo_whole (l : Launch) (E : zE) (μ : zM) (K : Int32 → zM → Prop) (h : f_Mo_whole μ K) : Met l y_Mo_whole (Cond.code y_Mo_whole prog_8_method_43_code 1 (some .boolean) :: zT) { frames := 2, cells := 0, slots := 0, locals := 46 } (va_Pc [.ref (E.2.1 19)] (zR zwM E μ)) (va_Qi K (zR zwM E) (zA E)) 0 0 (zA E) := by
  refine z_head (by decide) (Nat.le_of_ble_eq_true rfl) ?_
  intro p e s m below meth c X hr hlk w ls hl
  have X : zX E p s m _ c prog_8_method_43_code "BeatHeapModel" 1 := X
  have hx := X.1
  have hb := X.2.1
  have hl : lv_has ls 1 [(0, .ref (E.2.1 19))] := hl
  unfold f_Mo_whole at h
  refine lv_aload_n hx hb d_Mo_whole_0 rfl (lv_at hl 0 rfl) ?_
  refine z_cVv (As := []) (rest := []) (q0 := 0) (ci := 6) X w (c_Mo_meet l E μ _ h) rfl rfl rfl w_ml_Mo_175 ⟨w_im_Mo_meet, w_se_Mo_meet⟩ w_in_Mo w_co_Mo_meet q_Mo_meet.1 q_Mo_meet.2 rfl ⟨Nat.le_of_ble_eq_true rfl, Nat.le_of_ble_eq_true rfl⟩ ⟨Nat.zero_le _, Nat.zero_le _⟩ hl.1 rfl (Nat.le_of_ble_eq_true rfl) d_Mo_whole_1 (fun μ1 H locs h w => ?_)
  refine lv_aload_n hx hb d_Mo_whole_4 rfl (lv_at hl 0 rfl) ?_
  refine gt_19_27 X w w_fl_Mo_167 d_Mo_whole_5 ?_
  exact z_zret X hr hlk w (z_bz h.1).1 h.2 d_Mo_whole_8
