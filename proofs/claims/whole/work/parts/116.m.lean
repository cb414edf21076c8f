theorem q_Mo_share : (y_Mo_share.cls ≠ "java/lang/invoke/MethodHandle" ∧ y_Mo_share.cls ≠ "java/lang/invoke/VarHandle") ∧ (parseMethodDescriptor y_Mo_share.desc).map (fun d => d.parameters.length) = some 1 := by decide +kernel
theorem d_Mo_share_0 : decode prog_8_method_39_code 0 = .ok (.aload_n 0, 1) := by decide +kernel
theorem d_Mo_share_1 : decode prog_8_method_39_code 1 = .ok (.getfield 82, 3) := by decide +kernel
theorem d_Mo_share_4 : decode prog_8_method_39_code 4 = .ok (.aload_n 0, 1) := by decide +kernel
theorem d_Mo_share_5 : decode prog_8_method_39_code 5 = .ok (.getfield 85, 3) := by decide +kernel
theorem d_Mo_share_8 : decode prog_8_method_39_code 8 = .ok (.iadd, 1) := by decide +kernel
theorem d_Mo_share_9 : decode prog_8_method_39_code 9 = .ok (.istore_n 2, 1) := by decide +kernel
theorem d_Mo_share_10 : decode prog_8_method_39_code 10 = .ok (.iload_n 1, 1) := by decide +kernel
theorem d_Mo_share_11 : decode prog_8_method_39_code 11 = .ok (.iconst 1, 1) := by decide +kernel
theorem d_Mo_share_12 : decode prog_8_method_39_code 12 = .ok (.if_icmp .lt 15, 3) := by decide +kernel
theorem d_Mo_share_15 : decode prog_8_method_39_code 15 = .ok (.iload_n 1, 1) := by decide +kernel
theorem d_Mo_share_16 : decode prog_8_method_39_code 16 = .ok (.sipush 2000, 3) := by decide +kernel
theorem d_Mo_share_19 : decode prog_8_method_39_code 19 = .ok (.if_icmp .gt 8, 3) := by decide +kernel
theorem d_Mo_share_22 : decode prog_8_method_39_code 22 = .ok (.iload_n 2, 1) := by decide +kernel
theorem d_Mo_share_23 : decode prog_8_method_39_code 23 = .ok (.iload_n 1, 1) := by decide +kernel
theorem d_Mo_share_24 : decode prog_8_method_39_code 24 = .ok (.if_icmp .ge 5, 3) := by decide +kernel
theorem d_Mo_share_27 : decode prog_8_method_39_code 27 = .ok (.iconst (-1), 1) := by decide +kernel
theorem d_Mo_share_28 : decode prog_8_method_39_code 28 = .ok (.ireturn, 1) := by decide +kernel
theorem d_Mo_share_29 : decode prog_8_method_39_code 29 = .ok (.iload_n 2, 1) := by decide +kernel
theorem d_Mo_share_30 : decode prog_8_method_39_code 30 = .ok (.sipush 2000, 3) := by decide +kernel
theorem d_Mo_share_33 : decode prog_8_method_39_code 33 = .ok (.if_icmp .ge 7, 3) := by decide +kernel
theorem d_Mo_share_36 : decode prog_8_method_39_code 36 = .ok (.iconst 0, 1) := by decide +kernel
theorem d_Mo_share_37 : decode prog_8_method_39_code 37 = .ok (.goto 8, 3) := by decide +kernel
theorem d_Mo_share_40 : decode prog_8_method_39_code 40 = .ok (.iload_n 2, 1) := by decide +kernel
theorem d_Mo_share_41 : decode prog_8_method_39_code 41 = .ok (.sipush 2000, 3) := by decide +kernel
theorem d_Mo_share_44 : decode prog_8_method_39_code 44 = .ok (.isub, 1) := by decide +kernel
theorem d_Mo_share_45 : decode prog_8_method_39_code 45 = .ok (.istore_n 3, 1) := by decide +kernel
theorem d_Mo_share_46 : decode prog_8_method_39_code 46 = .ok (.iconst 0, 1) := by decide +kernel
theorem d_Mo_share_47 : decode prog_8_method_39_code 47 = .ok (.istore 4, 2) := by decide +kernel
theorem d_Mo_share_49 : decode prog_8_method_39_code 49 = .ok (.iload_n 1, 1) := by decide +kernel
theorem d_Mo_share_50 : decode prog_8_method_39_code 50 = .ok (.istore 5, 2) := by decide +kernel
theorem d_Mo_share_52 : decode prog_8_method_39_code 52 = .ok (.iload_n 3, 1) := by decide +kernel
theorem d_Mo_share_53 : decode prog_8_method_39_code 53 = .ok (.istore 6, 2) := by decide +kernel
theorem d_Mo_share_55 : decode prog_8_method_39_code 55 = .ok (.iload 6, 2) := by decide +kernel
theorem d_Mo_share_57 : decode prog_8_method_39_code 57 = .ok (.iload_n 2, 1) := by decide +kernel
theorem d_Mo_share_58 : decode prog_8_method_39_code 58 = .ok (.if_icmp .ge 93, 3) := by decide +kernel
theorem d_Mo_share_61 : decode prog_8_method_39_code 61 = .ok (.iload 4, 2) := by decide +kernel
theorem d_Mo_share_63 : decode prog_8_method_39_code 63 = .ok (.aload_n 0, 1) := by decide +kernel
theorem d_Mo_share_64 : decode prog_8_method_39_code 64 = .ok (.getfield 35, 3) := by decide +kernel
theorem d_Mo_share_67 : decode prog_8_method_39_code 67 = .ok (.iload 6, 2) := by decide +kernel
theorem d_Mo_share_69 : decode prog_8_method_39_code 69 = .ok (.sipush 2000, 3) := by decide +kernel
theorem d_Mo_share_72 : decode prog_8_method_39_code 72 = .ok (.irem, 1) := by decide +kernel
theorem d_Mo_share_73 : decode prog_8_method_39_code 73 = .ok (.baload, 1) := by decide +kernel
theorem d_Mo_share_74 : decode prog_8_method_39_code 74 = .ok (.ifCond .eq 7, 3) := by decide +kernel
theorem d_Mo_share_77 : decode prog_8_method_39_code 77 = .ok (.iconst 1, 1) := by decide +kernel
theorem d_Mo_share_78 : decode prog_8_method_39_code 78 = .ok (.goto 4, 3) := by decide +kernel
theorem d_Mo_share_81 : decode prog_8_method_39_code 81 = .ok (.iconst 0, 1) := by decide +kernel
theorem d_Mo_share_82 : decode prog_8_method_39_code 82 = .ok (.iadd, 1) := by decide +kernel
theorem d_Mo_share_83 : decode prog_8_method_39_code 83 = .ok (.istore 4, 2) := by decide +kernel
theorem d_Mo_share_85 : decode prog_8_method_39_code 85 = .ok (.iload 6, 2) := by decide +kernel
theorem d_Mo_share_87 : decode prog_8_method_39_code 87 = .ok (.iload_n 3, 1) := by decide +kernel
theorem d_Mo_share_88 : decode prog_8_method_39_code 88 = .ok (.isub, 1) := by decide +kernel
theorem d_Mo_share_89 : decode prog_8_method_39_code 89 = .ok (.iload_n 1, 1) := by decide +kernel
theorem d_Mo_share_90 : decode prog_8_method_39_code 90 = .ok (.if_icmp .lt 29, 3) := by decide +kernel
theorem d_Mo_share_93 : decode prog_8_method_39_code 93 = .ok (.iload 4, 2) := by decide +kernel
theorem d_Mo_share_95 : decode prog_8_method_39_code 95 = .ok (.aload_n 0, 1) := by decide +kernel
theorem d_Mo_share_96 : decode prog_8_method_39_code 96 = .ok (.getfield 35, 3) := by decide +kernel
theorem d_Mo_share_99 : decode prog_8_method_39_code 99 = .ok (.iload 6, 2) := by decide +kernel
theorem d_Mo_share_101 : decode prog_8_method_39_code 101 = .ok (.iload_n 1, 1) := by decide +kernel
theorem d_Mo_share_102 : decode prog_8_method_39_code 102 = .ok (.isub, 1) := by decide +kernel
theorem d_Mo_share_103 : decode prog_8_method_39_code 103 = .ok (.sipush 2000, 3) := by decide +kernel
theorem d_Mo_share_106 : decode prog_8_method_39_code 106 = .ok (.irem, 1) := by decide +kernel
theorem d_Mo_share_107 : decode prog_8_method_39_code 107 = .ok (.baload, 1) := by decide +kernel
theorem d_Mo_share_108 : decode prog_8_method_39_code 108 = .ok (.ifCond .eq 7, 3) := by decide +kernel
theorem d_Mo_share_111 : decode prog_8_method_39_code 111 = .ok (.iconst 1, 1) := by decide +kernel
theorem d_Mo_share_112 : decode prog_8_method_39_code 112 = .ok (.goto 4, 3) := by decide +kernel
theorem d_Mo_share_115 : decode prog_8_method_39_code 115 = .ok (.iconst 0, 1) := by decide +kernel
theorem d_Mo_share_116 : decode prog_8_method_39_code 116 = .ok (.isub, 1) := by decide +kernel
theorem d_Mo_share_117 : decode prog_8_method_39_code 117 = .ok (.istore 4, 2) := by decide +kernel
theorem d_Mo_share_119 : decode prog_8_method_39_code 119 = .ok (.iload 6, 2) := by decide +kernel
theorem d_Mo_share_121 : decode prog_8_method_39_code 121 = .ok (.iload_n 3, 1) := by decide +kernel
theorem d_Mo_share_122 : decode prog_8_method_39_code 122 = .ok (.isub, 1) := by decide +kernel
theorem d_Mo_share_123 : decode prog_8_method_39_code 123 = .ok (.iload_n 1, 1) := by decide +kernel
theorem d_Mo_share_124 : decode prog_8_method_39_code 124 = .ok (.iconst 1, 1) := by decide +kernel
theorem d_Mo_share_125 : decode prog_8_method_39_code 125 = .ok (.isub, 1) := by decide +kernel
theorem d_Mo_share_126 : decode prog_8_method_39_code 126 = .ok (.if_icmp .lt 19, 3) := by decide +kernel
theorem d_Mo_share_129 : decode prog_8_method_39_code 129 = .ok (.iload 4, 2) := by decide +kernel
theorem d_Mo_share_131 : decode prog_8_method_39_code 131 = .ok (.iload 5, 2) := by decide +kernel
theorem d_Mo_share_133 : decode prog_8_method_39_code 133 = .ok (.if_icmp .ge 8, 3) := by decide +kernel
theorem d_Mo_share_136 : decode prog_8_method_39_code 136 = .ok (.iload 4, 2) := by decide +kernel
theorem d_Mo_share_138 : decode prog_8_method_39_code 138 = .ok (.goto 5, 3) := by decide +kernel
theorem d_Mo_share_141 : decode prog_8_method_39_code 141 = .ok (.iload 5, 2) := by decide +kernel
theorem d_Mo_share_143 : decode prog_8_method_39_code 143 = .ok (.istore 5, 2) := by decide +kernel
theorem d_Mo_share_145 : decode prog_8_method_39_code 145 = .ok (.iinc 6 1, 3) := by decide +kernel
theorem d_Mo_share_148 : decode prog_8_method_39_code 148 = .ok (.goto (-93), 3) := by decide +kernel
theorem d_Mo_share_151 : decode prog_8_method_39_code 151 = .ok (.iload 5, 2) := by decide +kernel
theorem d_Mo_share_153 : decode prog_8_method_39_code 153 = .ok (.ireturn, 1) := by decide +kernel
noncomputable def F_Mo_share_55 (K : Int32 → zM → Prop) (n : Nat) : Int32 → Int32 → Int32 → Int32 → Int32 → Int32 → zM → Prop := Nat.rec (motive := fun _ => Int32 → Int32 → Int32 → Int32 → Int32 → Int32 → zM → Prop) (fun _ _ _ _ _ _ _ => False) (fun _ ih x1 x2 x3 x4 x5 x6 μ => (x2 ≤ x6 → (K x5 μ)) ∧ (¬ x2 ≤ x6 → (vp_in (x6 - x6 / (2000 : Int32) * (2000 : Int32)) 2000 ∧ (((μ 28 (x6 - x6 / (2000 : Int32) * (2000 : Int32)).toNatClampNeg) = 0 → (∀ x10 : Int32, x10 = (x4 + (0 : Int32)) → (((x6 - x3) < x1 → (((x6 - x3) < (x1 - (1 : Int32)) → (∀ x13 : Int32, x13 = x6 + 1 → (ih x1 x2 x3 x10 x5 x13 μ))) ∧ (¬ (x6 - x3) < (x1 - (1 : Int32)) → ((x5 ≤ x10 → (∀ x15 : Int32, x15 = x6 + 1 → (ih x1 x2 x3 x10 x5 x15 μ))) ∧ (¬ x5 ≤ x10 → (∀ x16 : Int32, x16 = x6 + 1 → (ih x1 x2 x3 x10 x10 x16 μ))))))) ∧ (¬ (x6 - x3) < x1 → (vp_in ((x6 - x1) - (x6 - x1) / (2000 : Int32) * (2000 : Int32)) 2000 ∧ (((μ 28 ((x6 - x1) - (x6 - x1) / (2000 : Int32) * (2000 : Int32)).toNatClampNeg) = 0 → (∀ x19 : Int32, x19 = (x10 - (0 : Int32)) → (((x6 - x3) < (x1 - (1 : Int32)) → (∀ x21 : Int32, x21 = x6 + 1 → (ih x1 x2 x3 x19 x5 x21 μ))) ∧ (¬ (x6 - x3) < (x1 - (1 : Int32)) → ((x5 ≤ x19 → (∀ x23 : Int32, x23 = x6 + 1 → (ih x1 x2 x3 x19 x5 x23 μ))) ∧ (¬ x5 ≤ x19 → (∀ x24 : Int32, x24 = x6 + 1 → (ih x1 x2 x3 x19 x19 x24 μ)))))))) ∧ (¬ (μ 28 ((x6 - x1) - (x6 - x1) / (2000 : Int32) * (2000 : Int32)).toNatClampNeg) = 0 → (∀ x25 : Int32, x25 = (x10 - (1 : Int32)) → (((x6 - x3) < (x1 - (1 : Int32)) → (∀ x27 : Int32, x27 = x6 + 1 → (ih x1 x2 x3 x25 x5 x27 μ))) ∧ (¬ (x6 - x3) < (x1 - (1 : Int32)) → ((x5 ≤ x25 → (∀ x29 : Int32, x29 = x6 + 1 → (ih x1 x2 x3 x25 x5 x29 μ))) ∧ (¬ x5 ≤ x25 → (∀ x30 : Int32, x30 = x6 + 1 → (ih x1 x2 x3 x25 x25 x30 μ)))))))))))))) ∧ (¬ (μ 28 (x6 - x6 / (2000 : Int32) * (2000 : Int32)).toNatClampNeg) = 0 → (∀ x31 : Int32, x31 = (x4 + (1 : Int32)) → (((x6 - x3) < x1 → (((x6 - x3) < (x1 - (1 : Int32)) → (∀ x34 : Int32, x34 = x6 + 1 → (ih x1 x2 x3 x31 x5 x34 μ))) ∧ (¬ (x6 - x3) < (x1 - (1 : Int32)) → ((x5 ≤ x31 → (∀ x36 : Int32, x36 = x6 + 1 → (ih x1 x2 x3 x31 x5 x36 μ))) ∧ (¬ x5 ≤ x31 → (∀ x37 : Int32, x37 = x6 + 1 → (ih x1 x2 x3 x31 x31 x37 μ))))))) ∧ (¬ (x6 - x3) < x1 → (vp_in ((x6 - x1) - (x6 - x1) / (2000 : Int32) * (2000 : Int32)) 2000 ∧ (((μ 28 ((x6 - x1) - (x6 - x1) / (2000 : Int32) * (2000 : Int32)).toNatClampNeg) = 0 → (∀ x40 : Int32, x40 = (x31 - (0 : Int32)) → (((x6 - x3) < (x1 - (1 : Int32)) → (∀ x42 : Int32, x42 = x6 + 1 → (ih x1 x2 x3 x40 x5 x42 μ))) ∧ (¬ (x6 - x3) < (x1 - (1 : Int32)) → ((x5 ≤ x40 → (∀ x44 : Int32, x44 = x6 + 1 → (ih x1 x2 x3 x40 x5 x44 μ))) ∧ (¬ x5 ≤ x40 → (∀ x45 : Int32, x45 = x6 + 1 → (ih x1 x2 x3 x40 x40 x45 μ)))))))) ∧ (¬ (μ 28 ((x6 - x1) - (x6 - x1) / (2000 : Int32) * (2000 : Int32)).toNatClampNeg) = 0 → (∀ x46 : Int32, x46 = (x31 - (1 : Int32)) → (((x6 - x3) < (x1 - (1 : Int32)) → (∀ x48 : Int32, x48 = x6 + 1 → (ih x1 x2 x3 x46 x5 x48 μ))) ∧ (¬ (x6 - x3) < (x1 - (1 : Int32)) → ((x5 ≤ x46 → (∀ x50 : Int32, x50 = x6 + 1 → (ih x1 x2 x3 x46 x5 x50 μ))) ∧ (¬ x5 ≤ x46 → (∀ x51 : Int32, x51 = x6 + 1 → (ih x1 x2 x3 x46 x46 x51 μ)))))))))))))))))) n
def f_Mo_share (μ : zM) (a1 : Int32) (K : Int32 → zM → Prop) : Prop := ∀ x1 : Int32, x1 = ((μ 19 22) + (μ 19 23)) → ((a1 < (1 : Int32) → (K (-1 : Int32) μ)) ∧ (¬ a1 < (1 : Int32) → (((2000 : Int32) < a1 → (K (-1 : Int32) μ)) ∧ (¬ (2000 : Int32) < a1 → ((a1 ≤ x1 → (((2000 : Int32) ≤ x1 → (∀ x6 : Int32, x6 = (x1 - (2000 : Int32)) → (∃ n : Nat, F_Mo_share_55 K n a1 x1 x6 (0 : Int32) a1 x6 μ))) ∧ (¬ (2000 : Int32) ≤ x1 → (∃ n : Nat, F_Mo_share_55 K n a1 x1 (0 : Int32) (0 : Int32) a1 (0 : Int32) μ)))) ∧ (¬ a1 ≤ x1 → (K (-1 : Int32) μ)))))))
set_option maxHeartbeats 4000000 in
set_option maxRecDepth 100000 in
theorem L_Mo_share_55 {p : Program} {l : Launch} {e : Env} {s : State} {m : MethodId} {args : Array Value} {below : List Frame} {meth : Method} {c : Code} {E : zE} (X : zX E p s m args c prog_8_method_39_code "BeatHeapModel" 7) (hr : meth.sig.returnType = (some .int)) (hlk : meth.locks = false) (K : Int32 → zM → Prop) : ∀ (n : Nat) (x1 x2 x3 x4 x5 x6 : Int32) (μ : zM) (H : Heap) (locs : List Loc) (ls : Array Slot), F_Mo_share_55 K n x1 x2 x3 x4 x5 x6 μ → zW zwM E s μ H locs → lv_has ls 7 [(0, .ref (E.2.1 19)), (1, .int x1), (2, .int x2), (3, .int x3), (4, .int x4), (5, .int x5), (6, .int x6)] → W p l e { frames := 0, cells := 0, slots := 0, locals := 0 } s m args below meth c H locs 0 0 (MQ below (va_Qi K (zR zwM E) (zA E)) args s 0 0 (zA E)) (F0 m 55 ls []) := by
  have hx := X.1
  have hb := X.2.1
  intro n
  induction n with
  | zero => intro x1 x2 x3 x4 x5 x6 μ H locs ls h; exact False.elim h
  | succ n ih =>
    intro x1 x2 x3 x4 x5 x6 μ H locs ls h w hl
    refine lv_iload hx hb d_Mo_share_55 (lv_at hl 6 rfl) ?_
    refine lv_iload_n hx hb d_Mo_share_57 rfl (lv_at hl 2 rfl) ?_
    refine lv_icmp_ge (tgt := 151) hx hb d_Mo_share_58 (by decide) (fun c7 => ?_) (fun c7 => ?_)
    · have h := h.1 c7
      refine lv_iload hx hb d_Mo_share_151 (lv_at hl 5 rfl) ?_
      exact z_iret X hr hlk w h d_Mo_share_153
    · have h := h.2 c7
      refine lv_iload hx hb d_Mo_share_61 (lv_at hl 4 rfl) ?_
      refine lv_aload_n hx hb d_Mo_share_63 rfl (lv_at hl 0 rfl) ?_
      refine gt_19_24 X w w_fl_Mo_35 d_Mo_share_64 ?_
      refine lv_iload hx hb d_Mo_share_67 (lv_at hl 6 rfl) ?_
      refine lv_sipush (v := 2000) hx hb d_Mo_share_69 (by decide) ?_
      refine lv_irem hx hb d_Mo_share_72 (by decide) ?_
      obtain ⟨hi8, h⟩ := h
      refine al_28 X w hi8 d_Mo_share_73 ?_
      refine lv_if_eq (tgt := 81) hx hb d_Mo_share_74 (by decide) (fun c9 => ?_) (fun c9 => ?_)
      · have h := h.1 c9
        refine lv_iconst (v := 0) hx hb d_Mo_share_81 (by decide) ?_
        refine lv_iadd hx hb d_Mo_share_82 ?_
        refine lv_topi (fun x10 ex10 => ?_)
        have h := h x10 ex10
        refine lv_istore (lv' := [(4, .int x10), (0, .ref (E.2.1 19)), (1, .int x1), (2, .int x2), (3, .int x3), (5, .int x5), (6, .int x6)]) hx hb d_Mo_share_83 hl (by decide) rfl (fun ls hl => ?_)
        refine lv_iload hx hb d_Mo_share_85 (lv_at hl 6 rfl) ?_
        refine lv_iload_n hx hb d_Mo_share_87 rfl (lv_at hl 4 rfl) ?_
        refine lv_isub hx hb d_Mo_share_88 ?_
        refine lv_iload_n hx hb d_Mo_share_89 rfl (lv_at hl 2 rfl) ?_
        refine lv_icmp_lt (tgt := 119) hx hb d_Mo_share_90 (by decide) (fun c11 => ?_) (fun c11 => ?_)
        · have h := h.1 c11
          refine lv_iload hx hb d_Mo_share_119 (lv_at hl 6 rfl) ?_
          refine lv_iload_n hx hb d_Mo_share_121 rfl (lv_at hl 4 rfl) ?_
          refine lv_isub hx hb d_Mo_share_122 ?_
          refine lv_iload_n hx hb d_Mo_share_123 rfl (lv_at hl 2 rfl) ?_
          refine lv_iconst (v := 1) hx hb d_Mo_share_124 (by decide) ?_
          refine lv_isub hx hb d_Mo_share_125 ?_
          refine lv_icmp_lt (tgt := 145) hx hb d_Mo_share_126 (by decide) (fun c12 => ?_) (fun c12 => ?_)
          · have h := h.1 c12
            obtain ⟨x13, ex13⟩ : ∃ y : Int32, y = x6 + 1 := ⟨_, rfl⟩
            have h := h x13 ex13
            refine lv_iinc (v := x13) (lv' := [(6, .int x13), (4, .int x10), (0, .ref (E.2.1 19)), (1, .int x1), (2, .int x2), (3, .int x3), (5, .int x5)]) hx hb d_Mo_share_145 hl (k := 6) rfl (by rw [ex13]; rfl) (by decide) rfl (fun ls hl => ?_)
            refine lv_goto (tgt := 55) hx hb d_Mo_share_148 (by decide) ?_
            exact ih x1 x2 x3 x10 x5 x13 μ _ _ _ h w (lv_sub hl [2, 3, 4, 5, 1, 6, 0] rfl)
          · have h := h.2 c12
            refine lv_iload hx hb d_Mo_share_129 (lv_at hl 0 rfl) ?_
            refine lv_iload hx hb d_Mo_share_131 (lv_at hl 5 rfl) ?_
            refine lv_icmp_ge (tgt := 141) hx hb d_Mo_share_133 (by decide) (fun c14 => ?_) (fun c14 => ?_)
            · have h := h.1 c14
              refine lv_iload hx hb d_Mo_share_141 (lv_at hl 5 rfl) ?_
              refine lv_istore (lv' := [(5, .int x5), (4, .int x10), (0, .ref (E.2.1 19)), (1, .int x1), (2, .int x2), (3, .int x3), (6, .int x6)]) hx hb d_Mo_share_143 hl (by decide) rfl (fun ls hl => ?_)
              obtain ⟨x15, ex15⟩ : ∃ y : Int32, y = x6 + 1 := ⟨_, rfl⟩
              have h := h x15 ex15
              refine lv_iinc (v := x15) (lv' := [(6, .int x15), (5, .int x5), (4, .int x10), (0, .ref (E.2.1 19)), (1, .int x1), (2, .int x2), (3, .int x3)]) hx hb d_Mo_share_145 hl (k := 6) rfl (by rw [ex15]; rfl) (by decide) rfl (fun ls hl => ?_)
              refine lv_goto (tgt := 55) hx hb d_Mo_share_148 (by decide) ?_
              exact ih x1 x2 x3 x10 x5 x15 μ _ _ _ h w (lv_sub hl [3, 4, 5, 6, 2, 1, 0] rfl)
            · have h := h.2 c14
              refine lv_iload hx hb d_Mo_share_136 (lv_at hl 0 rfl) ?_
              refine lv_goto (tgt := 143) hx hb d_Mo_share_138 (by decide) ?_
              refine lv_istore (lv' := [(5, .int x10), (4, .int x10), (0, .ref (E.2.1 19)), (1, .int x1), (2, .int x2), (3, .int x3), (6, .int x6)]) hx hb d_Mo_share_143 hl (by decide) rfl (fun ls hl => ?_)
              obtain ⟨x16, ex16⟩ : ∃ y : Int32, y = x6 + 1 := ⟨_, rfl⟩
              have h := h x16 ex16
              refine lv_iinc (v := x16) (lv' := [(6, .int x16), (5, .int x10), (4, .int x10), (0, .ref (E.2.1 19)), (1, .int x1), (2, .int x2), (3, .int x3)]) hx hb d_Mo_share_145 hl (k := 6) rfl (by rw [ex16]; rfl) (by decide) rfl (fun ls hl => ?_)
              refine lv_goto (tgt := 55) hx hb d_Mo_share_148 (by decide) ?_
              exact ih x1 x2 x3 x10 x10 x16 μ _ _ _ h w (lv_sub hl [3, 4, 5, 6, 2, 1, 0] rfl)
        · have h := h.2 c11
          refine lv_iload hx hb d_Mo_share_93 (lv_at hl 0 rfl) ?_
          refine lv_aload_n hx hb d_Mo_share_95 rfl (lv_at hl 1 rfl) ?_
          refine gt_19_24 X w w_fl_Mo_35 d_Mo_share_96 ?_
          refine lv_iload hx hb d_Mo_share_99 (lv_at hl 6 rfl) ?_
          refine lv_iload_n hx hb d_Mo_share_101 rfl (lv_at hl 2 rfl) ?_
          refine lv_isub hx hb d_Mo_share_102 ?_
          refine lv_sipush (v := 2000) hx hb d_Mo_share_103 (by decide) ?_
          refine lv_irem hx hb d_Mo_share_106 (by decide) ?_
          obtain ⟨hi17, h⟩ := h
          refine al_28 X w hi17 d_Mo_share_107 ?_
          refine lv_if_eq (tgt := 115) hx hb d_Mo_share_108 (by decide) (fun c18 => ?_) (fun c18 => ?_)
          · have h := h.1 c18
            refine lv_iconst (v := 0) hx hb d_Mo_share_115 (by decide) ?_
            refine lv_isub hx hb d_Mo_share_116 ?_
            refine lv_topi (fun x19 ex19 => ?_)
            have h := h x19 ex19
            refine lv_istore (lv' := [(4, .int x19), (0, .ref (E.2.1 19)), (1, .int x1), (2, .int x2), (3, .int x3), (5, .int x5), (6, .int x6)]) hx hb d_Mo_share_117 hl (by decide) rfl (fun ls hl => ?_)
            refine lv_iload hx hb d_Mo_share_119 (lv_at hl 6 rfl) ?_
            refine lv_iload_n hx hb d_Mo_share_121 rfl (lv_at hl 4 rfl) ?_
            refine lv_isub hx hb d_Mo_share_122 ?_
            refine lv_iload_n hx hb d_Mo_share_123 rfl (lv_at hl 2 rfl) ?_
            refine lv_iconst (v := 1) hx hb d_Mo_share_124 (by decide) ?_
            refine lv_isub hx hb d_Mo_share_125 ?_
            refine lv_icmp_lt (tgt := 145) hx hb d_Mo_share_126 (by decide) (fun c20 => ?_) (fun c20 => ?_)
            · have h := h.1 c20
              obtain ⟨x21, ex21⟩ : ∃ y : Int32, y = x6 + 1 := ⟨_, rfl⟩
              have h := h x21 ex21
              refine lv_iinc (v := x21) (lv' := [(6, .int x21), (4, .int x19), (0, .ref (E.2.1 19)), (1, .int x1), (2, .int x2), (3, .int x3), (5, .int x5)]) hx hb d_Mo_share_145 hl (k := 6) rfl (by rw [ex21]; rfl) (by decide) rfl (fun ls hl => ?_)
              refine lv_goto (tgt := 55) hx hb d_Mo_share_148 (by decide) ?_
              exact ih x1 x2 x3 x19 x5 x21 μ _ _ _ h w (lv_sub hl [2, 3, 4, 5, 1, 6, 0] rfl)
            · have h := h.2 c20
              refine lv_iload hx hb d_Mo_share_129 (lv_at hl 0 rfl) ?_
              refine lv_iload hx hb d_Mo_share_131 (lv_at hl 5 rfl) ?_
              refine lv_icmp_ge (tgt := 141) hx hb d_Mo_share_133 (by decide) (fun c22 => ?_) (fun c22 => ?_)
              · have h := h.1 c22
                refine lv_iload hx hb d_Mo_share_141 (lv_at hl 5 rfl) ?_
                refine lv_istore (lv' := [(5, .int x5), (4, .int x19), (0, .ref (E.2.1 19)), (1, .int x1), (2, .int x2), (3, .int x3), (6, .int x6)]) hx hb d_Mo_share_143 hl (by decide) rfl (fun ls hl => ?_)
                obtain ⟨x23, ex23⟩ : ∃ y : Int32, y = x6 + 1 := ⟨_, rfl⟩
                have h := h x23 ex23
                refine lv_iinc (v := x23) (lv' := [(6, .int x23), (5, .int x5), (4, .int x19), (0, .ref (E.2.1 19)), (1, .int x1), (2, .int x2), (3, .int x3)]) hx hb d_Mo_share_145 hl (k := 6) rfl (by rw [ex23]; rfl) (by decide) rfl (fun ls hl => ?_)
                refine lv_goto (tgt := 55) hx hb d_Mo_share_148 (by decide) ?_
                exact ih x1 x2 x3 x19 x5 x23 μ _ _ _ h w (lv_sub hl [3, 4, 5, 6, 2, 1, 0] rfl)
              · have h := h.2 c22
                refine lv_iload hx hb d_Mo_share_136 (lv_at hl 0 rfl) ?_
                refine lv_goto (tgt := 143) hx hb d_Mo_share_138 (by decide) ?_
                refine lv_istore (lv' := [(5, .int x19), (4, .int x19), (0, .ref (E.2.1 19)), (1, .int x1), (2, .int x2), (3, .int x3), (6, .int x6)]) hx hb d_Mo_share_143 hl (by decide) rfl (fun ls hl => ?_)
                obtain ⟨x24, ex24⟩ : ∃ y : Int32, y = x6 + 1 := ⟨_, rfl⟩
                have h := h x24 ex24
                refine lv_iinc (v := x24) (lv' := [(6, .int x24), (5, .int x19), (4, .int x19), (0, .ref (E.2.1 19)), (1, .int x1), (2, .int x2), (3, .int x3)]) hx hb d_Mo_share_145 hl (k := 6) rfl (by rw [ex24]; rfl) (by decide) rfl (fun ls hl => ?_)
                refine lv_goto (tgt := 55) hx hb d_Mo_share_148 (by decide) ?_
                exact ih x1 x2 x3 x19 x19 x24 μ _ _ _ h w (lv_sub hl [3, 4, 5, 6, 2, 1, 0] rfl)
          · have h := h.2 c18
            refine lv_iconst (v := 1) hx hb d_Mo_share_111 (by decide) ?_
            refine lv_goto (tgt := 116) hx hb d_Mo_share_112 (by decide) ?_
            refine lv_isub hx hb d_Mo_share_116 ?_
            refine lv_topi (fun x25 ex25 => ?_)
            have h := h x25 ex25
            refine lv_istore (lv' := [(4, .int x25), (0, .ref (E.2.1 19)), (1, .int x1), (2, .int x2), (3, .int x3), (5, .int x5), (6, .int x6)]) hx hb d_Mo_share_117 hl (by decide) rfl (fun ls hl => ?_)
            refine lv_iload hx hb d_Mo_share_119 (lv_at hl 6 rfl) ?_
            refine lv_iload_n hx hb d_Mo_share_121 rfl (lv_at hl 4 rfl) ?_
            refine lv_isub hx hb d_Mo_share_122 ?_
            refine lv_iload_n hx hb d_Mo_share_123 rfl (lv_at hl 2 rfl) ?_
            refine lv_iconst (v := 1) hx hb d_Mo_share_124 (by decide) ?_
            refine lv_isub hx hb d_Mo_share_125 ?_
            refine lv_icmp_lt (tgt := 145) hx hb d_Mo_share_126 (by decide) (fun c26 => ?_) (fun c26 => ?_)
            · have h := h.1 c26
              obtain ⟨x27, ex27⟩ : ∃ y : Int32, y = x6 + 1 := ⟨_, rfl⟩
              have h := h x27 ex27
              refine lv_iinc (v := x27) (lv' := [(6, .int x27), (4, .int x25), (0, .ref (E.2.1 19)), (1, .int x1), (2, .int x2), (3, .int x3), (5, .int x5)]) hx hb d_Mo_share_145 hl (k := 6) rfl (by rw [ex27]; rfl) (by decide) rfl (fun ls hl => ?_)
              refine lv_goto (tgt := 55) hx hb d_Mo_share_148 (by decide) ?_
              exact ih x1 x2 x3 x25 x5 x27 μ _ _ _ h w (lv_sub hl [2, 3, 4, 5, 1, 6, 0] rfl)
            · have h := h.2 c26
              refine lv_iload hx hb d_Mo_share_129 (lv_at hl 0 rfl) ?_
              refine lv_iload hx hb d_Mo_share_131 (lv_at hl 5 rfl) ?_
              refine lv_icmp_ge (tgt := 141) hx hb d_Mo_share_133 (by decide) (fun c28 => ?_) (fun c28 => ?_)
              · have h := h.1 c28
                refine lv_iload hx hb d_Mo_share_141 (lv_at hl 5 rfl) ?_
                refine lv_istore (lv' := [(5, .int x5), (4, .int x25), (0, .ref (E.2.1 19)), (1, .int x1), (2, .int x2), (3, .int x3), (6, .int x6)]) hx hb d_Mo_share_143 hl (by decide) rfl (fun ls hl => ?_)
                obtain ⟨x29, ex29⟩ : ∃ y : Int32, y = x6 + 1 := ⟨_, rfl⟩
                have h := h x29 ex29
                refine lv_iinc (v := x29) (lv' := [(6, .int x29), (5, .int x5), (4, .int x25), (0, .ref (E.2.1 19)), (1, .int x1), (2, .int x2), (3, .int x3)]) hx hb d_Mo_share_145 hl (k := 6) rfl (by rw [ex29]; rfl) (by decide) rfl (fun ls hl => ?_)
                refine lv_goto (tgt := 55) hx hb d_Mo_share_148 (by decide) ?_
                exact ih x1 x2 x3 x25 x5 x29 μ _ _ _ h w (lv_sub hl [3, 4, 5, 6, 2, 1, 0] rfl)
              · have h := h.2 c28
                refine lv_iload hx hb d_Mo_share_136 (lv_at hl 0 rfl) ?_
                refine lv_goto (tgt := 143) hx hb d_Mo_share_138 (by decide) ?_
                refine lv_istore (lv' := [(5, .int x25), (4, .int x25), (0, .ref (E.2.1 19)), (1, .int x1), (2, .int x2), (3, .int x3), (6, .int x6)]) hx hb d_Mo_share_143 hl (by decide) rfl (fun ls hl => ?_)
                obtain ⟨x30, ex30⟩ : ∃ y : Int32, y = x6 + 1 := ⟨_, rfl⟩
                have h := h x30 ex30
                refine lv_iinc (v := x30) (lv' := [(6, .int x30), (5, .int x25), (4, .int x25), (0, .ref (E.2.1 19)), (1, .int x1), (2, .int x2), (3, .int x3)]) hx hb d_Mo_share_145 hl (k := 6) rfl (by rw [ex30]; rfl) (by decide) rfl (fun ls hl => ?_)
                refine lv_goto (tgt := 55) hx hb d_Mo_share_148 (by decide) ?_
                exact ih x1 x2 x3 x25 x25 x30 μ _ _ _ h w (lv_sub hl [3, 4, 5, 6, 2, 1, 0] rfl)
      · have h := h.2 c9
        refine lv_iconst (v := 1) hx hb d_Mo_share_77 (by decide) ?_
        refine lv_goto (tgt := 82) hx hb d_Mo_share_78 (by decide) ?_
        refine lv_iadd hx hb d_Mo_share_82 ?_
        refine lv_topi (fun x31 ex31 => ?_)
        have h := h x31 ex31
        refine lv_istore (lv' := [(4, .int x31), (0, .ref (E.2.1 19)), (1, .int x1), (2, .int x2), (3, .int x3), (5, .int x5), (6, .int x6)]) hx hb d_Mo_share_83 hl (by decide) rfl (fun ls hl => ?_)
        refine lv_iload hx hb d_Mo_share_85 (lv_at hl 6 rfl) ?_
        refine lv_iload_n hx hb d_Mo_share_87 rfl (lv_at hl 4 rfl) ?_
        refine lv_isub hx hb d_Mo_share_88 ?_
        refine lv_iload_n hx hb d_Mo_share_89 rfl (lv_at hl 2 rfl) ?_
        refine lv_icmp_lt (tgt := 119) hx hb d_Mo_share_90 (by decide) (fun c32 => ?_) (fun c32 => ?_)
        · have h := h.1 c32
          refine lv_iload hx hb d_Mo_share_119 (lv_at hl 6 rfl) ?_
          refine lv_iload_n hx hb d_Mo_share_121 rfl (lv_at hl 4 rfl) ?_
          refine lv_isub hx hb d_Mo_share_122 ?_
          refine lv_iload_n hx hb d_Mo_share_123 rfl (lv_at hl 2 rfl) ?_
          refine lv_iconst (v := 1) hx hb d_Mo_share_124 (by decide) ?_
          refine lv_isub hx hb d_Mo_share_125 ?_
          refine lv_icmp_lt (tgt := 145) hx hb d_Mo_share_126 (by decide) (fun c33 => ?_) (fun c33 => ?_)
          · have h := h.1 c33
            obtain ⟨x34, ex34⟩ : ∃ y : Int32, y = x6 + 1 := ⟨_, rfl⟩
            have h := h x34 ex34
            refine lv_iinc (v := x34) (lv' := [(6, .int x34), (4, .int x31), (0, .ref (E.2.1 19)), (1, .int x1), (2, .int x2), (3, .int x3), (5, .int x5)]) hx hb d_Mo_share_145 hl (k := 6) rfl (by rw [ex34]; rfl) (by decide) rfl (fun ls hl => ?_)
            refine lv_goto (tgt := 55) hx hb d_Mo_share_148 (by decide) ?_
            exact ih x1 x2 x3 x31 x5 x34 μ _ _ _ h w (lv_sub hl [2, 3, 4, 5, 1, 6, 0] rfl)
          · have h := h.2 c33
            refine lv_iload hx hb d_Mo_share_129 (lv_at hl 0 rfl) ?_
            refine lv_iload hx hb d_Mo_share_131 (lv_at hl 5 rfl) ?_
            refine lv_icmp_ge (tgt := 141) hx hb d_Mo_share_133 (by decide) (fun c35 => ?_) (fun c35 => ?_)
            · have h := h.1 c35
              refine lv_iload hx hb d_Mo_share_141 (lv_at hl 5 rfl) ?_
              refine lv_istore (lv' := [(5, .int x5), (4, .int x31), (0, .ref (E.2.1 19)), (1, .int x1), (2, .int x2), (3, .int x3), (6, .int x6)]) hx hb d_Mo_share_143 hl (by decide) rfl (fun ls hl => ?_)
              obtain ⟨x36, ex36⟩ : ∃ y : Int32, y = x6 + 1 := ⟨_, rfl⟩
              have h := h x36 ex36
              refine lv_iinc (v := x36) (lv' := [(6, .int x36), (5, .int x5), (4, .int x31), (0, .ref (E.2.1 19)), (1, .int x1), (2, .int x2), (3, .int x3)]) hx hb d_Mo_share_145 hl (k := 6) rfl (by rw [ex36]; rfl) (by decide) rfl (fun ls hl => ?_)
              refine lv_goto (tgt := 55) hx hb d_Mo_share_148 (by decide) ?_
              exact ih x1 x2 x3 x31 x5 x36 μ _ _ _ h w (lv_sub hl [3, 4, 5, 6, 2, 1, 0] rfl)
            · have h := h.2 c35
              refine lv_iload hx hb d_Mo_share_136 (lv_at hl 0 rfl) ?_
              refine lv_goto (tgt := 143) hx hb d_Mo_share_138 (by decide) ?_
              refine lv_istore (lv' := [(5, .int x31), (4, .int x31), (0, .ref (E.2.1 19)), (1, .int x1), (2, .int x2), (3, .int x3), (6, .int x6)]) hx hb d_Mo_share_143 hl (by decide) rfl (fun ls hl => ?_)
              obtain ⟨x37, ex37⟩ : ∃ y : Int32, y = x6 + 1 := ⟨_, rfl⟩
              have h := h x37 ex37
              refine lv_iinc (v := x37) (lv' := [(6, .int x37), (5, .int x31), (4, .int x31), (0, .ref (E.2.1 19)), (1, .int x1), (2, .int x2), (3, .int x3)]) hx hb d_Mo_share_145 hl (k := 6) rfl (by rw [ex37]; rfl) (by decide) rfl (fun ls hl => ?_)
              refine lv_goto (tgt := 55) hx hb d_Mo_share_148 (by decide) ?_
              exact ih x1 x2 x3 x31 x31 x37 μ _ _ _ h w (lv_sub hl [3, 4, 5, 6, 2, 1, 0] rfl)
        · have h := h.2 c32
          refine lv_iload hx hb d_Mo_share_93 (lv_at hl 0 rfl) ?_
          refine lv_aload_n hx hb d_Mo_share_95 rfl (lv_at hl 1 rfl) ?_
          refine gt_19_24 X w w_fl_Mo_35 d_Mo_share_96 ?_
          refine lv_iload hx hb d_Mo_share_99 (lv_at hl 6 rfl) ?_
          refine lv_iload_n hx hb d_Mo_share_101 rfl (lv_at hl 2 rfl) ?_
          refine lv_isub hx hb d_Mo_share_102 ?_
          refine lv_sipush (v := 2000) hx hb d_Mo_share_103 (by decide) ?_
          refine lv_irem hx hb d_Mo_share_106 (by decide) ?_
          obtain ⟨hi38, h⟩ := h
          refine al_28 X w hi38 d_Mo_share_107 ?_
          refine lv_if_eq (tgt := 115) hx hb d_Mo_share_108 (by decide) (fun c39 => ?_) (fun c39 => ?_)
          · have h := h.1 c39
            refine lv_iconst (v := 0) hx hb d_Mo_share_115 (by decide) ?_
            refine lv_isub hx hb d_Mo_share_116 ?_
            refine lv_topi (fun x40 ex40 => ?_)
            have h := h x40 ex40
            refine lv_istore (lv' := [(4, .int x40), (0, .ref (E.2.1 19)), (1, .int x1), (2, .int x2), (3, .int x3), (5, .int x5), (6, .int x6)]) hx hb d_Mo_share_117 hl (by decide) rfl (fun ls hl => ?_)
            refine lv_iload hx hb d_Mo_share_119 (lv_at hl 6 rfl) ?_
            refine lv_iload_n hx hb d_Mo_share_121 rfl (lv_at hl 4 rfl) ?_
            refine lv_isub hx hb d_Mo_share_122 ?_
            refine lv_iload_n hx hb d_Mo_share_123 rfl (lv_at hl 2 rfl) ?_
            refine lv_iconst (v := 1) hx hb d_Mo_share_124 (by decide) ?_
            refine lv_isub hx hb d_Mo_share_125 ?_
            refine lv_icmp_lt (tgt := 145) hx hb d_Mo_share_126 (by decide) (fun c41 => ?_) (fun c41 => ?_)
            · have h := h.1 c41
              obtain ⟨x42, ex42⟩ : ∃ y : Int32, y = x6 + 1 := ⟨_, rfl⟩
              have h := h x42 ex42
              refine lv_iinc (v := x42) (lv' := [(6, .int x42), (4, .int x40), (0, .ref (E.2.1 19)), (1, .int x1), (2, .int x2), (3, .int x3), (5, .int x5)]) hx hb d_Mo_share_145 hl (k := 6) rfl (by rw [ex42]; rfl) (by decide) rfl (fun ls hl => ?_)
              refine lv_goto (tgt := 55) hx hb d_Mo_share_148 (by decide) ?_
              exact ih x1 x2 x3 x40 x5 x42 μ _ _ _ h w (lv_sub hl [2, 3, 4, 5, 1, 6, 0] rfl)
            · have h := h.2 c41
              refine lv_iload hx hb d_Mo_share_129 (lv_at hl 0 rfl) ?_
              refine lv_iload hx hb d_Mo_share_131 (lv_at hl 5 rfl) ?_
              refine lv_icmp_ge (tgt := 141) hx hb d_Mo_share_133 (by decide) (fun c43 => ?_) (fun c43 => ?_)
              · have h := h.1 c43
                refine lv_iload hx hb d_Mo_share_141 (lv_at hl 5 rfl) ?_
                refine lv_istore (lv' := [(5, .int x5), (4, .int x40), (0, .ref (E.2.1 19)), (1, .int x1), (2, .int x2), (3, .int x3), (6, .int x6)]) hx hb d_Mo_share_143 hl (by decide) rfl (fun ls hl => ?_)
                obtain ⟨x44, ex44⟩ : ∃ y : Int32, y = x6 + 1 := ⟨_, rfl⟩
                have h := h x44 ex44
                refine lv_iinc (v := x44) (lv' := [(6, .int x44), (5, .int x5), (4, .int x40), (0, .ref (E.2.1 19)), (1, .int x1), (2, .int x2), (3, .int x3)]) hx hb d_Mo_share_145 hl (k := 6) rfl (by rw [ex44]; rfl) (by decide) rfl (fun ls hl => ?_)
                refine lv_goto (tgt := 55) hx hb d_Mo_share_148 (by decide) ?_
                exact ih x1 x2 x3 x40 x5 x44 μ _ _ _ h w (lv_sub hl [3, 4, 5, 6, 2, 1, 0] rfl)
              · have h := h.2 c43
                refine lv_iload hx hb d_Mo_share_136 (lv_at hl 0 rfl) ?_
                refine lv_goto (tgt := 143) hx hb d_Mo_share_138 (by decide) ?_
                refine lv_istore (lv' := [(5, .int x40), (4, .int x40), (0, .ref (E.2.1 19)), (1, .int x1), (2, .int x2), (3, .int x3), (6, .int x6)]) hx hb d_Mo_share_143 hl (by decide) rfl (fun ls hl => ?_)
                obtain ⟨x45, ex45⟩ : ∃ y : Int32, y = x6 + 1 := ⟨_, rfl⟩
                have h := h x45 ex45
                refine lv_iinc (v := x45) (lv' := [(6, .int x45), (5, .int x40), (4, .int x40), (0, .ref (E.2.1 19)), (1, .int x1), (2, .int x2), (3, .int x3)]) hx hb d_Mo_share_145 hl (k := 6) rfl (by rw [ex45]; rfl) (by decide) rfl (fun ls hl => ?_)
                refine lv_goto (tgt := 55) hx hb d_Mo_share_148 (by decide) ?_
                exact ih x1 x2 x3 x40 x40 x45 μ _ _ _ h w (lv_sub hl [3, 4, 5, 6, 2, 1, 0] rfl)
          · have h := h.2 c39
            refine lv_iconst (v := 1) hx hb d_Mo_share_111 (by decide) ?_
            refine lv_goto (tgt := 116) hx hb d_Mo_share_112 (by decide) ?_
            refine lv_isub hx hb d_Mo_share_116 ?_
            refine lv_topi (fun x46 ex46 => ?_)
            have h := h x46 ex46
            refine lv_istore (lv' := [(4, .int x46), (0, .ref (E.2.1 19)), (1, .int x1), (2, .int x2), (3, .int x3), (5, .int x5), (6, .int x6)]) hx hb d_Mo_share_117 hl (by decide) rfl (fun ls hl => ?_)
            refine lv_iload hx hb d_Mo_share_119 (lv_at hl 6 rfl) ?_
            refine lv_iload_n hx hb d_Mo_share_121 rfl (lv_at hl 4 rfl) ?_
            refine lv_isub hx hb d_Mo_share_122 ?_
            refine lv_iload_n hx hb d_Mo_share_123 rfl (lv_at hl 2 rfl) ?_
            refine lv_iconst (v := 1) hx hb d_Mo_share_124 (by decide) ?_
            refine lv_isub hx hb d_Mo_share_125 ?_
            refine lv_icmp_lt (tgt := 145) hx hb d_Mo_share_126 (by decide) (fun c47 => ?_) (fun c47 => ?_)
            · have h := h.1 c47
              obtain ⟨x48, ex48⟩ : ∃ y : Int32, y = x6 + 1 := ⟨_, rfl⟩
              have h := h x48 ex48
              refine lv_iinc (v := x48) (lv' := [(6, .int x48), (4, .int x46), (0, .ref (E.2.1 19)), (1, .int x1), (2, .int x2), (3, .int x3), (5, .int x5)]) hx hb d_Mo_share_145 hl (k := 6) rfl (by rw [ex48]; rfl) (by decide) rfl (fun ls hl => ?_)
              refine lv_goto (tgt := 55) hx hb d_Mo_share_148 (by decide) ?_
              exact ih x1 x2 x3 x46 x5 x48 μ _ _ _ h w (lv_sub hl [2, 3, 4, 5, 1, 6, 0] rfl)
            · have h := h.2 c47
              refine lv_iload hx hb d_Mo_share_129 (lv_at hl 0 rfl) ?_
              refine lv_iload hx hb d_Mo_share_131 (lv_at hl 5 rfl) ?_
              refine lv_icmp_ge (tgt := 141) hx hb d_Mo_share_133 (by decide) (fun c49 => ?_) (fun c49 => ?_)
              · have h := h.1 c49
                refine lv_iload hx hb d_Mo_share_141 (lv_at hl 5 rfl) ?_
                refine lv_istore (lv' := [(5, .int x5), (4, .int x46), (0, .ref (E.2.1 19)), (1, .int x1), (2, .int x2), (3, .int x3), (6, .int x6)]) hx hb d_Mo_share_143 hl (by decide) rfl (fun ls hl => ?_)
                obtain ⟨x50, ex50⟩ : ∃ y : Int32, y = x6 + 1 := ⟨_, rfl⟩
                have h := h x50 ex50
                refine lv_iinc (v := x50) (lv' := [(6, .int x50), (5, .int x5), (4, .int x46), (0, .ref (E.2.1 19)), (1, .int x1), (2, .int x2), (3, .int x3)]) hx hb d_Mo_share_145 hl (k := 6) rfl (by rw [ex50]; rfl) (by decide) rfl (fun ls hl => ?_)
                refine lv_goto (tgt := 55) hx hb d_Mo_share_148 (by decide) ?_
                exact ih x1 x2 x3 x46 x5 x50 μ _ _ _ h w (lv_sub hl [3, 4, 5, 6, 2, 1, 0] rfl)
              · have h := h.2 c49
                refine lv_iload hx hb d_Mo_share_136 (lv_at hl 0 rfl) ?_
                refine lv_goto (tgt := 143) hx hb d_Mo_share_138 (by decide) ?_
                refine lv_istore (lv' := [(5, .int x46), (4, .int x46), (0, .ref (E.2.1 19)), (1, .int x1), (2, .int x2), (3, .int x3), (6, .int x6)]) hx hb d_Mo_share_143 hl (by decide) rfl (fun ls hl => ?_)
                obtain ⟨x51, ex51⟩ : ∃ y : Int32, y = x6 + 1 := ⟨_, rfl⟩
                have h := h x51 ex51
                refine lv_iinc (v := x51) (lv' := [(6, .int x51), (5, .int x46), (4, .int x46), (0, .ref (E.2.1 19)), (1, .int x1), (2, .int x2), (3, .int x3)]) hx hb d_Mo_share_145 hl (k := 6) rfl (by rw [ex51]; rfl) (by decide) rfl (fun ls hl => ?_)
                refine lv_goto (tgt := 55) hx hb d_Mo_share_148 (by decide) ?_
                exact ih x1 x2 x3 x46 x46 x51 μ _ _ _ h w (lv_sub hl [3, 4, 5, 6, 2, 1, 0] rfl)

set_option maxHeartbeats 4000000 in
set_option maxRecDepth 100000 in
theorem c_Mo_share (l : Launch) (E : zE) (μ : zM) (a1 : Int32) (K : Int32 → zM → Prop) (h : f_Mo_share μ a1 K) : Met l y_Mo_share (Cond.code y_Mo_share prog_8_method_39_code 7 (some .int) :: zT) { frames := 0, cells := 0, slots := 0, locals := 0 } (va_Pc [.ref (E.2.1 19), .int a1] (zR zwM E μ)) (va_Qi K (zR zwM E) (zA E)) 0 0 (zA E) := by
  refine z_head (by decide) (Nat.le_of_ble_eq_true rfl) ?_
  intro p e s m below meth c X hr hlk w ls hl
  have X : zX E p s m _ c prog_8_method_39_code "BeatHeapModel" 7 := X
  have hx := X.1
  have hb := X.2.1
  have hl : lv_has ls 7 [(0, .ref (E.2.1 19)), (1, .int a1)] := hl
  unfold f_Mo_share at h
  refine lv_aload_n hx hb d_Mo_share_0 rfl (lv_at hl 0 rfl) ?_
  refine gt_19_22 X w w_fl_Mo_82 d_Mo_share_1 ?_
  refine lv_aload_n hx hb d_Mo_share_4 rfl (lv_at hl 0 rfl) ?_
  refine gt_19_23 X w w_fl_Mo_85 d_Mo_share_5 ?_
  refine lv_iadd hx hb d_Mo_share_8 ?_
  refine lv_topi (fun x1 ex1 => ?_)
  have h := h x1 ex1
  refine lv_istore_n (lv' := [(2, .int x1), (0, .ref (E.2.1 19)), (1, .int a1)]) hx hb d_Mo_share_9 rfl hl (by decide) rfl (fun ls hl => ?_)
  refine lv_iload_n hx hb d_Mo_share_10 rfl (lv_at hl 2 rfl) ?_
  refine lv_iconst (v := 1) hx hb d_Mo_share_11 (by decide) ?_
  refine lv_icmp_lt (tgt := 27) hx hb d_Mo_share_12 (by decide) (fun c2 => ?_) (fun c2 => ?_)
  · have h := h.1 c2
    refine lv_iconst (v := (-1)) hx hb d_Mo_share_27 (by decide) ?_
    exact z_iret X hr hlk w h d_Mo_share_28
  · have h := h.2 c2
    refine lv_iload_n hx hb d_Mo_share_15 rfl (lv_at hl 2 rfl) ?_
    refine lv_sipush (v := 2000) hx hb d_Mo_share_16 (by decide) ?_
    refine lv_icmp_gt (tgt := 27) hx hb d_Mo_share_19 (by decide) (fun c3 => ?_) (fun c3 => ?_)
    · have h := h.1 c3
      refine lv_iconst (v := (-1)) hx hb d_Mo_share_27 (by decide) ?_
      exact z_iret X hr hlk w h d_Mo_share_28
    · have h := h.2 c3
      refine lv_iload_n hx hb d_Mo_share_22 rfl (lv_at hl 0 rfl) ?_
      refine lv_iload_n hx hb d_Mo_share_23 rfl (lv_at hl 2 rfl) ?_
      refine lv_icmp_ge (tgt := 29) hx hb d_Mo_share_24 (by decide) (fun c4 => ?_) (fun c4 => ?_)
      · have h := h.1 c4
        refine lv_iload_n hx hb d_Mo_share_29 rfl (lv_at hl 0 rfl) ?_
        refine lv_sipush (v := 2000) hx hb d_Mo_share_30 (by decide) ?_
        refine lv_icmp_ge (tgt := 40) hx hb d_Mo_share_33 (by decide) (fun c5 => ?_) (fun c5 => ?_)
        · have h := h.1 c5
          refine lv_iload_n hx hb d_Mo_share_40 rfl (lv_at hl 0 rfl) ?_
          refine lv_sipush (v := 2000) hx hb d_Mo_share_41 (by decide) ?_
          refine lv_isub hx hb d_Mo_share_44 ?_
          refine lv_topi (fun x6 ex6 => ?_)
          have h := h x6 ex6
          refine lv_istore_n (lv' := [(3, .int x6), (2, .int x1), (0, .ref (E.2.1 19)), (1, .int a1)]) hx hb d_Mo_share_45 rfl hl (by decide) rfl (fun ls hl => ?_)
          refine lv_iconst (v := 0) hx hb d_Mo_share_46 (by decide) ?_
          refine lv_istore (lv' := [(4, .int (0 : Int32)), (3, .int x6), (2, .int x1), (0, .ref (E.2.1 19)), (1, .int a1)]) hx hb d_Mo_share_47 hl (by decide) rfl (fun ls hl => ?_)
          refine lv_iload_n hx hb d_Mo_share_49 rfl (lv_at hl 4 rfl) ?_
          refine lv_istore (lv' := [(5, .int a1), (4, .int (0 : Int32)), (3, .int x6), (2, .int x1), (0, .ref (E.2.1 19)), (1, .int a1)]) hx hb d_Mo_share_50 hl (by decide) rfl (fun ls hl => ?_)
          refine lv_iload_n hx hb d_Mo_share_52 rfl (lv_at hl 2 rfl) ?_
          refine lv_istore (lv' := [(6, .int x6), (5, .int a1), (4, .int (0 : Int32)), (3, .int x6), (2, .int x1), (0, .ref (E.2.1 19)), (1, .int a1)]) hx hb d_Mo_share_53 hl (by decide) rfl (fun ls hl => ?_)
          obtain ⟨n, h⟩ := h
          exact L_Mo_share_55 X hr hlk K n a1 x1 x6 (0 : Int32) a1 x6 μ _ _ _ h w (lv_sub hl [5, 6, 4, 3, 2, 1, 0] rfl)
        · have h := h.2 c5
          refine lv_iconst (v := 0) hx hb d_Mo_share_36 (by decide) ?_
          refine lv_goto (tgt := 45) hx hb d_Mo_share_37 (by decide) ?_
          refine lv_istore_n (lv' := [(3, .int (0 : Int32)), (2, .int x1), (0, .ref (E.2.1 19)), (1, .int a1)]) hx hb d_Mo_share_45 rfl hl (by decide) rfl (fun ls hl => ?_)
          refine lv_iconst (v := 0) hx hb d_Mo_share_46 (by decide) ?_
          refine lv_istore (lv' := [(4, .int (0 : Int32)), (3, .int (0 : Int32)), (2, .int x1), (0, .ref (E.2.1 19)), (1, .int a1)]) hx hb d_Mo_share_47 hl (by decide) rfl (fun ls hl => ?_)
          refine lv_iload_n hx hb d_Mo_share_49 rfl (lv_at hl 4 rfl) ?_
          refine lv_istore (lv' := [(5, .int a1), (4, .int (0 : Int32)), (3, .int (0 : Int32)), (2, .int x1), (0, .ref (E.2.1 19)), (1, .int a1)]) hx hb d_Mo_share_50 hl (by decide) rfl (fun ls hl => ?_)
          refine lv_iload_n hx hb d_Mo_share_52 rfl (lv_at hl 2 rfl) ?_
          refine lv_istore (lv' := [(6, .int (0 : Int32)), (5, .int a1), (4, .int (0 : Int32)), (3, .int (0 : Int32)), (2, .int x1), (0, .ref (E.2.1 19)), (1, .int a1)]) hx hb d_Mo_share_53 hl (by decide) rfl (fun ls hl => ?_)
          obtain ⟨n, h⟩ := h
          exact L_Mo_share_55 X hr hlk K n a1 x1 (0 : Int32) (0 : Int32) a1 (0 : Int32) μ _ _ _ h w (lv_sub hl [5, 6, 4, 3, 2, 1, 0] rfl)
      · have h := h.2 c4
        refine lv_iconst (v := (-1)) hx hb d_Mo_share_27 (by decide) ?_
        exact z_iret X hr hlk w h d_Mo_share_28
theorem q_Mo_meetOne : (y_Mo_meetOne.cls ≠ "java/lang/invoke/MethodHandle" ∧ y_Mo_meetOne.cls ≠ "java/lang/invoke/VarHandle") ∧ (parseMethodDescriptor y_Mo_meetOne.desc).map (fun d => d.parameters.length) = some 2 := by decide +kernel
theorem d_Mo_meetOne_0 : decode prog_8_method_41_code 0 = .ok (.iload_n 1, 1) := by decide +kernel
theorem d_Mo_meetOne_1 : decode prog_8_method_41_code 1 = .ok (.ifCond .ge 4, 3) := by decide +kernel
theorem d_Mo_meetOne_4 : decode prog_8_method_41_code 4 = .ok (.return_, 1) := by decide +kernel
theorem d_Mo_meetOne_5 : decode prog_8_method_41_code 5 = .ok (.aload_n 0, 1) := by decide +kernel
theorem d_Mo_meetOne_6 : decode prog_8_method_41_code 6 = .ok (.aload_n 0, 1) := by decide +kernel
theorem d_Mo_meetOne_7 : decode prog_8_method_41_code 7 = .ok (.getfield 167, 3) := by decide +kernel
theorem d_Mo_meetOne_10 : decode prog_8_method_41_code 10 = .ok (.ifCond .eq 44, 3) := by decide +kernel
theorem d_Mo_meetOne_13 : decode prog_8_method_41_code 13 = .ok (.iload_n 2, 1) := by decide +kernel
theorem d_Mo_meetOne_14 : decode prog_8_method_41_code 14 = .ok (.ifCond .eq 16, 3) := by decide +kernel
theorem d_Mo_meetOne_17 : decode prog_8_method_41_code 17 = .ok (.aload_n 0, 1) := by decide +kernel
theorem d_Mo_meetOne_18 : decode prog_8_method_41_code 18 = .ok (.getfield 16, 3) := by decide +kernel
theorem d_Mo_meetOne_21 : decode prog_8_method_41_code 21 = .ok (.iload_n 1, 1) := by decide +kernel
theorem d_Mo_meetOne_22 : decode prog_8_method_41_code 22 = .ok (.iaload, 1) := by decide +kernel
theorem d_Mo_meetOne_23 : decode prog_8_method_41_code 23 = .ok (.iconst 3, 1) := by decide +kernel
theorem d_Mo_meetOne_24 : decode prog_8_method_41_code 24 = .ok (.if_icmp .ne 30, 3) := by decide +kernel
theorem d_Mo_meetOne_27 : decode prog_8_method_41_code 27 = .ok (.goto 23, 3) := by decide +kernel
theorem d_Mo_meetOne_30 : decode prog_8_method_41_code 30 = .ok (.aload_n 0, 1) := by decide +kernel
theorem d_Mo_meetOne_31 : decode prog_8_method_41_code 31 = .ok (.getfield 16, 3) := by decide +kernel
theorem d_Mo_meetOne_34 : decode prog_8_method_41_code 34 = .ok (.iload_n 1, 1) := by decide +kernel
theorem d_Mo_meetOne_35 : decode prog_8_method_41_code 35 = .ok (.iaload, 1) := by decide +kernel
theorem d_Mo_meetOne_36 : decode prog_8_method_41_code 36 = .ok (.iconst 1, 1) := by decide +kernel
theorem d_Mo_meetOne_37 : decode prog_8_method_41_code 37 = .ok (.if_icmp .eq 13, 3) := by decide +kernel
theorem d_Mo_meetOne_40 : decode prog_8_method_41_code 40 = .ok (.aload_n 0, 1) := by decide +kernel
theorem d_Mo_meetOne_41 : decode prog_8_method_41_code 41 = .ok (.getfield 16, 3) := by decide +kernel
theorem d_Mo_meetOne_44 : decode prog_8_method_41_code 44 = .ok (.iload_n 1, 1) := by decide +kernel
theorem d_Mo_meetOne_45 : decode prog_8_method_41_code 45 = .ok (.iaload, 1) := by decide +kernel
theorem d_Mo_meetOne_46 : decode prog_8_method_41_code 46 = .ok (.iconst 2, 1) := by decide +kernel
theorem d_Mo_meetOne_47 : decode prog_8_method_41_code 47 = .ok (.if_icmp .ne 7, 3) := by decide +kernel
theorem d_Mo_meetOne_50 : decode prog_8_method_41_code 50 = .ok (.iconst 1, 1) := by decide +kernel
theorem d_Mo_meetOne_51 : decode prog_8_method_41_code 51 = .ok (.goto 4, 3) := by decide +kernel
theorem d_Mo_meetOne_54 : decode prog_8_method_41_code 54 = .ok (.iconst 0, 1) := by decide +kernel
theorem d_Mo_meetOne_55 : decode prog_8_method_41_code 55 = .ok (.putfield 167, 3) := by decide +kernel
theorem d_Mo_meetOne_58 : decode prog_8_method_41_code 58 = .ok (.aload_n 0, 1) := by decide +kernel
theorem d_Mo_meetOne_59 : decode prog_8_method_41_code 59 = .ok (.getfield 38, 3) := by decide +kernel
theorem d_Mo_meetOne_62 : decode prog_8_method_41_code 62 = .ok (.iload_n 1, 1) := by decide +kernel
theorem d_Mo_meetOne_63 : decode prog_8_method_41_code 63 = .ok (.baload, 1) := by decide +kernel
theorem d_Mo_meetOne_64 : decode prog_8_method_41_code 64 = .ok (.ifCond .ne 20, 3) := by decide +kernel
theorem d_Mo_meetOne_67 : decode prog_8_method_41_code 67 = .ok (.aload_n 0, 1) := by decide +kernel
theorem d_Mo_meetOne_68 : decode prog_8_method_41_code 68 = .ok (.getfield 38, 3) := by decide +kernel
theorem d_Mo_meetOne_71 : decode prog_8_method_41_code 71 = .ok (.iload_n 1, 1) := by decide +kernel
theorem d_Mo_meetOne_72 : decode prog_8_method_41_code 72 = .ok (.iconst 1, 1) := by decide +kernel
theorem d_Mo_meetOne_73 : decode prog_8_method_41_code 73 = .ok (.bastore, 1) := by decide +kernel
theorem d_Mo_meetOne_74 : decode prog_8_method_41_code 74 = .ok (.aload_n 0, 1) := by decide +kernel
theorem d_Mo_meetOne_75 : decode prog_8_method_41_code 75 = .ok (.dup, 1) := by decide +kernel
theorem d_Mo_meetOne_76 : decode prog_8_method_41_code 76 = .ok (.getfield 164, 3) := by decide +kernel
theorem d_Mo_meetOne_79 : decode prog_8_method_41_code 79 = .ok (.iconst 1, 1) := by decide +kernel
theorem d_Mo_meetOne_80 : decode prog_8_method_41_code 80 = .ok (.iadd, 1) := by decide +kernel
theorem d_Mo_meetOne_81 : decode prog_8_method_41_code 81 = .ok (.putfield 164, 3) := by decide +kernel
theorem d_Mo_meetOne_84 : decode prog_8_method_41_code 84 = .ok (.return_, 1) := by decide +kernel
def f_Mo_meetOne (μ : zM) (a1 a2 : Int32) (K : zM → Prop) : Prop := (0 ≤ a1 → (((μ 19 27) = 0 → (∀ μ3 : zM, μ3 = zp μ 19 27 (0 : Int32) → (vp_in a1 4096 ∧ ((¬ (μ3 29 a1.toNatClampNeg) = 0 → (K μ3)) ∧ ((μ3 29 a1.toNatClampNeg) = 0 → (vp_in a1 4096 ∧ ∀ μ7 : zM, μ7 = zp μ3 29 a1.toNatClampNeg (vp_nar .boolean (1 : Int32)) → (∀ μ8 : zM, μ8 = zp μ7 19 26 ((μ7 19 26) + (1 : Int32)) → (K μ8)))))))) ∧ (¬ (μ 19 27) = 0 → ((a2 = 0 → (vp_in a1 4096 ∧ (((μ 22 a1.toNatClampNeg) = (1 : Int32) → (∀ μ12 : zM, μ12 = zp μ 19 27 (1 : Int32) → (vp_in a1 4096 ∧ ((¬ (μ12 29 a1.toNatClampNeg) = 0 → (K μ12)) ∧ ((μ12 29 a1.toNatClampNeg) = 0 → (vp_in a1 4096 ∧ ∀ μ16 : zM, μ16 = zp μ12 29 a1.toNatClampNeg (vp_nar .boolean (1 : Int32)) → (∀ μ17 : zM, μ17 = zp μ16 19 26 ((μ16 19 26) + (1 : Int32)) → (K μ17)))))))) ∧ (¬ (μ 22 a1.toNatClampNeg) = (1 : Int32) → (vp_in a1 4096 ∧ ((¬ (μ 22 a1.toNatClampNeg) = (2 : Int32) → (∀ μ20 : zM, μ20 = zp μ 19 27 (0 : Int32) → (vp_in a1 4096 ∧ ((¬ (μ20 29 a1.toNatClampNeg) = 0 → (K μ20)) ∧ ((μ20 29 a1.toNatClampNeg) = 0 → (vp_in a1 4096 ∧ ∀ μ24 : zM, μ24 = zp μ20 29 a1.toNatClampNeg (vp_nar .boolean (1 : Int32)) → (∀ μ25 : zM, μ25 = zp μ24 19 26 ((μ24 19 26) + (1 : Int32)) → (K μ25)))))))) ∧ ((μ 22 a1.toNatClampNeg) = (2 : Int32) → (∀ μ26 : zM, μ26 = zp μ 19 27 (1 : Int32) → (vp_in a1 4096 ∧ ((¬ (μ26 29 a1.toNatClampNeg) = 0 → (K μ26)) ∧ ((μ26 29 a1.toNatClampNeg) = 0 → (vp_in a1 4096 ∧ ∀ μ30 : zM, μ30 = zp μ26 29 a1.toNatClampNeg (vp_nar .boolean (1 : Int32)) → (∀ μ31 : zM, μ31 = zp μ30 19 26 ((μ30 19 26) + (1 : Int32)) → (K μ31)))))))))))))) ∧ (¬ a2 = 0 → (vp_in a1 4096 ∧ ((¬ (μ 22 a1.toNatClampNeg) = (3 : Int32) → (∀ μ34 : zM, μ34 = zp μ 19 27 (0 : Int32) → (vp_in a1 4096 ∧ ((¬ (μ34 29 a1.toNatClampNeg) = 0 → (K μ34)) ∧ ((μ34 29 a1.toNatClampNeg) = 0 → (vp_in a1 4096 ∧ ∀ μ38 : zM, μ38 = zp μ34 29 a1.toNatClampNeg (vp_nar .boolean (1 : Int32)) → (∀ μ39 : zM, μ39 = zp μ38 19 26 ((μ38 19 26) + (1 : Int32)) → (K μ39)))))))) ∧ ((μ 22 a1.toNatClampNeg) = (3 : Int32) → (∀ μ40 : zM, μ40 = zp μ 19 27 (1 : Int32) → (vp_in a1 4096 ∧ ((¬ (μ40 29 a1.toNatClampNeg) = 0 → (K μ40)) ∧ ((μ40 29 a1.toNatClampNeg) = 0 → (vp_in a1 4096 ∧ ∀ μ44 : zM, μ44 = zp μ40 29 a1.toNatClampNeg (vp_nar .boolean (1 : Int32)) → (∀ μ45 : zM, μ45 = zp μ44 19 26 ((μ44 19 26) + (1 : Int32)) → (K μ45))))))))))))))) ∧ (¬ 0 ≤ a1 → (K μ))
set_option maxHeartbeats 4000000 in
set_option maxRecDepth 100000 in
theorem c_Mo_meetOne (l : Launch) (E : zE) (μ : zM) (a1 a2 : Int32) (K : zM → Prop) (h : f_Mo_meetOne μ a1 a2 K) : Met l y_Mo_meetOne (Cond.code y_Mo_meetOne prog_8_method_41_code 3 none :: zT) { frames := 0, cells := 0, slots := 0, locals := 0 } (va_Pc [.ref (E.2.1 19), .int a1, .int a2] (zR zwM E μ)) (va_Qv K (zR zwM E) (zA E)) 0 0 (zA E) := by
  refine z_head (by decide) (Nat.le_of_ble_eq_true rfl) ?_
  intro p e s m below meth c X hr hlk w ls hl
  have X : zX E p s m _ c prog_8_method_41_code "BeatHeapModel" 3 := X
  have hx := X.1
  have hb := X.2.1
  have hl : lv_has ls 3 [(0, .ref (E.2.1 19)), (1, .int a1), (2, .int a2)] := hl
  unfold f_Mo_meetOne at h
  refine lv_iload_n hx hb d_Mo_meetOne_0 rfl (lv_at hl 1 rfl) ?_
  refine lv_if_ge (tgt := 5) hx hb d_Mo_meetOne_1 (by decide) (fun c1 => ?_) (fun c1 => ?_)
  · have h := h.1 c1
    refine lv_aload_n hx hb d_Mo_meetOne_5 rfl (lv_at hl 0 rfl) ?_
    refine lv_aload_n hx hb d_Mo_meetOne_6 rfl (lv_at hl 0 rfl) ?_
    refine gt_19_27 X w w_fl_Mo_167 d_Mo_meetOne_7 ?_
    refine lv_if_eq (tgt := 54) hx hb d_Mo_meetOne_10 (by decide) (fun c2 => ?_) (fun c2 => ?_)
    · have h := h.1 c2
      refine lv_iconst (v := 0) hx hb d_Mo_meetOne_54 (by decide) ?_
      refine pt_19_27 X w (by decide) w_fl_Mo_167 d_Mo_meetOne_55 (fun μ3 H locs eμ3 w => ?_)
      have h := h μ3 eμ3
      refine lv_aload_n hx hb d_Mo_meetOne_58 rfl (lv_at hl 0 rfl) ?_
      refine gt_19_25 X w w_fl_Mo_38 d_Mo_meetOne_59 ?_
      refine lv_iload_n hx hb d_Mo_meetOne_62 rfl (lv_at hl 1 rfl) ?_
      obtain ⟨hi4, h⟩ := h
      refine al_29 X w hi4 d_Mo_meetOne_63 ?_
      refine lv_if_ne (tgt := 84) hx hb d_Mo_meetOne_64 (by decide) (fun c5 => ?_) (fun c5 => ?_)
      · have h := h.1 c5
        exact z_vret X hr hlk w h d_Mo_meetOne_84
      · have h := h.2 c5
        refine lv_aload_n hx hb d_Mo_meetOne_67 rfl (lv_at hl 0 rfl) ?_
        refine gt_19_25 X w w_fl_Mo_38 d_Mo_meetOne_68 ?_
        refine lv_iload_n hx hb d_Mo_meetOne_71 rfl (lv_at hl 1 rfl) ?_
        refine lv_iconst (v := 1) hx hb d_Mo_meetOne_72 (by decide) ?_
        obtain ⟨hi6, h⟩ := h
        refine as_29 X w hi6 d_Mo_meetOne_73 (fun μ7 H locs eμ7 w => ?_)
        have h := h μ7 eμ7
        refine lv_aload_n hx hb d_Mo_meetOne_74 rfl (lv_at hl 0 rfl) ?_
        refine lv_dup hx hb d_Mo_meetOne_75 rfl ?_
        refine gt_19_26 X w w_fl_Mo_164 d_Mo_meetOne_76 ?_
        refine lv_iconst (v := 1) hx hb d_Mo_meetOne_79 (by decide) ?_
        refine lv_iadd hx hb d_Mo_meetOne_80 ?_
        refine pt_19_26 X w w_fl_Mo_164 d_Mo_meetOne_81 (fun μ8 H locs eμ8 w => ?_)
        have h := h μ8 eμ8
        exact z_vret X hr hlk w h d_Mo_meetOne_84
    · have h := h.2 c2
      refine lv_iload_n hx hb d_Mo_meetOne_13 rfl (lv_at hl 2 rfl) ?_
      refine lv_if_eq (tgt := 30) hx hb d_Mo_meetOne_14 (by decide) (fun c9 => ?_) (fun c9 => ?_)
      · have h := h.1 c9
        refine lv_aload_n hx hb d_Mo_meetOne_30 rfl (lv_at hl 0 rfl) ?_
        refine gt_19_6 X w w_fl_Mo_16 d_Mo_meetOne_31 ?_
        refine lv_iload_n hx hb d_Mo_meetOne_34 rfl (lv_at hl 1 rfl) ?_
        obtain ⟨hi10, h⟩ := h
        refine al_22 X w hi10 d_Mo_meetOne_35 ?_
        refine lv_iconst (v := 1) hx hb d_Mo_meetOne_36 (by decide) ?_
        refine lv_icmp_eq (tgt := 50) hx hb d_Mo_meetOne_37 (by decide) (fun c11 => ?_) (fun c11 => ?_)
        · have h := h.1 c11
          refine lv_iconst (v := 1) hx hb d_Mo_meetOne_50 (by decide) ?_
          refine lv_goto (tgt := 55) hx hb d_Mo_meetOne_51 (by decide) ?_
          refine pt_19_27 X w (by decide) w_fl_Mo_167 d_Mo_meetOne_55 (fun μ12 H locs eμ12 w => ?_)
          have h := h μ12 eμ12
          refine lv_aload_n hx hb d_Mo_meetOne_58 rfl (lv_at hl 0 rfl) ?_
          refine gt_19_25 X w w_fl_Mo_38 d_Mo_meetOne_59 ?_
          refine lv_iload_n hx hb d_Mo_meetOne_62 rfl (lv_at hl 1 rfl) ?_
          obtain ⟨hi13, h⟩ := h
          refine al_29 X w hi13 d_Mo_meetOne_63 ?_
          refine lv_if_ne (tgt := 84) hx hb d_Mo_meetOne_64 (by decide) (fun c14 => ?_) (fun c14 => ?_)
          · have h := h.1 c14
            exact z_vret X hr hlk w h d_Mo_meetOne_84
          · have h := h.2 c14
            refine lv_aload_n hx hb d_Mo_meetOne_67 rfl (lv_at hl 0 rfl) ?_
            refine gt_19_25 X w w_fl_Mo_38 d_Mo_meetOne_68 ?_
            refine lv_iload_n hx hb d_Mo_meetOne_71 rfl (lv_at hl 1 rfl) ?_
            refine lv_iconst (v := 1) hx hb d_Mo_meetOne_72 (by decide) ?_
            obtain ⟨hi15, h⟩ := h
            refine as_29 X w hi15 d_Mo_meetOne_73 (fun μ16 H locs eμ16 w => ?_)
            have h := h μ16 eμ16
            refine lv_aload_n hx hb d_Mo_meetOne_74 rfl (lv_at hl 0 rfl) ?_
            refine lv_dup hx hb d_Mo_meetOne_75 rfl ?_
            refine gt_19_26 X w w_fl_Mo_164 d_Mo_meetOne_76 ?_
            refine lv_iconst (v := 1) hx hb d_Mo_meetOne_79 (by decide) ?_
            refine lv_iadd hx hb d_Mo_meetOne_80 ?_
            refine pt_19_26 X w w_fl_Mo_164 d_Mo_meetOne_81 (fun μ17 H locs eμ17 w => ?_)
            have h := h μ17 eμ17
            exact z_vret X hr hlk w h d_Mo_meetOne_84
        · have h := h.2 c11
          refine lv_aload_n hx hb d_Mo_meetOne_40 rfl (lv_at hl 0 rfl) ?_
          refine gt_19_6 X w w_fl_Mo_16 d_Mo_meetOne_41 ?_
          refine lv_iload_n hx hb d_Mo_meetOne_44 rfl (lv_at hl 1 rfl) ?_
          obtain ⟨hi18, h⟩ := h
          refine al_22 X w hi18 d_Mo_meetOne_45 ?_
          refine lv_iconst (v := 2) hx hb d_Mo_meetOne_46 (by decide) ?_
          refine lv_icmp_ne (tgt := 54) hx hb d_Mo_meetOne_47 (by decide) (fun c19 => ?_) (fun c19 => ?_)
          · have h := h.1 c19
            refine lv_iconst (v := 0) hx hb d_Mo_meetOne_54 (by decide) ?_
            refine pt_19_27 X w (by decide) w_fl_Mo_167 d_Mo_meetOne_55 (fun μ20 H locs eμ20 w => ?_)
            have h := h μ20 eμ20
            refine lv_aload_n hx hb d_Mo_meetOne_58 rfl (lv_at hl 0 rfl) ?_
            refine gt_19_25 X w w_fl_Mo_38 d_Mo_meetOne_59 ?_
            refine lv_iload_n hx hb d_Mo_meetOne_62 rfl (lv_at hl 1 rfl) ?_
            obtain ⟨hi21, h⟩ := h
            refine al_29 X w hi21 d_Mo_meetOne_63 ?_
            refine lv_if_ne (tgt := 84) hx hb d_Mo_meetOne_64 (by decide) (fun c22 => ?_) (fun c22 => ?_)
            · have h := h.1 c22
              exact z_vret X hr hlk w h d_Mo_meetOne_84
            · have h := h.2 c22
              refine lv_aload_n hx hb d_Mo_meetOne_67 rfl (lv_at hl 0 rfl) ?_
              refine gt_19_25 X w w_fl_Mo_38 d_Mo_meetOne_68 ?_
              refine lv_iload_n hx hb d_Mo_meetOne_71 rfl (lv_at hl 1 rfl) ?_
              refine lv_iconst (v := 1) hx hb d_Mo_meetOne_72 (by decide) ?_
              obtain ⟨hi23, h⟩ := h
              refine as_29 X w hi23 d_Mo_meetOne_73 (fun μ24 H locs eμ24 w => ?_)
              have h := h μ24 eμ24
              refine lv_aload_n hx hb d_Mo_meetOne_74 rfl (lv_at hl 0 rfl) ?_
              refine lv_dup hx hb d_Mo_meetOne_75 rfl ?_
              refine gt_19_26 X w w_fl_Mo_164 d_Mo_meetOne_76 ?_
              refine lv_iconst (v := 1) hx hb d_Mo_meetOne_79 (by decide) ?_
              refine lv_iadd hx hb d_Mo_meetOne_80 ?_
              refine pt_19_26 X w w_fl_Mo_164 d_Mo_meetOne_81 (fun μ25 H locs eμ25 w => ?_)
              have h := h μ25 eμ25
              exact z_vret X hr hlk w h d_Mo_meetOne_84
          · have h := h.2 c19
            refine lv_iconst (v := 1) hx hb d_Mo_meetOne_50 (by decide) ?_
            refine lv_goto (tgt := 55) hx hb d_Mo_meetOne_51 (by decide) ?_
            refine pt_19_27 X w (by decide) w_fl_Mo_167 d_Mo_meetOne_55 (fun μ26 H locs eμ26 w => ?_)
            have h := h μ26 eμ26
            refine lv_aload_n hx hb d_Mo_meetOne_58 rfl (lv_at hl 0 rfl) ?_
            refine gt_19_25 X w w_fl_Mo_38 d_Mo_meetOne_59 ?_
            refine lv_iload_n hx hb d_Mo_meetOne_62 rfl (lv_at hl 1 rfl) ?_
            obtain ⟨hi27, h⟩ := h
            refine al_29 X w hi27 d_Mo_meetOne_63 ?_
            refine lv_if_ne (tgt := 84) hx hb d_Mo_meetOne_64 (by decide) (fun c28 => ?_) (fun c28 => ?_)
            · have h := h.1 c28
              exact z_vret X hr hlk w h d_Mo_meetOne_84
            · have h := h.2 c28
              refine lv_aload_n hx hb d_Mo_meetOne_67 rfl (lv_at hl 0 rfl) ?_
              refine gt_19_25 X w w_fl_Mo_38 d_Mo_meetOne_68 ?_
              refine lv_iload_n hx hb d_Mo_meetOne_71 rfl (lv_at hl 1 rfl) ?_
              refine lv_iconst (v := 1) hx hb d_Mo_meetOne_72 (by decide) ?_
              obtain ⟨hi29, h⟩ := h
              refine as_29 X w hi29 d_Mo_meetOne_73 (fun μ30 H locs eμ30 w => ?_)
              have h := h μ30 eμ30
              refine lv_aload_n hx hb d_Mo_meetOne_74 rfl (lv_at hl 0 rfl) ?_
              refine lv_dup hx hb d_Mo_meetOne_75 rfl ?_
              refine gt_19_26 X w w_fl_Mo_164 d_Mo_meetOne_76 ?_
              refine lv_iconst (v := 1) hx hb d_Mo_meetOne_79 (by decide) ?_
              refine lv_iadd hx hb d_Mo_meetOne_80 ?_
              refine pt_19_26 X w w_fl_Mo_164 d_Mo_meetOne_81 (fun μ31 H locs eμ31 w => ?_)
              have h := h μ31 eμ31
              exact z_vret X hr hlk w h d_Mo_meetOne_84
      · have h := h.2 c9
        refine lv_aload_n hx hb d_Mo_meetOne_17 rfl (lv_at hl 0 rfl) ?_
        refine gt_19_6 X w w_fl_Mo_16 d_Mo_meetOne_18 ?_
        refine lv_iload_n hx hb d_Mo_meetOne_21 rfl (lv_at hl 1 rfl) ?_
        obtain ⟨hi32, h⟩ := h
        refine al_22 X w hi32 d_Mo_meetOne_22 ?_
        refine lv_iconst (v := 3) hx hb d_Mo_meetOne_23 (by decide) ?_
        refine lv_icmp_ne (tgt := 54) hx hb d_Mo_meetOne_24 (by decide) (fun c33 => ?_) (fun c33 => ?_)
        · have h := h.1 c33
          refine lv_iconst (v := 0) hx hb d_Mo_meetOne_54 (by decide) ?_
          refine pt_19_27 X w (by decide) w_fl_Mo_167 d_Mo_meetOne_55 (fun μ34 H locs eμ34 w => ?_)
          have h := h μ34 eμ34
          refine lv_aload_n hx hb d_Mo_meetOne_58 rfl (lv_at hl 0 rfl) ?_
          refine gt_19_25 X w w_fl_Mo_38 d_Mo_meetOne_59 ?_
          refine lv_iload_n hx hb d_Mo_meetOne_62 rfl (lv_at hl 1 rfl) ?_
          obtain ⟨hi35, h⟩ := h
          refine al_29 X w hi35 d_Mo_meetOne_63 ?_
          refine lv_if_ne (tgt := 84) hx hb d_Mo_meetOne_64 (by decide) (fun c36 => ?_) (fun c36 => ?_)
          · have h := h.1 c36
            exact z_vret X hr hlk w h d_Mo_meetOne_84
          · have h := h.2 c36
            refine lv_aload_n hx hb d_Mo_meetOne_67 rfl (lv_at hl 0 rfl) ?_
            refine gt_19_25 X w w_fl_Mo_38 d_Mo_meetOne_68 ?_
            refine lv_iload_n hx hb d_Mo_meetOne_71 rfl (lv_at hl 1 rfl) ?_
            refine lv_iconst (v := 1) hx hb d_Mo_meetOne_72 (by decide) ?_
            obtain ⟨hi37, h⟩ := h
            refine as_29 X w hi37 d_Mo_meetOne_73 (fun μ38 H locs eμ38 w => ?_)
            have h := h μ38 eμ38
            refine lv_aload_n hx hb d_Mo_meetOne_74 rfl (lv_at hl 0 rfl) ?_
            refine lv_dup hx hb d_Mo_meetOne_75 rfl ?_
            refine gt_19_26 X w w_fl_Mo_164 d_Mo_meetOne_76 ?_
            refine lv_iconst (v := 1) hx hb d_Mo_meetOne_79 (by decide) ?_
            refine lv_iadd hx hb d_Mo_meetOne_80 ?_
            refine pt_19_26 X w w_fl_Mo_164 d_Mo_meetOne_81 (fun μ39 H locs eμ39 w => ?_)
            have h := h μ39 eμ39
            exact z_vret X hr hlk w h d_Mo_meetOne_84
        · have h := h.2 c33
          refine lv_goto (tgt := 50) hx hb d_Mo_meetOne_27 (by decide) ?_
          refine lv_iconst (v := 1) hx hb d_Mo_meetOne_50 (by decide) ?_
          refine lv_goto (tgt := 55) hx hb d_Mo_meetOne_51 (by decide) ?_
          refine pt_19_27 X w (by decide) w_fl_Mo_167 d_Mo_meetOne_55 (fun μ40 H locs eμ40 w => ?_)
          have h := h μ40 eμ40
          refine lv_aload_n hx hb d_Mo_meetOne_58 rfl (lv_at hl 0 rfl) ?_
          refine gt_19_25 X w w_fl_Mo_38 d_Mo_meetOne_59 ?_
          refine lv_iload_n hx hb d_Mo_meetOne_62 rfl (lv_at hl 1 rfl) ?_
          obtain ⟨hi41, h⟩ := h
          refine al_29 X w hi41 d_Mo_meetOne_63 ?_
          refine lv_if_ne (tgt := 84) hx hb d_Mo_meetOne_64 (by decide) (fun c42 => ?_) (fun c42 => ?_)
          · have h := h.1 c42
            exact z_vret X hr hlk w h d_Mo_meetOne_84
          · have h := h.2 c42
            refine lv_aload_n hx hb d_Mo_meetOne_67 rfl (lv_at hl 0 rfl) ?_
            refine gt_19_25 X w w_fl_Mo_38 d_Mo_meetOne_68 ?_
            refine lv_iload_n hx hb d_Mo_meetOne_71 rfl (lv_at hl 1 rfl) ?_
            refine lv_iconst (v := 1) hx hb d_Mo_meetOne_72 (by decide) ?_
            obtain ⟨hi43, h⟩ := h
            refine as_29 X w hi43 d_Mo_meetOne_73 (fun μ44 H locs eμ44 w => ?_)
            have h := h μ44 eμ44
            refine lv_aload_n hx hb d_Mo_meetOne_74 rfl (lv_at hl 0 rfl) ?_
            refine lv_dup hx hb d_Mo_meetOne_75 rfl ?_
            refine gt_19_26 X w w_fl_Mo_164 d_Mo_meetOne_76 ?_
            refine lv_iconst (v := 1) hx hb d_Mo_meetOne_79 (by decide) ?_
            refine lv_iadd hx hb d_Mo_meetOne_80 ?_
            refine pt_19_26 X w w_fl_Mo_164 d_Mo_meetOne_81 (fun μ45 H locs eμ45 w => ?_)
            have h := h μ45 eμ45
            exact z_vret X hr hlk w h d_Mo_meetOne_84
  · have h := h.2 c1
    exact z_vret X hr hlk w h d_Mo_meetOne_4
