theorem z_arr {s : State} {args : Array Value} {ty : FieldType} (h : (Cond.arrayClass ty).before args s = true) : ∃ c : ClassId, ArrOfT s c ty ∧ s.vm.findClass ("[" ++ ty.toString) = some c := by
  obtain ⟨c, k, comp, h1, h2, h3⟩ := Cond.arrayClass_spec h
  exact ⟨c, fun n z => ⟨fun k h => (by cases h), k, h2, comp, h3⟩, h1⟩
/-- what the law's memories are at first, and that the loop ends well from there: the pure part -/
def zPure : Prop := ∃ (Kc Km : zM → Prop), f_Bh_setAll (fun _ _ => 0) 16 20 10 4 Kc ∧ f_Mo_begin (fun _ _ => 0) 16 20 10 4 (fun _ ν => Km ν) ∧ ∀ (L : Nat) (xs : Nat → Int32), L ≤ 2560 → ∀ μ ν : zM, Kc μ → Km ν → ∃ n : Nat, F_La L xs n 0 μ ν
set_option maxHeartbeats 4000000 in
set_option maxRecDepth 100000 in
theorem z_tab {s : State} {args : Array Value} (hts : ∀ w ∈ lw_tbl, w.before args s = true) (hgv : (Jvm.Cond.and given_1 narrow_1).before args s = true) : ∃ t1 t2 : Nat, ∀ (D : va_G) (ad : Nat → Nat) (ca : Nat → ClassId) (A : Nat → Prop) (tl : va_W), (∀ a : Nat, a < s.heap.size → ¬ A a) → zZ (D, ad, ca, t1, t2, A, tl) s s.heap := by
  have hs := flat_of_before _ hgv
  have hin : (Cond.initialized "BeatHeap").before args s = true := hts _ (List.mem_filter.mp w_in_Bh).1
  have a1 : (Cond.arrayOf (.static "BeatHeap" "BLOCK_WORDS" "[I") .int).before args s = true := hs _ (by decide +kernel)
  have l1 := va_eqt (hs (Cond.eq (.length (.static "BeatHeap" "BLOCK_WORDS" "[I")) (.int 4)) (by decide +kernel))
  have e10 := va_eqt (hs (Cond.eq (.elem (.static "BeatHeap" "BLOCK_WORDS" "[I") (.int 0)) (.int 4)) (by decide +kernel))
  have e11 := va_eqt (hs (Cond.eq (.elem (.static "BeatHeap" "BLOCK_WORDS" "[I") (.int 1)) (.int 8)) (by decide +kernel))
  have e12 := va_eqt (hs (Cond.eq (.elem (.static "BeatHeap" "BLOCK_WORDS" "[I") (.int 2)) (.int 16)) (by decide +kernel))
  have e13 := va_eqt (hs (Cond.eq (.elem (.static "BeatHeap" "BLOCK_WORDS" "[I") (.int 3)) (.int 32)) (by decide +kernel))
  have a2 : (Cond.arrayOf (.static "BeatHeap" "TAKE_TICKS" "[I") .int).before args s = true := hs _ (by decide +kernel)
  have l2 := va_eqt (hs (Cond.eq (.length (.static "BeatHeap" "TAKE_TICKS" "[I")) (.int 4)) (by decide +kernel))
  have e20 := va_eqt (hs (Cond.eq (.elem (.static "BeatHeap" "TAKE_TICKS" "[I") (.int 0)) (.int 2)) (by decide +kernel))
  have e21 := va_eqt (hs (Cond.eq (.elem (.static "BeatHeap" "TAKE_TICKS" "[I") (.int 1)) (.int 3)) (by decide +kernel))
  have e22 := va_eqt (hs (Cond.eq (.elem (.static "BeatHeap" "TAKE_TICKS" "[I") (.int 2)) (.int 5)) (by decide +kernel))
  have e23 := va_eqt (hs (Cond.eq (.elem (.static "BeatHeap" "TAKE_TICKS" "[I") (.int 3)) (.int 9)) (by decide +kernel))
  have el1 : ∀ j : Nat, j < 4 → (Term.elem (.static "BeatHeap" "BLOCK_WORDS" "[I") (.int (Int32.ofNat j))).eval args s none [] s = some (.int (zb1 j)) := by
    intro j hj
    rcases (show j = 0 ∨ j = 1 ∨ j = 2 ∨ j = 3 by omega) with rfl | rfl | rfl | rfl
    · exact e10
    · exact e11
    · exact e12
    · exact e13
  have el2 : ∀ j : Nat, j < 4 → (Term.elem (.static "BeatHeap" "TAKE_TICKS" "[I") (.int (Int32.ofNat j))).eval args s none [] s = some (.int (zb2 j)) := by
    intro j hj
    rcases (show j = 0 ∨ j = 1 ∨ j = 2 ∨ j = 3 by omega) with rfl | rfl | rfl | rfl
    · exact e20
    · exact e21
    · exact e22
    · exact e23
  obtain ⟨t1, v1, -⟩ := va_Tof (N := 4) (f := fun j => .int (zb1 j)) (A := fun _ => False) (by decide) a1 l1 el1 (fun _ _ h => h)
  obtain ⟨t2, v2, -⟩ := va_Tof (N := 4) (f := fun j => .int (zb2 j)) (A := fun _ => False) (by decide) a2 l2 el2 (fun _ _ h => h)
  refine ⟨t1, t2, fun D ad ca A tl hA => ?_⟩
  obtain ⟨t1', v1', T1⟩ := va_Tof (N := 4) (f := fun j => .int (zb1 j)) (A := A) (by decide) a1 l1 el1 hA
  obtain ⟨t2', v2', T2⟩ := va_Tof (N := 4) (f := fun j => .int (zb2 j)) (A := A) (by decide) a2 l2 el2 hA
  cases v1.symm.trans v1'
  cases v2.symm.trans v2'
  exact ⟨va_Zref (hts _ w_ls_BLOCK_WORDS) hin v1 hA, va_Zref (hts _ w_ls_TAKE_TICKS) hin v2 hA, T1, T2⟩
set_option maxHeartbeats 4000000 in
set_option maxRecDepth 100000 in
theorem z_start (hpure : zPure) {p : Program} {e : Env} {s : State} {m : MethodId} {below : List Frame} {meth : Method} {c : Code} (l : Launch) {b L : Nat} {xs : Nat → Int32} (hL : L ≤ 2560) (C0 : lw_At p s m meth c b L xs) : W p l e room_1 s m #[Value.ref b] below meth c s.heap [] 0 0 (lw_Z below #[Value.ref b] s) (entryFrame m ([Value.ref b] : List Value).toArray 4) := by
  obtain ⟨Kc, Km, hKc, hKm, hgo⟩ := hpure
  obtain ⟨hx, hb, hr, hml, hown, hts0, hX, hbl, hlk, hgv⟩ := id C0
  have hown : s.vm.findClass "BeatHeapLaw" = some m.cls := hown
  have hts : ∀ w ∈ zT, w.before #[Value.ref b] s = true := fun w h => hts0 w (List.mem_filter.mp h).1
  have hN : ∀ w ∈ zN, va_Nw w s := fun w h => va_Nw.of (zN_on w h) (hts0 w (zN_in w h))
  obtain ⟨t1, t2, hZall⟩ := z_tab hts0 hgv
  obtain ⟨A, hAd⟩ : ∃ A : Nat → Prop, A = fun q : Nat => s.heap.size ≤ q := ⟨_, rfl⟩
  have hA : ∀ q : Nat, s.heap.size ≤ q → A q := fun q h => by rw [hAd]; exact h
  have hnA : ∀ a : Nat, a < s.heap.size → ¬ A a := fun a h => by rw [hAd]; exact Nat.not_le.mpr h
  have hbA : ¬ A b := hnA b hbl
  obtain ⟨c0, iS0, hKn0⟩ := u_known (C := "BeatHeap$Blocks") (T := F_Bk) (N := 11) (n := 11) hts i_Bk (hts _ w_ia_Bk)
  obtain ⟨c1, iS1, hKn1⟩ := u_known (C := "BeatHeap$Clock") (T := F_Ck) (N := 5) (n := 5) hts i_Ck (hts _ w_ia_Ck)
  obtain ⟨c2, iS2, hKn2⟩ := u_known (C := "BeatHeap$Collector") (T := F_Co) (N := 14) (n := 14) hts i_Co (hts _ w_ia_Co)
  obtain ⟨c3, iS3, hKn3⟩ := u_known (C := "BeatHeap$Pile") (T := F_Pi) (N := 2) (n := 2) hts i_Pi (hts _ w_ia_Pi)
  obtain ⟨c4, iS4, hKn4⟩ := u_known (C := "BeatHeap$Walk") (T := F_Wa) (N := 4) (n := 4) hts i_Wa (hts _ w_ia_Wa)
  obtain ⟨c5, iS5, hKn5⟩ := u_known (C := "BeatHeap") (T := F_Bh) (N := 6) (n := 6) hts i_Bh (hts _ w_ia_Bh)
  obtain ⟨c6, iS6, hKn6⟩ := u_known (C := "BeatHeapModel") (T := F_Mo) (N := 28) (n := 28) hts i_Mo (hts _ w_ia_Mo)
  obtain ⟨dC, dI, hKc0⟩ : ∃ (dC : Nat → ClassId) (dI : Nat → Nat → Nat), ∀ (k : Nat) (q : vw_C), zcl[k]? = some q → u_Kn s q.1 q.2.1 q.2.2 (dC k) (dI k) := by
    refine ⟨fun k => ([c0, c1, c2, c3, c4, c5, c6] : List ClassId).getD k c0, fun k => ([iS0, iS1, iS2, iS3, iS4, iS5, iS6] : List (Nat → Nat)).getD k iS0, ?_⟩
    intro k q hq
    match k, hq with
    | 0, hq => cases hq; exact hKn0
    | 1, hq => cases hq; exact hKn1
    | 2, hq => cases hq; exact hKn2
    | 3, hq => cases hq; exact hKn3
    | 4, hq => cases hq; exact hKn4
    | 5, hq => cases hq; exact hKn5
    | 6, hq => cases hq; exact hKn6
    | k + 7, hq => simp [zcl] at hq
  obtain ⟨cI, hI1, hI2⟩ := z_arr (hts _ w_ac_int)
  obtain ⟨cB, hB1, hB2⟩ := z_arr (hts _ w_ac_byte)
  obtain ⟨cZ, hZ1, hZ2⟩ := z_arr (hts _ w_ac_boolean)
  obtain ⟨ca, hca⟩ : ∃ ca : Nat → ClassId, ca = fun k => if k = 0 then cI else if k = 1 then cB else cZ := ⟨_, rfl⟩
  have hK : va_K (dC, dI) zcl [(ca 0, .int), (ca 1, .byte), (ca 2, .boolean)] s := by
    subst hca
    refine ⟨hKc0, fun k q h => ?_⟩
    match k, h with
    | 0, h => cases h; exact ⟨hI1, hI2⟩
    | 1, h => cases h; exact ⟨hB1, hB2⟩
    | 2, h => cases h; exact ⟨hZ1, hZ2⟩
    | k + 3, h => simp at h
  have hS : va_S A s.heap s.heap [] := va_S.rf
  have hP : va_P (dC, dI) zcl [] s.heap := fun k q h => by simp at h
  have hD : va_D A [] := ⟨fun i j p q h => by simp at h, fun k q h => by simp at h⟩
  have hl := lv_entry ([.ref b]) (n := 4) (Nat.le_of_ble_eq_true rfl)
  rw [lg_entry_eq]
  generalize (lg_sl ([.ref b]) ++ List.replicate (4 - (lg_sl ([.ref b])).length) Slot.unset).toArray = ls at hl ⊢
  have hl : lv_has ls 4 [(0, .ref b)] := hl
  refine va_new (ci := 5) (fs := [.null, .null, .null, .null, .null, .int 0]) (C := "BeatHeap") (T := F_Bh) (N := 6) hx hb hts i_Bh t_Bh t_Bh_ok hown (hts _ w_cl_La_7) (hts _ w_ia_Bh) (hts _ w_in_Bh) hK hP hD hS hA rfl b_Bh (show (1 : Nat) ≤ 30 from by decide +kernel) (show (6 : Nat) ≤ 41236 from by decide +kernel) d_La_0 (fun q0 H hP hD hS => ?_)
  have hP : va_P (dC, dI) zcl [(q0, .inr (5, [.null, .null, .null, .null, .null, .int 0]))] H := hP
  have hD : va_D A [(q0, .inr (5, [.null, .null, .null, .null, .null, .int 0]))] := hD
  refine W.widen (k := 1) (n := 6) (show (1 : Nat) ≤ 1 from Nat.le_refl _) (show (6 : Nat) ≤ 6 from Nat.le_refl _) ?_
  refine lv_dup hx hb d_La_3 rfl ?_
  have hFc := va_free (wc := [(q0, .inr (5, [.null, .null, .null, .null, .null, .int 0]))]) hD hS hA [0] rfl
  have hZc : zZ ((dC, dI), fun _ => 0, ca, t1, t2, va_A [(q0, .inr (5, [.null, .null, .null, .null, .null, .int 0]))] H.size, []) s H := (hZall (dC, dI) (fun _ => 0) ca (va_A [(q0, .inr (5, [.null, .null, .null, .null, .null, .int 0]))] H.size) [] (fun a h1 h2 => hnA a h1 (hFc a h2))).kept (fun a h1 h2 => hS.2.1 a h1 (hnA a h1))
  refine va_callv (va_runI (As := []) (rest := [.ref q0]) ⟨hx, hb, hml, hown, hts⟩ (c_Bh_init l (dC, dI) ca q0 H.size t1 t2 Kc hKc) ⟨⟨rfl, rfl, Nat.le_of_ble_eq_true rfl, Nat.le_of_ble_eq_true rfl, z_payT hts w_co_Bh_init, List.mem_cons_self, hts _ w_co_Bh_init, hts _ w_in_Bh, q_Bh_init.1, (fun sig h => by have h9 := q_Bh_init.2; rw [h] at h9; exact (Option.some.inj h9).symm), hts _ w_ml_La_9⟩, rfl, hts _ w_im_Bh_init⟩ ⟨fun a U g mk q => ⟨q.1, (zPc_blind (as := [.ref q0]) a U g mk ⟨q.1, q.2.1⟩).2, zZ.moved (u := U) (U := U.calling g mk a) (Vm.Alike.refl U.vm) q.2.2⟩, fun U hU hW => ⟨rfl, ⟨by rw [hU], by rw [hU]; exact hP, va_K.moved hW.alike hK, zN_warm hW hN, hD.weaken (fun _ _ _ _ => trivial)⟩, by rw [hU]; exact zZ.moved hW.alike hZc⟩⟩ rfl rfl hl.1 rfl (lv_room (Nat.le_of_ble_eq_true rfl)) d_La_4 ⟨(show (19 : Nat) ≤ 30 from by decide +kernel), (show (13452 : Nat) ≤ 41236 from by decide +kernel)⟩) hS (fun q _ h => hFc q h) hFc (fun u t H1 locs ht hvm hw hB hz1 hk1 hS => ?_)
  obtain ⟨E1, μ⟩ := u
  obtain ⟨hu0, hu1, hKμ⟩ := hw
  obtain ⟨hP1, hD1⟩ := hB
  rw [ht] at hP1
  dsimp only at hu0 hu1 hKμ hP1 hD1
  obtain ⟨ad1, had1⟩ : ∃ a : Nat → Nat, a = E1.2.1 := ⟨_, rfl⟩
  rw [← had1] at hu0 hu1
  subst hu1
  have hP1 : va_P (dC, dI) zcl (zC0 ((dC, dI), ad1, ca, t1, t2, A, []) μ) H1 := by have h9 := hP1; simp only [zwC, List.append_nil] at h9; exact h9
  have hD1 : va_D (va_A [(q0, .inr (5, [.null, .null, .null, .null, .null, .int 0]))] H.size) (zC0 ((dC, dI), ad1, ca, t1, t2, A, []) μ) := by have h9 := hD1; simp only [zwC, List.append_nil] at h9; exact h9
  obtain ⟨hP, hD⟩ := va_join (wr := []) (w1 := zC0 ((dC, dI), ad1, ca, t1, t2, A, []) μ) hP hD [0] [] rfl rfl (by decide) (by decide) hk1 hFc hP1 hD1
  generalize H1 = H at hP hS ⊢
  have hP : va_P (dC, dI) zcl (zC0 ((dC, dI), ad1, ca, t1, t2, A, []) μ) H := hP
  have hD : va_D A (zC0 ((dC, dI), ad1, ca, t1, t2, A, []) μ) := hD
  refine W.widen (k := 19) (n := 13452) (show (19 : Nat) ≤ 19 from Nat.le_refl _) (show (13452 : Nat) ≤ 13452 from Nat.le_refl _) ?_
  refine lv_astore_n (lv' := [(1, .ref q0), (0, .ref b)]) hx hb d_La_7 rfl hl (by decide) rfl (fun ls hl => ?_)
  refine va_new (ci := 6) (fs := [.int 0, .int 0, .int 0, .int 0, .null, .null, .null, .null, .null, .null, .null, .null, .int 0, .int 0, .int 0, .int 0, .int 0, .int 0, .int 0, .int 0, .int 0, .int 0, .int 0, .int 0, .null, .null, .int 0, .int 0]) (C := "BeatHeapModel") (T := F_Mo) (N := 28) hx hb hts i_Mo t_Mo t_Mo_ok hown (hts _ w_cl_La_10) (hts _ w_ia_Mo) (hts _ w_in_Mo) hK hP hD hS hA rfl b_Mo (show (20 : Nat) ≤ 30 from by decide +kernel) (show (13480 : Nat) ≤ 41236 from by decide +kernel) d_La_8 (fun q1 H hP hD hS => ?_)
  refine W.widen (k := 20) (n := 13480) (show (20 : Nat) ≤ 20 from Nat.le_refl _) (show (13480 : Nat) ≤ 13480 from Nat.le_refl _) ?_
  refine lv_dup hx hb d_La_11 rfl ?_
  have hPc : va_P (dC, dI) zcl [(q1, .inr (6, [.int 0, .int 0, .int 0, .int 0, .null, .null, .null, .null, .null, .null, .null, .null, .int 0, .int 0, .int 0, .int 0, .int 0, .int 0, .int 0, .int 0, .int 0, .int 0, .int 0, .int 0, .null, .null, .int 0, .int 0]))] H := hP.sub [19] rfl
  have hDc : va_D A [(q1, .inr (6, [.int 0, .int 0, .int 0, .int 0, .null, .null, .null, .null, .null, .null, .null, .null, .int 0, .int 0, .int 0, .int 0, .int 0, .int 0, .int 0, .int 0, .int 0, .int 0, .int 0, .int 0, .null, .null, .int 0, .int 0]))] := hD.sub [19] (by decide) rfl
  have hFc := va_free (wc := [(q1, .inr (6, [.int 0, .int 0, .int 0, .int 0, .null, .null, .null, .null, .null, .null, .null, .null, .int 0, .int 0, .int 0, .int 0, .int 0, .int 0, .int 0, .int 0, .int 0, .int 0, .int 0, .int 0, .null, .null, .int 0, .int 0]))]) hD hS hA [19] rfl
  have hZc : zZ ((dC, dI), fun _ => 0, ca, t1, t2, va_A [(q1, .inr (6, [.int 0, .int 0, .int 0, .int 0, .null, .null, .null, .null, .null, .null, .null, .null, .int 0, .int 0, .int 0, .int 0, .int 0, .int 0, .int 0, .int 0, .int 0, .int 0, .int 0, .int 0, .null, .null, .int 0, .int 0]))] H.size, []) s H := (hZall (dC, dI) (fun _ => 0) ca (va_A [(q1, .inr (6, [.int 0, .int 0, .int 0, .int 0, .null, .null, .null, .null, .null, .null, .null, .null, .int 0, .int 0, .int 0, .int 0, .int 0, .int 0, .int 0, .int 0, .int 0, .int 0, .int 0, .int 0, .null, .null, .int 0, .int 0]))] H.size) [] (fun a h1 h2 => hnA a h1 (hFc a h2))).kept (fun a h1 h2 => hS.2.1 a h1 (hnA a h1))
  refine va_callv (va_runI (As := []) (rest := [.ref q1]) ⟨hx, hb, hml, hown, hts⟩ (c_Mo_init l (dC, dI) ca q1 H.size t1 t2 Km hKm) ⟨⟨rfl, rfl, Nat.le_of_ble_eq_true rfl, Nat.le_of_ble_eq_true rfl, z_payT hts w_co_Mo_init, List.mem_cons_self, hts _ w_co_Mo_init, hts _ w_in_Mo, q_Mo_init.1, (fun sig h => by have h9 := q_Mo_init.2; rw [h] at h9; exact (Option.some.inj h9).symm), hts _ w_ml_La_12⟩, rfl, hts _ w_im_Mo_init⟩ ⟨fun a U g mk q => ⟨q.1, (zPc_blind (as := [.ref q1]) a U g mk ⟨q.1, q.2.1⟩).2, zZ.moved (u := U) (U := U.calling g mk a) (Vm.Alike.refl U.vm) q.2.2⟩, fun U hU hW => ⟨rfl, ⟨by rw [hU], by rw [hU]; exact hPc, va_K.moved hW.alike hK, zN_warm hW hN, hDc.weaken (fun _ _ _ _ => trivial)⟩, by rw [hU]; exact zZ.moved hW.alike hZc⟩⟩ rfl rfl hl.1 rfl (lv_room (Nat.le_of_ble_eq_true rfl)) d_La_12 ⟨(show (30 : Nat) ≤ 30 from by decide +kernel), (show (41236 : Nat) ≤ 41236 from by decide +kernel)⟩) hS (fun q _ h => hFc q h) hFc (fun u t H1 locs ht hvm hw hB hz1 hk1 hS => ?_)
  obtain ⟨E2, ν⟩ := u
  obtain ⟨hv0, hv1, hKν⟩ := hw
  obtain ⟨hP1, hD1⟩ := hB
  rw [ht] at hP1
  dsimp only at hv0 hv1 hKν hP1 hD1
  obtain ⟨ad2, had2⟩ : ∃ a : Nat → Nat, a = E2.2.1 := ⟨_, rfl⟩
  rw [← had2] at hv0 hv1
  subst hv1
  obtain ⟨E, hE⟩ : ∃ E : zE, E = ((dC, dI), fun k => if k < 19 then ad1 k else ad2 k, ca, t1, t2, A, []) := ⟨_, rfl⟩
  have hP1 : va_P (dC, dI) zcl (zM0 E ν) H1 := by have h9 := hP1; simp only [zwM, List.append_nil] at h9; rw [hE]; exact h9
  have hD1 : va_D (va_A [(q1, .inr (6, [.int 0, .int 0, .int 0, .int 0, .null, .null, .null, .null, .null, .null, .null, .null, .int 0, .int 0, .int 0, .int 0, .int 0, .int 0, .int 0, .int 0, .int 0, .int 0, .int 0, .int 0, .null, .null, .int 0, .int 0]))] H.size) (zM0 E ν) := by have h9 := hD1; simp only [zwM, List.append_nil] at h9; rw [hE]; exact h9
  have hCC : zC0 ((dC, dI), ad1, ca, t1, t2, A, []) μ = zC0 E μ := by rw [hE]; rfl
  obtain ⟨hP, hD⟩ := va_join (wr := zC0 ((dC, dI), ad1, ca, t1, t2, A, []) μ) (w1 := zM0 E ν) hP hD [19] [0, 1, 2, 3, 4, 5, 6, 7, 8, 9, 10, 11, 12, 13, 14, 15, 16, 17, 18] rfl rfl (by decide) (by decide) hk1 hFc hP1 hD1
  rw [hCC] at hP hD
  generalize H1 = H at hP hS ⊢
  refine W.widen (k := 30) (n := 41236) (show (30 : Nat) ≤ 30 from Nat.le_refl _) (show (41236 : Nat) ≤ 41236 from Nat.le_refl _) ?_
  refine lv_astore_n (lv' := [(2, .ref q1), (1, .ref q0), (0, .ref b)]) hx hb d_La_15 rfl hl (by decide) rfl (fun ls hl => ?_)
  refine lv_iconst (v := 0) hx hb d_La_16 (by decide) ?_
  refine lv_istore_n (lv' := [(3, .int 0), (2, .ref q1), (1, .ref q0), (0, .ref b)]) hx hb d_La_17 rfl hl (by decide) rfl (fun ls hl => ?_)
  obtain ⟨n, hn⟩ := hgo L xs hL μ ν hKμ hKν
  have e0 : E.2.1 0 = q0 := by rw [hE]; exact hu0
  have e19 : E.2.1 19 = q1 := by rw [hE]; exact hv0
  have X : zX E p s m #[Value.ref b] c code "BeatHeapLaw" 4 := by rw [hE]; exact ⟨hx, hb, hml, hown, hts, hK, hN, hZall _ _ _ _ _ hnA⟩
  refine L_La (E := E) (by rw [hE]; exact hAd) X hr hlk hX hbl (by rw [hE]; exact hbA) n 0 μ ν _ _ ls hn ?_ ?_
  · have e1 : zA E = A := by rw [hE]
    have e2 : E.1 = (dC, dI) := by rw [hE]
    refine ⟨by rw [e2]; exact hP, by rw [e1]; exact hD, by rw [e1]; exact hS⟩
  · rw [e0, e19]
    exact lv_sub hl [3, 2, 1, 0] rfl
