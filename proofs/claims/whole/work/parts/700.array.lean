/-! array -/
section ARRAY
variable {ν μ : zM}
theorem AR.new {r s L k a : Nat} {ζ : zM} {kd m x y : Int32} (h : AR r s L k ν) (hq : ∀ q, q ≠ 21 → ζ q = ν q) (hk : ζ 22 a = 0) : AR r s L k (g_new ζ a kd m x y) ∧ s ≠ a := by
  obtain ⟨h1, h2, h3, h4, h5, h6, h7⟩ := h
  have hne : s ≠ a := fun z => by
    rw [hq 22 (by decide), ← z, h3] at hk
    exact absurd hk (by decide)
  refine ⟨⟨h1, ?_, ?_, ?_, h5, fun i i1 i2 => ?_, fun i i1 i2 => ?_⟩, hne⟩
  · show ζ 26 r = _
    rw [hq 26 (by decide)]; exact h2
  · show upd (ζ 22) a kd s = _
    rw [up_n hne, hq 22 (by decide)]; exact h3
  · show upd (ζ 24) a x s = _
    rw [up_n hne, hq 24 (by decide)]; exact h4
  · show ζ 20 (s + i) ≠ 0
    rw [hq 20 (by decide)]; exact h6 i i1 i2
  · show ζ 20 (s + i) = 0
    rw [hq 20 (by decide)]; exact h7 i i1 i2
/-- a leaf comes into its place -/
theorem AR.put {A r s L k b pg : Nat} {S T : Nat → Prop} (h : AR r s L k ν) (hr : r < 16) (hW : WW r A ν μ pg S T) (hk : k < L) (hS : S b) (hb : b < 4096) (h3 : ν 22 b = 3) : s + (k + 1) < 64 * pg ∧ s + (k + 1) < 4096 ∧ WW r A (zp ν 20 (s + (k + 1)) (nI (b + 1))) (zp μ 3 (s + (k + 1)) (nI (b + 1))) pg S T ∧ AR r s L (k + 1) (zp ν 20 (s + (k + 1)) (nI (b + 1))) := by
  have hSs := h.S hr hW
  obtain ⟨av, cv, hJ, hR, hZ, hK, hC, ha, hc⟩ := hW
  obtain ⟨hob, hpt⟩ := h.oo
  obtain ⟨p24, p31, p64, p4, p96, pa, pbs⟩ := ob_ptn hJ.1 hob
  obtain ⟨sc, sm⟩ := hJ.1.al hob.1 hob.nz
  rw [hpt] at p64 p96 pbs
  obtain ⟨h1, h2, h22, h4, h5, h6, h7⟩ := id h
  have hw0 := h7 (k + 1) (by omega) (by omega)
  have uni : ∀ a' i', ob ν a' → 1 ≤ i' → i' ≤ ptn ν a' → a' + i' = s + (k + 1) → a' = s := fun a' i' q1 q2 q3 q4 => by
    obtain ⟨c1, c2⟩ := hJ.1.al q1.1 q1.nz
    have c3 := (ob_ptn hJ.1 q1).2.2.2.2.2.2
    exact blk_dis (i := i') c2 c1 sm sc (by omega) (by omega) (by omega)
  refine ⟨by omega, by omega, ⟨av, cv, ?_, RA_wr hR, hZ, hK, hC, ha, hc⟩, ⟨h1, h2, h22, h4, by omega, fun i i1 i2 => ?_, fun i i1 i2 => ?_⟩⟩
  · refine J_wr (b := s) hJ h1 hob.nz (by omega) (by omega) (fun a' i' q0 q1 q2 q3 q4 => ?_) (fun a' i' q0 q1 q2 q3 q4 => ?_) (fun hp a' i' u q1 q2 q3 q4 hu q5 => ?_)
    · have := uni a' i' q1 q2 q3 q4
      subst this
      exact Or.inr ⟨b, rfl, hS, hb, fun z => by rw [h22] at z; exact absurd z (by decide), fun _ => h3⟩
    · have := uni a' i' q1 q2 q3 q4
      subst this
      have hi : i' = k + 1 := by omega
      subst hi
      rcases hJ.2.2.2.2.2.2.2 a' q0 q1 (k + 1) q2 q3 with z | ⟨t, z1, -, z3⟩
      · exact absurd h22 z.2
      · rw [hw0] at z1; exact absurd z1.symm (nI_nz (by omega))
    · rw [hw0] at q5; exact absurd q5.symm (nI_nz (by omega))
  · show upd (ν 20) (s + (k + 1)) (nI (b + 1)) (s + i) ≠ 0
    by_cases e : i = k + 1
    · rw [e, up_s]; exact nI_nz (by omega)
    · rw [up_n (by omega)]; exact h6 i i1 (by omega)
  · show upd (ν 20) (s + (k + 1)) (nI (b + 1)) (s + i) = 0
    rw [up_n (by omega)]; exact h7 i (by omega) i2
/-- all leaves are there -/
theorem AR.all {A r s L pg : Nat} {S T : Nat → Prop} (h : AR r s L L ν) (hr : r < 16) (hW : WW r A ν μ pg S T) : ∃ T' : Nat → Prop, WW 16 A ν μ pg S T' := by
  have hSs := h.S hr hW
  obtain ⟨av, cv, ⟨hB, hQ, hP, hIS, hG, ⟨t1, t2, t3⟩⟩, hrest⟩ := hW
  obtain ⟨hob, hpt⟩ := h.oo
  obtain ⟨h1, h2, h22, h4, h5, h6, h7⟩ := id h
  have lf : ∀ i, 1 ≤ i → i ≤ L → ∃ t : Nat, ν 20 (s + i) = nI (t + 1) ∧ S t ∧ t < 4096 ∧ ν 22 t = 3 := fun i i1 i2 => by
    rcases hG.2.2.1 s hSs hob i i1 (by omega) with z | ⟨t, z1, z2, z3, -, z5⟩
    · exact absurd z (h6 i i1 i2)
    · exact ⟨t, z1, z2, z3, z5 h22⟩
  refine ⟨fun x => T x ∨ x = s ∨ (S x ∧ ν 22 x = 3), av, cv, ⟨hB, hQ, hP, hIS, hG, ⟨fun a ha => ?_, fun r' hr' _ => ?_, fun a ha hoa i i1 i2 => ?_⟩⟩, hrest⟩
  · rcases ha with ha | ha | ha
    · exact t1 a ha
    · rw [ha]; exact hSs
    · exact ha.1
  · by_cases e : r' = r
    · rw [e]; exact Or.inr ⟨s, h2, Or.inr (Or.inl rfl), h1⟩
    · exact (t2 r' hr' e).imp id (fun ⟨t, q1, q2, q3⟩ => ⟨t, q1, Or.inl q2, q3⟩)
  · rcases ha with ha | ha | ha
    · exact (t3 a ha hoa i i1 i2).imp id (fun ⟨t, q1, q2, q3⟩ => ⟨t, q1, Or.inl q2, q3⟩)
    · subst ha
      obtain ⟨t, q1, q2, q3, q4⟩ := lf i i1 (by omega)
      exact Or.inr ⟨t, q1, Or.inr (Or.inr ⟨q2, q4⟩), q3⟩
    · have := hoa.2
      rw [ha.2] at this
      rcases this with z | z <;> exact absurd z (by decide)
theorem arrL {A n0 pg r s L : Nat} {G : Int32 → zM → Prop} {MS : (Int32 → zM → Prop) → Prop} (hA : A + 160 ≤ 600000) (hZ : A + 160 ≤ 1000 * (n0 + 1)) (hr : r < 16) (kk : ∀ (r : Int32) (μ' : zM), (∀ Km : Int32 → zM → Prop, (∀ ν' : zM, ZZ (n0 + 1) ν' μ' → Km r ν') → MS Km) → G r μ') :
    ∀ (m k : Nat) (ν μ : zM) (S T : Nat → Prop), k + m = L → WW r (A + 9 + 9 * k) ν μ pg S T → AR r s L k ν → (∀ (Km : Int32 → zM → Prop) (n : Nat), F_Mo_array_93 Km n (nI r) (nI L) (nI s) (nI (k + 1)) ν → MS Km) → F_Bh_array_69 G (m + 1) (nI r) (nI L) (nI k) μ
  | 0, k, ν, μ, S, T, h, hW, hAR, hM => by
    have hk : k = L := by omega
    subst hk
    have h16 := hAR.2.2.2.2.1.1
    obtain ⟨T', hW'⟩ := hAR.all hr hW
    refine br_t (nI_le (by omega) (by omega)) (kk 1 μ (fun Km km => hM Km 1 (br_t (nI_lt (by omega) (by omega)) (km ν (hW'.Z (by omega))))))
  | m + 1, k, ν, μ, S, T, h, hW, hAR, hM => by
    have h16 := hAR.2.2.2.2.1.1
    have s96 := hAR.1
    refine br_f (nI_ge (by omega) (by omega)) ?_
    unfold f_Bh_takeLeaf
    have step : ∀ (Km : Int32 → zM → Prop) (n : Nat), f_Mo_take ν (3 : Int32) (3 : Int32) (fun r22 μ21 => ((¬ r22 = (-1 : Int32) → (vp_in (nI s + nI (k + 1)) 4096 ∧ ∀ μ25 : zM, μ25 = zp μ21 20 (nI s + nI (k + 1)).toNatClampNeg (r22 + (1 : Int32)) → (f_Mo_did μ25 (9 : Int32) (fun μ26 => (∀ x27 : Int32, x27 = nI (k + 1) + 1 → (F_Mo_array_93 Km n (nI r) (nI L) (nI s) x27 μ26)))))) ∧ (r22 = (-1 : Int32) → (f_Mo_setRoot μ21 (nI r) (-1 : Int32) (fun μ28 => (f_Mo_failed μ28 (fun r30 μ29 => (Km r30 μ29)))))))) → MS Km := fun Km n q => hM Km (n + 1) (br_f (by rw [nI_ltI (by omega) (by omega)]; omega) q)
    rcases w_take (kd := 3) (c := 3) (x := 0) (y := 0) (y' := 32) hW (Or.inr (Or.inr (Or.inr rfl))) (Or.inr (Or.inr rfl)) ⟨fun q => absurd q (by decide), fun q => absurd q (by decide), fun _ => ⟨rfl, rfl⟩⟩ (fun q => absurd rfl q) with ⟨ζ, μ1, b, b96, ⟨z22, -⟩, zq, z21, hW1, tB, tM⟩ | ⟨μ1, hW1, tB, tM⟩
    · have hm := nI_m1 (t := b) (by omega)
      obtain ⟨hAR1, hne⟩ := hAR.new (kd := 3) (m := tmk ζ b) (x := 0) (y := 0) zq z22
      obtain ⟨av, cv, hJ1, hR1, -⟩ := id hW1
      have gp := hJ1.1.1.2.1
      obtain ⟨w1, w2, hW2, hAR2⟩ := hAR1.put hr hW1 (by omega) (Or.inr rfl) b96 (by show upd (ζ 22) b 3 b = 3; exact up_s)
      refine tB _ (bn_t hm ?_)
      refine k_rootN (fun r' hr' e => ?_) (fun w => by rw [ti_n (by omega)] at w; omega)
      rw [nI_eq (by omega) (by omega)] at e
      subst e
      rw [hR1.2.2.1 r hr, hAR1.2.1, show nI s + 1 + nI k = nI (s + (k + 1)) from by rw [nI_1, nI_add, show s + 1 + k = s + (k + 1) by omega]]
      refine k_setPtr hR1.1.1 gp w1 ?_
      rw [show nI b + 1 = nI (b + 1) from nI_1 b]
      refine bn_t (by decide) ?_
      refine k_tkT (Or.inr (Or.inr (Or.inr rfl))) ?_
      refine w_didk (t := 9) hW2 (by omega) (by omega) (by omega) (fun μ3 ⟨S', T', hW3⟩ => ?_)
      intro x23 e23
      rw [nI_1] at e23
      subst e23
      refine arrL hA hZ hr kk m (k + 1) _ μ3 S' T' (by omega) (hW3.up (by omega)) (hAR2.did hr hW2 (by omega) (by omega) (by omega)) (fun Km n q => step Km n (tM _ (bn_t hm ?_)))
      rw [nI_add]
      refine ⟨vp_in_nI w2 (by decide), ?_⟩
      rw [nI_clamp (by omega), show nI b + 1 = nI (b + 1) from nI_1 b]
      refine nm_e ?_
      refine w_didm (t := 9) hW2 (by omega) (by omega) (by omega) ?_
      intro x27 e27
      rw [nI_1] at e27
      subst e27
      exact q
    · refine tB _ (bn_f rfl ?_)
      refine w_setk hW1 hr (Or.inl rfl) (fun μ2 hW2 => ?_)
      have hW3 := hW2.no (by show upd _ r (-1) r = -1; exact up_s)
      refine w_failk hW3 (fun _ μ3 ⟨S', T', hW4⟩ => bn_f rfl (kk 0 μ3 (fun Km km => step Km 0 (tM _ (bn_f rfl (w_setm hW1 hr (m_fail ?_)))))))
      exact km _ (hW4.Z (by omega))
theorem nI_p31 {n : Nat} (h : n ≤ 512) : (nI n + 32 - 1) / (32 : Int32) = nI ((n + 31) / 32) ∧ (nI n + 31) / (32 : Int32) = nI ((n + 31) / 32) := by
  rw [show (32 : Int32) = nI 32 from rfl, show (31 : Int32) = nI 31 from rfl, nI_add, nI_add, show n + 32 = n + 31 + 1 by omega, nI_pm, ← show (32 : Int32) = nI 32 from rfl, nI_d32 (by omega)]
  exact ⟨rfl, rfl⟩
theorem p_array {k : Nat} (h : ZZ k ν μ) (hk : k < 512) (a1 a2 : Int32) : PP k (f_Bh_array μ a1 a2) (f_Mo_array ν a1 a2) := by
  intro G kk
  obtain ⟨pg, S, T, hW⟩ := ZZ_W.mp h
  have e32 : (32 : Int32).toInt = 32 := by decide
  have e512 : (512 : Int32).toInt = 512 := by decide
  have no : ∀ K : Int32 → zM → Prop, K (-1) ν → ((a1.toInt < 0 ∨ 16 ≤ a1.toInt) ∨ (a2.toInt < 32 ∨ 512 < a2.toInt)) → f_Mo_array ν a1 a2 K := fun K k w => by
    unfold f_Mo_array
    refine m_isRootA (fun r hr er => br_f (by decide) ?_) (fun _ => br_t rfl k)
    refine bl (fun _ => k) (fun q1 => bg (fun q2 => ?_) (fun _ => k))
    rw [er, ti_n (by omega)] at w
    rw [e32] at q1
    rw [e512] at q2
    omega
  refine k_isRootA (fun r hr er => br_f (by decide) ?_) (fun w => br_t rfl (kk (-1) μ (fun Km km => no Km (km ν h.up) (Or.inl w))))
  refine k_within e32 e512 (fun p1 p2 => bn_t (by decide) ?_) (fun w => bn_f rfl (kk (-1) μ (fun Km km => no Km (km ν h.up) (Or.inr w))))
  obtain ⟨n, hn, en⟩ : ∃ n : Nat, (32 ≤ n ∧ n ≤ 512) ∧ a2 = nI n := ⟨a2.toInt.toNat, by omega, ti_of (by omega)⟩
  subst en er
  obtain ⟨d1, d2⟩ := nI_p31 hn.2
  obtain ⟨L, hL⟩ : ∃ L, L = (n + 31) / 32 := ⟨_, rfl⟩
  rw [← hL] at d1 d2
  rw [d1]
  intro x7 e7
  subst e7
  rw [nI_1]
  obtain ⟨hc, hcb⟩ := cl_v (n := L + 1) (by omega)
  obtain ⟨tk1, tk9⟩ := tkc_v (c := cl (L + 1))
  have md : ∀ K : Int32 → zM → Prop, f_Mo_take ν (cl (L + 1)) 2 (fun r10 μ9 => ((¬ r10 = (-1 : Int32) → (vp_in r10 4096 ∧ ∀ μ13 : zM, μ13 = zp μ9 24 r10.toNatClampNeg (nI L) → (vp_in r10 4096 ∧ ∀ μ15 : zM, μ15 = zp μ13 25 r10.toNatClampNeg (nI n) → (f_Mo_setRoot μ15 (nI r) r10 (fun μ16 => (f_Mo_ticksOf μ16 (cl (L + 1)) (fun r18 μ17 => (f_Mo_did μ17 r18 (fun μ19 => (∃ n : Nat, F_Mo_array_93 K n (nI r) (nI L) r10 (1 : Int32) μ19)))))))))) ∧ (r10 = (-1 : Int32) → (f_Mo_failed μ9 (fun r32 μ31 => (K r32 μ31)))))) → f_Mo_array ν (nI r) (nI n) K := fun K k => by
    unfold f_Mo_array
    refine m_isRootA (fun _ _ _ => br_f (by decide) ?_) (fun w => by rw [ti_n (by omega)] at w; omega)
    refine br_f (by rw [ti_lt, e32]; omega) (br_t (by rw [ti_le, e512]; omega) ?_)
    rw [d2]
    intro x6 e6
    subst e6
    rw [nI_1]
    exact m_clFor (by omega) k
  refine k_least (by omega) ?_
  unfold f_Bh_takeForRoot
  rcases w_take (kd := 2) (x := nI L) (y := nI n) (y' := nI n) (hW.ex hr) hc (Or.inr (Or.inl rfl)) ⟨fun q => absurd q (by decide), fun _ => ⟨L, n, rfl, rfl, by omega, by omega, hL, by omega⟩, fun q => absurd q (by decide)⟩ (fun _ => rfl) with ⟨ζ, μ1, a, a96, ⟨z22, z20⟩, zq, z21, hW1, tB, tM⟩ | ⟨μ1, hW1, tB, tM⟩
  · have hm := nI_m1 (t := a) (by omega)
    have hob : ob (g_new ζ a 2 (tmk ζ a) (nI L) (nI n)) a := ⟨a96, Or.inr (by show upd (ζ 22) a 2 a = 2; exact up_s)⟩
    refine tB _ (bn_t hm ?_)
    refine w_setk hW1 hr (Or.inr ⟨a, rfl, Or.inr rfl, hob, fun q => absurd rfl q⟩) (fun μ2 hW2 => bn_t (by decide) ?_)
    have hAR : AR r a L 0 (g_setRoot (g_new ζ a 2 (tmk ζ a) (nI L) (nI n)) r (nI a)) := by
      obtain ⟨k13, k26, k22, k20, k24, k25, k21, -⟩ := bef_keep (ν := g_new ζ a 2 (tmk ζ a) (nI L) (nI n)) (x := (g_new ζ a 2 (tmk ζ a) (nI L) (nI n)) 26 r)
      refine ⟨a96, ?_, ?_, ?_, by omega, fun i i1 i2 => by omega, fun i i1 i2 => ?_⟩
      · show upd _ r (nI a) r = nI a
        exact up_s
      · show (g_before (g_new ζ a 2 (tmk ζ a) (nI L) (nI n)) ((g_new ζ a 2 (tmk ζ a) (nI L) (nI n)) 26 r)) 22 a = 2
        rw [k22]
        show upd (ζ 22) a 2 a = 2
        exact up_s
      · show (g_before (g_new ζ a 2 (tmk ζ a) (nI L) (nI n)) ((g_new ζ a 2 (tmk ζ a) (nI L) (nI n)) 26 r)) 24 a = nI L
        rw [k24]
        show upd (ζ 24) a (nI L) a = nI L
        exact up_s
      · show (g_before (g_new ζ a 2 (tmk ζ a) (nI L) (nI n)) ((g_new ζ a 2 (tmk ζ a) (nI L) (nI n)) 26 r)) 20 (a + i) = 0
        rw [k20]
        exact z20 i (by omega)
    refine k_tkT hc ?_
    refine w_didk hW2 tk1 tk9 (by omega) (fun μ3 ⟨S', T', hW3⟩ => ?_)
    refine ⟨L + 1, arrL (A := 1000 * k) (by omega) (by omega) hr kk L 0 _ μ3 S' T' (by omega) (hW3.up (by omega)) (hAR.did hr hW2 tk1 tk9 (by omega)) (fun Km n' q => md Km (tM _ (bn_t hm ⟨vp_in_nI a96 (by decide), ?_⟩)))⟩
    rw [nI_clamp (by omega)]
    refine nm_e ⟨vp_in_nI a96 (by decide), nm_e ?_⟩
    rw [new_set]
    refine w_setm hW1 hr (m_tkT hc ?_)
    exact w_didm hW2 tk1 tk9 (by omega) ⟨n', q⟩
  · refine tB _ (bn_f rfl ?_)
    have hW2 : WW 16 (1000 * k) (zp ν 19 21 (ν 19 21 + 1)) μ1 pg S T := by
      obtain ⟨a, c, ⟨hB, hQ, hP, hIS, hG, ⟨t1, t2, t3⟩⟩, h2⟩ := hW1
      obtain ⟨a', c', hJ0, -⟩ := hW
      exact ⟨a, c, ⟨hB, hQ, hP, hIS, hG, hJ0.2.2.2.2.2⟩, h2⟩
    refine w_failk hW2 (fun _ μ2 ⟨S', T', hW3⟩ => bn_f rfl (kk 0 μ2 (fun Km km => md Km (tM _ (bn_f rfl (m_fail ?_))))))
    exact km _ (hW3.Z (by omega))
end ARRAY
