/-! make and array -/
def cl (n : Nat) : Int32 := if n ≤ 4 then 0 else if n ≤ 8 then 1 else if n ≤ 16 then 2 else 3
theorem cl_v {n : Nat} (h : n ≤ 32) : isCl (cl n) ∧ n ≤ bs (cl n) := by
  unfold cl
  split
  · exact ⟨Or.inl rfl, by show n ≤ 4; omega⟩
  · split
    · exact ⟨Or.inr (Or.inl rfl), by show n ≤ 8; omega⟩
    · split
      · exact ⟨Or.inr (Or.inr (Or.inl rfl)), by show n ≤ 16; omega⟩
      · exact ⟨Or.inr (Or.inr (Or.inr rfl)), by show n ≤ 32; omega⟩
theorem k_least {μ : zM} {n : Nat} {K : Int32 → zM → Prop} (h : n ≤ 32) (k : K (cl n) μ) : f_Bh_leastClass μ (nI n) K := by
  have e4 : (nI 4).toInt = 4 := by decide
  refine ⟨5, ?_⟩
  unfold cl at k
  refine br_f (by decide) ⟨vp_in_nI (n := 0) (by decide) (by decide), ?_⟩
  refine ⟨fun q x4 e4 => ?_, fun q => ?_⟩
  · subst e4
    have q : nI 4 < nI n := q
    rw [nI_ltI (by decide) (by omega)] at q
    rw [if_neg (by omega)] at k
    refine br_f (by decide) ⟨vp_in_nI (n := 1) (by decide) (by decide), ?_⟩
    refine ⟨fun q x4 e4 => ?_, fun q => ?_⟩
    · subst e4
      have q : nI 8 < nI n := q
      rw [nI_ltI (by decide) (by omega)] at q
      rw [if_neg (by omega)] at k
      refine br_f (by decide) ⟨vp_in_nI (n := 2) (by decide) (by decide), ?_⟩
      refine ⟨fun q x4 e4 => ?_, fun q => ?_⟩
      · subst e4
        have q : nI 16 < nI n := q
        rw [nI_ltI (by decide) (by omega)] at q
        rw [if_neg (by omega)] at k
        refine br_f (by decide) ⟨vp_in_nI (n := 3) (by decide) (by decide), ?_⟩
        refine br_f ?_ k
        show ¬ nI 32 < nI n
        rw [nI_ltI (by decide) (by omega)]; omega
      · have q : ¬ nI 16 < nI n := q
        rw [nI_ltI (by decide) (by omega)] at q
        rw [if_pos (by omega)] at k
        exact k
    · have q : ¬ nI 8 < nI n := q
      rw [nI_ltI (by decide) (by omega)] at q
      rw [if_pos (by omega)] at k
      exact k
  · have q : ¬ nI 4 < nI n := q
    rw [nI_ltI (by decide) (by omega)] at q
    rw [if_pos (by omega)] at k
    exact k
theorem m_clFor {μ : zM} {n : Nat} {K : Int32 → zM → Prop} (h : n ≤ 32) (k : K (cl n) μ) : f_Mo_classFor μ (nI n) K := by
  refine ⟨5, ?_⟩
  unfold cl at k
  refine ⟨fun q => ?_, fun q x4 e4 => ?_⟩
  · have q : nI n ≤ nI 4 := q
    rw [nI_leI (by omega) (by decide)] at q
    rw [if_pos (by omega)] at k
    exact k
  · subst e4
    have q : ¬ nI n ≤ nI 4 := q
    rw [nI_leI (by omega) (by decide)] at q
    rw [if_neg (by omega)] at k
    refine ⟨fun q => ?_, fun q x4 e4 => ?_⟩
    · have q : nI n ≤ nI 8 := q
      rw [nI_leI (by omega) (by decide)] at q
      rw [if_pos (by omega)] at k
      exact k
    · subst e4
      have q : ¬ nI n ≤ nI 8 := q
      rw [nI_leI (by omega) (by decide)] at q
      rw [if_neg (by omega)] at k
      refine ⟨fun q => ?_, fun q x4 e4 => ?_⟩
      · have q : nI n ≤ nI 16 := q
        rw [nI_leI (by omega) (by decide)] at q
        rw [if_pos (by omega)] at k
        exact k
      · subst e4
        have q : ¬ nI n ≤ nI 16 := q
        rw [nI_leI (by omega) (by decide)] at q
        rw [if_neg (by omega)] at k
        refine br_t ?_ k
        show nI n ≤ nI 32
        rw [nI_leI (by omega) (by decide)]; omega
def tkc (c : Int32) : Nat := if c = 0 then 2 else if c = 1 then 3 else if c = 2 then 5 else 9
theorem tkc_v {c : Int32} : 1 ≤ tkc c ∧ tkc c ≤ 9 := by
  unfold tkc
  split
  · omega
  · split
    · omega
    · split <;> omega
theorem k_tkT {μ : zM} {c : Int32} {K : Int32 → zM → Prop} (hc : isCl c) (k : K (nI (tkc c)) μ) : f_Bh_takeTicks μ c K := by
  obtain ⟨z1, z2, z3, z4⟩ := zb_v hc
  unfold f_Bh_takeTicks f_Bh_isClass
  refine br_f z3 (br_f z4 (br_f (by decide) ⟨z2, ?_⟩))
  have : zb2 c.toNatClampNeg = nI (tkc c) := by rcases hc with rfl | rfl | rfl | rfl <;> decide
  rw [this]; exact k
theorem m_tkT {μ : zM} {c : Int32} {K : Int32 → zM → Prop} (hc : isCl c) (k : K (nI (tkc c)) μ) : f_Mo_ticksOf μ c K := by
  unfold f_Mo_ticksOf
  rcases hc with rfl | rfl | rfl | rfl
  · exact bn_f rfl k
  · exact bn_t (by decide) (bn_f rfl k)
  · exact bn_t (by decide) (bn_t (by decide) (bn_f rfl k))
  · exact bn_t (by decide) (bn_t (by decide) (bn_t (by decide) k))
theorem w_setk {e A r pg : Nat} {ν μ : zM} {S T : Nat → Prop} {x : Int32} {G : zM → Prop} (hW : WW e A ν μ pg S T) (hr : r < 16) (hx : x = -1 ∨ ∃ t : Nat, x = nI t ∧ S t ∧ ob ν t ∧ (r ≠ e → T t)) (g : ∀ μ' : zM, WW e A (g_setRoot ν r x) μ' pg S T → G μ') : f_Bh_setRoot μ (nI r) x G := by
  obtain ⟨a, c, hJ, hR, hZ, hK, hC, ha, hc⟩ := hW
  obtain ⟨n, hn, hpb, hnn, -⟩ := IP.pb hJ.1 hJ.2.2.1
  refine k_setRoot hJ.1 hR hr ((hJ.root hr).imp id (fun ⟨t, q1, _, q3⟩ => ⟨t, q1, q3⟩)) hn hpb (fun μ1 r1 r2 => g μ1 ?_)
  exact ⟨a, c, J_setRoot hJ hr hx, r1, ZC_bef hZ r2, IK_bef hK, CB_bef hC, ha, hc.1, hc.2.eq (H_before (ν := ν) (x := ν 26 r))⟩
theorem w_setm {e A r pg : Nat} {ν μ : zM} {S T : Nat → Prop} {x : Int32} {K : zM → Prop} (hW : WW e A ν μ pg S T) (hr : r < 16) (k : K (g_setRoot ν r x)) : f_Mo_setRoot ν (nI r) x K := by
  obtain ⟨a, c, hJ, hR, hZ, hK, hC, ha, hc⟩ := hW
  obtain ⟨n, hn, hpb, hnn, -⟩ := IP.pb hJ.1 hJ.2.2.1
  have hle := hpb.1
  exact m_setRoot hr ((hJ.root hr).imp id (fun ⟨t, q1, _, q3⟩ => ⟨t, q1, q3.1⟩)) hn (by omega) k
theorem upd_upd {f : Nat → Int32} {a : Nat} {x y : Int32} : upd (upd f a x) a y = upd f a y := by
  funext j
  by_cases e : j = a
  · rw [e, up_s, up_s]
  · rw [up_n e, up_n e, up_n e]
theorem new_set {ζ : zM} {a : Nat} {kd m x y : Int32} : zp (zp (g_new ζ a kd m 0 0) 24 a x) 25 a y = g_new ζ a kd m x y := by
  funext q
  by_cases e5 : q = 25
  · subst e5
    show upd (upd (ζ 25) a 0) a y = upd (ζ 25) a y
    exact upd_upd
  · by_cases e4 : q = 24
    · subst e4
      show upd (upd (ζ 24) a 0) a x = upd (ζ 24) a x
      exact upd_upd
    · unfold g_new
      rw [zp_n e5, zp_n e4, zp_n e5, zp_n e4, zp_n e5, zp_n e4]
section MAKE
variable {k : Nat} {ν μ : zM}
theorem p_make (h : ZZ k ν μ) (hk : k < 512) (a1 a2 a3 : Int32) : PP k (f_Bh_make μ a1 a2 a3) (f_Mo_make ν a1 a2 a3) := by
  intro G kk
  obtain ⟨pg, S, T, hW⟩ := ZZ_W.mp h
  have e0 : (0 : Int32).toInt = 0 := by decide
  have e1 : (1 : Int32).toInt = 1 := by decide
  have e31 : (31 : Int32).toInt = 31 := by decide
  -- a refused call, the model
  have no : ∀ K : Int32 → zM → Prop, K (-1) ν → ((a1.toInt < 0 ∨ 16 ≤ a1.toInt) ∨ (a2.toInt < 0 ∨ 31 < a2.toInt) ∨ (a3.toInt < 0 ∨ 31 < a3.toInt) ∨ ((a2 + a3).toInt < 1 ∨ 31 < (a2 + a3).toInt)) → f_Mo_make ν a1 a2 a3 K := fun K k w => by
    unfold f_Mo_make
    refine m_isRootA (fun r hr er => br_f (by decide) ?_) (fun _ => br_t rfl k)
    refine bl (fun _ => k) (fun q1 => bl (fun _ => k) (fun q2 => bl (fun _ => k) (fun q3 => bl (fun _ => k) (fun q4 => bl (fun _ => k) (fun q5 => bg (fun q6 => ?_) (fun _ => k))))))
    rw [er, ti_n (by omega)] at w
    rw [e0] at q1 q3
    rw [e31] at q2 q4 q6
    rw [e1] at q5
    omega
  refine k_isRootA (fun r hr er => br_f (by decide) ?_) (fun w => br_t rfl (kk (-1) μ (fun Km km => no Km (km ν h.up) (Or.inl w))))
  refine k_within e0 e31 (fun p1 p2 => br_f (by decide) ?_) (fun w => br_t rfl (kk (-1) μ (fun Km km => no Km (km ν h.up) (Or.inr (Or.inl w)))))
  refine k_within e0 e31 (fun n1 n2 => bn_t (by decide) ?_) (fun w => bn_f rfl (kk (-1) μ (fun Km km => no Km (km ν h.up) (Or.inr (Or.inr (Or.inl w))))))
  refine k_within e1 e31 (fun s1 s2 => bn_t (by decide) ?_) (fun w => bn_f rfl (kk (-1) μ (fun Km km => no Km (km ν h.up) (Or.inr (Or.inr (Or.inr w))))))
  obtain ⟨p, hp, ep⟩ : ∃ p : Nat, p ≤ 31 ∧ a2 = nI p := ⟨a2.toInt.toNat, by omega, ti_of (by omega)⟩
  obtain ⟨n, hn, en⟩ : ∃ n : Nat, n ≤ 31 ∧ a3 = nI n := ⟨a3.toInt.toNat, by omega, ti_of (by omega)⟩
  subst ep en er
  rw [nI_add, ti_n (by omega)] at s1 s2
  have hpn : 1 ≤ p + n ∧ p + n ≤ 31 := by omega
  rw [nI_add, nI_1]
  obtain ⟨hc, hcb⟩ := cl_v (n := p + n + 1) (by omega)
  obtain ⟨tk1, tk9⟩ := tkc_v (c := cl (p + n + 1))
  have md : ∀ K : Int32 → zM → Prop, f_Mo_take ν (cl (p + n + 1)) 1 (fun r13 μ12 => ((¬ r13 = (-1 : Int32) → (vp_in r13 4096 ∧ ∀ μ16 : zM, μ16 = zp μ12 24 r13.toNatClampNeg (nI p) → (vp_in r13 4096 ∧ ∀ μ18 : zM, μ18 = zp μ16 25 r13.toNatClampNeg (nI n) → (f_Mo_setRoot μ18 (nI r) r13 (fun μ19 => (f_Mo_ticksOf μ19 (cl (p + n + 1)) (fun r21 μ20 => (f_Mo_did μ20 r21 (fun μ22 => (K (1 : Int32) μ22)))))))))) ∧ (r13 = (-1 : Int32) → (f_Mo_failed μ12 (fun r24 μ23 => (K r24 μ23)))))) → f_Mo_make ν (nI r) (nI p) (nI n) K := fun K k => by
    unfold f_Mo_make
    refine m_isRootA (fun _ _ _ => br_f (by decide) ?_) (fun w => by rw [ti_n (by omega)] at w; omega)
    refine br_f (nI_pos (by omega)) (br_f (by rw [ti_lt, e31, ti_n (by omega)]; omega) (br_f (nI_pos (by omega)) (br_f (by rw [ti_lt, e31, ti_n (by omega)]; omega) ?_)))
    rw [nI_add, nI_1]
    refine br_f (by rw [ti_lt, e1, ti_n (by omega)]; omega) (br_t (by rw [ti_le, e31, ti_n (by omega)]; omega) ?_)
    exact m_clFor (by omega) k
  refine k_least (by omega) ?_
  unfold f_Bh_takeForRoot
  rcases w_take (kd := 1) (x := nI p) (y := nI n) (y' := nI n) hW hc (Or.inl rfl) ⟨fun _ => ⟨p, n, rfl, rfl, by omega, by omega⟩, fun q => absurd q (by decide), fun q => absurd q (by decide)⟩ (fun _ => rfl) with ⟨ζ, μ1, a, a96, ⟨z22, -⟩, zq, z21, hW1, tB, tM⟩ | ⟨μ1, hW1, tB, tM⟩
  · have hm := nI_m1 (t := a) (by omega)
    have hob : ob (g_new ζ a 1 (tmk ζ a) (nI p) (nI n)) a := ⟨a96, Or.inl (by show upd (ζ 22) a 1 a = 1; exact up_s)⟩
    refine tB _ (bn_t hm ?_)
    refine w_setk hW1 hr (Or.inr ⟨a, rfl, Or.inr rfl, hob, fun _ => Or.inr ⟨rfl, rfl⟩⟩) (fun μ2 hW2 => bn_t (by decide) ?_)
    refine k_tkT hc ?_
    refine w_didk hW2 tk1 tk9 (by omega) (fun μ3 ⟨S', T', hW3⟩ => kk 1 μ3 (fun Km km => md Km (tM _ (bn_t hm ⟨vp_in_nI a96 (by decide), ?_⟩))))
    rw [nI_clamp (by omega)]
    refine nm_e ⟨vp_in_nI a96 (by decide), nm_e ?_⟩
    rw [new_set]
    refine w_setm hW1 hr (m_tkT hc ?_)
    exact w_didm hW2 tk1 tk9 (by omega) (km _ (hW3.Z (by omega)))
  · refine tB _ (bn_f rfl ?_)
    refine w_failk hW1 (fun _ μ2 ⟨S', T', hW2⟩ => bn_f rfl (kk 0 μ2 (fun Km km => md Km (tM _ (bn_f rfl (m_fail ?_))))))
    exact km _ (hW2.Z (by omega))
theorem WW.ex {A r pg : Nat} {S T : Nat → Prop} (h : WW 16 A ν μ pg S T) (hr : r < 16) : WW r A ν μ pg S T := by
  obtain ⟨a, c, ⟨hB, hQ, hP, hIS, hG, ⟨t1, t2, t3⟩⟩, h2⟩ := h
  exact ⟨a, c, ⟨hB, hQ, hP, hIS, hG, ⟨t1, fun r' hr' _ => t2 r' hr' (by omega), t3⟩⟩, h2⟩
theorem WW.no {A r pg : Nat} {S T : Nat → Prop} (h : WW r A ν μ pg S T) (hr : ν 26 r = -1) : WW 16 A ν μ pg S T := by
  obtain ⟨a, c, ⟨hB, hQ, hP, hIS, hG, ⟨t1, t2, t3⟩⟩, h2⟩ := h
  refine ⟨a, c, ⟨hB, hQ, hP, hIS, hG, ⟨t1, fun r' hr' _ => ?_, t3⟩⟩, h2⟩
  by_cases e : r' = r
  · rw [e]; exact Or.inl hr
  · exact t2 r' hr' e
/-- an array under way: its spine at s, k of L leaves -/
def AR (r s L k : Nat) (ν : zM) : Prop := s < 4096 ∧ ν 26 r = nI s ∧ ν 22 s = 2 ∧ ν 24 s = nI L ∧ (L ≤ 16 ∧ k ≤ L) ∧ (∀ i, 1 ≤ i → i ≤ k → ν 20 (s + i) ≠ 0) ∧ (∀ i, k < i → i ≤ L → ν 20 (s + i) = 0)
theorem AR.oo {r s L k : Nat} (h : AR r s L k ν) : ob ν s ∧ ptn ν s = L := ⟨⟨h.1, Or.inr h.2.2.1⟩, by unfold ptn; rw [h.2.2.2.1]; exact nN_n (by have := h.2.2.2.2.1; omega)⟩
theorem AR.S {e A r s L k pg : Nat} {S T : Nat → Prop} (h : AR r s L k ν) (hr : r < 16) (hW : WW e A ν μ pg S T) : S s := by
  obtain ⟨a, c, hJ, -⟩ := hW
  rcases hJ.root hr with z | ⟨t, z1, z2, z3⟩
  · rw [h.2.1] at z; exact absurd z (nI_m1 (by have := h.1; omega))
  · have := z3.1
    have := h.1
    rw [h.2.1, nI_eq (by omega) (by omega)] at z1
    rw [z1]; exact z2
theorem AR.did {A r s L k t pg : Nat} {S T : Nat → Prop} (h : AR r s L k ν) (hr : r < 16) (hW : WW r A ν μ pg S T) (h1 : 1 ≤ t) (h9 : t ≤ 9) (hA : A ≤ 600000) : AR r s L k (g_did ν pg t) := by
  obtain ⟨ks, k26⟩ := w_keep hW h1 h9 hA
  obtain ⟨c1, c2, c3, c4, c5⟩ := ks s (h.S hr hW)
  obtain ⟨h1, h2, h3, h4, h5, h6, h7⟩ := id h
  obtain ⟨a, c, hJ, -⟩ := hW
  have hbs := (ob_ptn hJ.1 h.oo.1).2.2.2.2.2.2
  rw [h.oo.2] at hbs
  refine ⟨h1, by rw [k26]; exact h2, by rw [c1]; exact h3, by rw [c2]; exact h4, h5, fun i i1 i2 => ?_, fun i i1 i2 => ?_⟩
  · rw [c5 i (by omega)]; exact h6 i i1 i2
  · rw [c5 i (by omega)]; exact h7 i i1 i2
end MAKE
