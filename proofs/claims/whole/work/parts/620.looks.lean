/-! idle, start, and what only looks -/
def MM (e A : Nat) (ν : zM) (pg : Nat) (S T : Nat → Prop) : Prop := ∃ a c : Nat, JJ ν pg S T e ∧ IK ν a c ∧ CB ν ∧ a ≤ A ∧ c ≤ 200 * a
theorem WW.M {e A : Nat} {ν μ : zM} {pg : Nat} {S T : Nat → Prop} (h : WW e A ν μ pg S T) : MM e A ν pg S T := by
  obtain ⟨a, c, h1, h2, h3, h4, h5, h6, h7⟩ := h
  exact ⟨a, c, h1, h4, h5, h6, h7.1⟩
theorem MM.did {e A t : Nat} {ν : zM} {pg : Nat} {S T : Nat → Prop} (h : MM e A ν pg S T) (h1 : 1 ≤ t) (h9 : t ≤ 9) (hA : A ≤ 600000) : ∃ S' T' : Nat → Prop, MM e (A + t) (g_did ν pg t) pg S' T' := by
  obtain ⟨a, c, hJ, hK, hC, ha, hc⟩ := h
  obtain ⟨S', T', c', w1, w2, w3, w4, -⟩ := J_did hJ hK hC h1 h9 (by omega)
  exact ⟨S', T', a + t, c', w2, w3, w4, by omega, by omega⟩
theorem MM.m {e A t : Nat} {ν : zM} {pg : Nat} {S T : Nat → Prop} {K : zM → Prop} (h : MM e A ν pg S T) (h1 : 1 ≤ t) (h9 : t ≤ 9) (hA : A ≤ 600000) (k : K (g_did ν pg t)) : f_Mo_did ν (nI t) K := by
  obtain ⟨a, c, hJ, hK, hC, ha, hc⟩ := h
  exact m_did hJ hK hC h1 h9 (by omega) k
def g_idle (ν : zM) (pg : Nat) : Nat → zM
  | 0 => ν
  | j + 1 => g_did (g_idle ν pg j) pg 1
section IDLE
variable {A pg t : Nat} {ν : zM}
theorem k_idleL {G : Int32 → zM → Prop} (hA : A + t ≤ 600000) (g : ∀ μ' : zM, (∃ S' T' : Nat → Prop, WW 16 (A + t) (g_idle ν pg t) μ' pg S' T') → G 1 μ') : ∀ (m j : Nat) (μ : zM) (S T : Nat → Prop), j + m = t → WW 16 (A + j) (g_idle ν pg j) μ pg S T → F_Bh_idle_15 G (m + 1) (nI t) (nI j) μ
  | 0, j, μ, S, T, h, hW => by
    have : j = t := by omega
    subst this
    exact br_t (nI_le (Nat.le_refl _) (by omega)) (g μ ⟨S, T, hW⟩)
  | m + 1, j, μ, S, T, h, hW => by
    refine br_f (nI_ge (by omega) (by omega)) ?_
    refine w_didk (t := 1) hW (by omega) (by omega) (by omega) (fun μ' ⟨S', T', hW'⟩ => ?_)
    intro x6 e6
    rw [nI_1] at e6
    subst e6
    exact k_idleL hA g m (j + 1) μ' S' T' (by omega) hW'
theorem m_idleL {K : Int32 → zM → Prop} (hA : A + t ≤ 600000) (k : K 1 (g_idle ν pg t)) : ∀ (m j : Nat) (S T : Nat → Prop), j + m = t → MM 16 (A + j) (g_idle ν pg j) pg S T → F_Mo_idle_16 K (m + 1) (nI t) (nI j) (g_idle ν pg j)
  | 0, j, S, T, h, hW => by
    have : j = t := by omega
    subst this
    exact br_t (nI_le (Nat.le_refl _) (by omega)) k
  | m + 1, j, S, T, h, hW => by
    refine br_f (nI_ge (by omega) (by omega)) ?_
    obtain ⟨S', T', hW'⟩ := hW.did (t := 1) (by omega) (by omega) (by omega)
    refine hW.m (t := 1) (by omega) (by omega) (by omega) ?_
    intro x6 e6
    rw [nI_1] at e6
    subst e6
    exact m_idleL hA k m (j + 1) S' T' (by omega) hW'
end IDLE
theorem k_within {μ : zM} {x : Int32} {lo hi : Int} {a b : Int32} {K : Int32 → zM → Prop} (ea : a.toInt = lo) (eb : b.toInt = hi) (k1 : lo ≤ x.toInt → x.toInt ≤ hi → K 1 μ) (k0 : (x.toInt < lo ∨ hi < x.toInt) → K 0 μ) : f_Bh_within μ x a b K := by
  unfold f_Bh_within
  refine bl (fun h => k0 (Or.inl (by rw [ea] at h; exact h))) (fun h => bl (fun h2 => k0 (Or.inr (by rw [eb] at h2; exact h2))) (fun h2 => ?_))
  rw [ea] at h
  rw [eb] at h2
  exact k1 h h2
def g_fail (ν : zM) : zM := if ν 19 13 = 0 then g_begin ν else ν
theorem w_begin {e A pg : Nat} {ν μ : zM} {S T : Nat → Prop} {G : Int32 → zM → Prop} (hW : WW e A ν μ pg S T) (h0 : ν 19 13 = 0) (g : ∀ μ' : zM, (∃ S' T' : Nat → Prop, WW e A (g_begin ν) μ' pg S' T') → G 1 μ') : f_Co_beginCycle μ G := by
  obtain ⟨a, c, hJ, hR, hZ, hK, hC, ha, hc⟩ := hW
  refine k_begin hJ hR h0 (fun μ' r1 r2 => g μ' ?_)
  obtain ⟨S', T', hJ'⟩ := J_begin hJ h0
  obtain ⟨q, cq, tr, q1, q2, q3, -⟩ := hJ.2.1
  refine ⟨S', T', a, c, hJ', r1, fun _ => r2, hK, fun _ => ?_, ha, hc⟩
  show 1 ≤ (ν 19 1).toInt ∧ (ν 19 1).toInt ≤ 200
  rw [q1, ti_n (by omega)]
  omega
theorem w_failk {e A pg : Nat} {ν μ : zM} {S T : Nat → Prop} {G : Int32 → zM → Prop} (hW : WW e A ν μ pg S T) (g : ∀ (r : Int32) (μ' : zM), (∃ S' T' : Nat → Prop, WW e A (g_fail ν) μ' pg S' T') → G r μ') : f_Co_beginCycle μ G := by
  unfold g_fail at g
  by_cases h0 : ν 19 13 = 0
  · rw [if_pos h0] at g
    exact w_begin hW h0 (fun μ' q => g 1 μ' q)
  · rw [if_neg h0] at g
    obtain ⟨a, c, hJ, hR, -⟩ := id hW
    unfold f_Co_beginCycle
    refine br_f (by rw [hR.2.2.2.1.2.2.2.1]; exact h0) (g 0 μ ⟨S, T, hW⟩)
theorem m_fail {ν : zM} {K : Int32 → zM → Prop} (k : K 0 (g_fail ν)) : f_Mo_failed ν K := by
  unfold g_fail at k
  unfold f_Mo_failed
  refine ⟨fun h => ?_, fun h => ?_⟩
  · rw [if_neg h] at k; exact k
  · rw [if_pos h] at k; exact m_begin k
theorem look_PP {k : Nat} {ν μ : zM} {fB fM : (Int32 → zM → Prop) → Prop} (h : ZZ k ν μ) (q : ∃ r : Int32, (∀ G : Int32 → zM → Prop, G r μ → fB G) ∧ (∀ K : Int32 → zM → Prop, K r ν → fM K)) : PP k fB fM := by
  obtain ⟨r, q1, q2⟩ := q
  exact fun G kk => q1 G (kk r μ (fun Km km => q2 Km (km ν h.up)))
section LOOKS
variable {k : Nat} {ν μ : zM}
theorem p_idle (h : ZZ k ν μ) (hk : k < 512) (a1 : Int32) : PP k (f_Bh_idle μ a1) (f_Mo_idle ν a1) := by
  intro G kk
  obtain ⟨pg, S, T, hW⟩ := ZZ_W.mp h
  have e1 : (1 : Int32).toInt = 1 := by decide
  have e2 : (1000 : Int32).toInt = 1000 := by decide
  refine k_within e1 e2 (fun h1 h2 => bn_t (by decide) ?_) (fun hno => bn_f rfl (kk 0 μ (fun Km km => ?_)))
  · obtain ⟨t, ht, et⟩ : ∃ t : Nat, (1 ≤ t ∧ t ≤ 1000) ∧ a1 = nI t := ⟨a1.toInt.toNat, by omega, ti_of (by omega)⟩
    subst et
    refine ⟨t + 1, k_idleL (A := 1000 * k) (ν := ν) (pg := pg) (by omega) (fun μ' q => kk 1 μ' (fun Km km => ?_)) t 0 μ S T (by omega) hW⟩
    obtain ⟨S', T', hW'⟩ := q
    unfold f_Mo_idle
    refine br_f (by rw [ti_lt, e1]; omega) (br_t (by rw [ti_le, e2]; omega) ?_)
    exact ⟨t + 1, m_idleL (A := 1000 * k) (by omega) (km _ (hW'.Z (by omega))) t 0 S T (by omega) hW.M⟩
  · unfold f_Mo_idle
    refine bl (fun _ => km ν h.up) (fun z => bg (fun z2 => ?_) (fun _ => km ν h.up))
    rw [e1] at z
    rw [e2] at z2
    omega
theorem p_start (h : ZZ k ν μ) : PP k (f_Bh_start μ) (f_Mo_start ν) := by
  intro G kk
  obtain ⟨pg, S, T, hW⟩ := ZZ_W.mp h
  obtain ⟨a, c, hJ, hR, -⟩ := id hW
  unfold f_Bh_start
  by_cases h0 : ν 19 13 = 0
  · refine w_begin hW h0 (fun μ' ⟨S', T', hW'⟩ => ⟨Or.inr rfl, kk 1 μ' (fun Km km => ?_)⟩)
    unfold f_Mo_start
    exact br_t h0 (m_begin (km _ (hW'.Z (by omega))))
  · unfold f_Co_beginCycle
    refine br_f (by rw [hR.2.2.2.1.2.2.2.1]; exact h0) ⟨Or.inl rfl, kk 0 μ (fun Km km => ?_)⟩
    unfold f_Mo_start
    exact br_f h0 (km ν h.up)
theorem p_word (h : ZZ k ν μ) (a1 : Int32) : PP k (f_Bh_word μ a1) (f_Mo_word ν a1) := by
  refine look_PP h ?_
  obtain ⟨pg, S, T, a, c, hJ, hR, -⟩ := id h
  have g2 := hJ.1.1.2.1
  have g3 := hJ.1.1.2.2
  have e : ((64 : Int32) * ν 19 0).toInt = ((64 * pg : Nat) : Int) := by rw [g3, nI_64m, ti_n (by omega)]
  by_cases hx : 0 ≤ a1.toInt ∧ a1.toInt < ((64 * pg : Nat) : Int)
  · obtain ⟨n, hn, en⟩ : ∃ n : Nat, n < 64 * pg ∧ a1 = nI n := ⟨a1.toInt.toNat, by omega, ti_of (by omega)⟩
    subst en
    refine ⟨ν 20 n, fun G g => ?_, fun G g => ?_⟩
    · unfold f_Bh_word
      refine k_ins hR.1.1 g2 hn (br_f (by decide) (k_word hR.1.1 g2 hn ?_))
      rw [hR.1.2.2.1 n (by omega)]; exact g
    · unfold f_Mo_word
      refine br_f (nI_pos (by omega)) (br_f (by rw [ti_le, e]; omega) ⟨vp_in_nI (by omega) (by decide), ?_⟩)
      rw [nI_clamp (by omega)]; exact g
  · refine ⟨-1, fun G g => ?_, fun G g => ?_⟩
    · unfold f_Bh_word
      refine k_insA hR.1.1 g2 (fun n hn en => ?_) (fun _ => br_t rfl g)
      rw [en, ti_n (by omega)] at hx
      omega
    · unfold f_Mo_word
      refine bl (fun _ => g) (fun z => bg (fun _ => g) (fun z2 => ?_))
      rw [ti_0] at z
      rw [e] at z2
      omega
theorem p_root (h : ZZ k ν μ) (a1 a2 : Int32) : PP k (f_Bh_root μ a1 a2) (f_Mo_root ν a1 a2) := by
  refine look_PP h ?_
  obtain ⟨pg, S, T, a, c, hJ, hR, -⟩ := id h
  have hB := hJ.1
  have g2 := hB.1.2.1
  have b1 := hR.1.1
  by_cases hx : 0 ≤ a1.toInt ∧ a1.toInt < 16
  · obtain ⟨r, hr, er⟩ : ∃ r : Nat, r < 16 ∧ a1 = nI r := ⟨a1.toInt.toNat, by omega, ti_of (by omega)⟩
    subst er
    have kr : ∀ K : Int32 → zM → Prop, K (ν 26 r) μ → f_Bh_rootOrNone μ (nI r) K := fun K k => k_rootN (fun r' hr' e => by
      rw [nI_eq (by omega) (by omega)] at e
      rw [← e, hR.2.2.1 r hr]; exact k) (fun h => by rw [ti_n (by omega)] at h hx; omega)
    have mr : ∀ (P : Int32 → zM → Prop) (Q : Prop), P 1 ν → f_Mo_isRoot ν (nI r) P := fun P Q p => m_isRootA (fun _ _ _ => p) (fun h => by rw [ti_n (by omega)] at h hx; omega)
    rcases hJ.root hr with hn | ⟨t, ht, hSt, hot⟩
    · refine ⟨-1, fun G g => ?_, fun G g => ?_⟩
      · unfold f_Bh_root
        refine kr _ (bn_f hn g)
      · unfold f_Mo_root
        refine mr _ True (br_f (by decide) ⟨vp_in_nI hr (by decide), ?_⟩)
        rw [nI_clamp (by omega)]
        exact fun x17 e17 => bn_f (by rw [e17, hn]) g
    · have t1 := hot.1
      obtain ⟨p24, p31, p64, p4, p96, pa, pbs⟩ := ob_ptn hB hot
      have a44 : 4 * (t / 4) = t := by omega
      have hca : (nI t).toNatClampNeg = t := nI_clamp (by omega)
      have e7 : μ 7 (t / 4) = ν 25 t := by rw [hR.1.2.2.2.2.2.2.1 _ (by omega) (by rw [a44]; exact hot.2), a44]
      have e6 : μ 6 (t / 4) = ν 24 t := by rw [hR.1.2.2.2.2.2.1 _ (by omega) (by rw [a44]; exact hot.nz), a44]
      have e5 : μ 5 (t / 4) = ν 23 t := by rw [hR.1.2.2.2.2.1 _ (by omega), a44]
      have e4 : μ 4 (t / 4) = ν 22 t := by rw [hR.1.2.2.2.1 _ (by omega), a44]
      have key : ∀ R : Int32, ((a2.toInt = 0 → R = nI t) ∧ (a2.toInt = 1 → R = ν 24 t) ∧ (a2.toInt = 2 → R = ν 25 t) ∧ (a2.toInt = 3 → (ν 23 t = 0 → R = 0) ∧ (ν 23 t ≠ 0 → R = 1)) ∧ (a2.toInt = 4 → (ν 22 t ≠ 2 → R = 0) ∧ (ν 22 t = 2 → R = 1)) ∧ (¬ a2.toInt = 0 → ¬ a2.toInt = 1 → ¬ a2.toInt = 2 → ¬ a2.toInt = 3 → ¬ a2.toInt = 4 → R = -1)) → ∃ r_1 : Int32, (∀ G : Int32 → zM → Prop, G r_1 μ → f_Bh_root μ (nI r) a2 G) ∧ (∀ K : Int32 → zM → Prop, K r_1 ν → f_Mo_root ν (nI r) a2 K) := by
        intro R hRR
        obtain ⟨q0, q1, q2, q3, q4, q5⟩ := hRR
        refine ⟨R, fun G g => ?_, fun G g => ?_⟩
        · unfold f_Bh_root
          refine kr _ (bn_t (by rw [ht]; exact nI_m1 (by omega)) ?_)
          rw [ht]
          refine ⟨fun z => ?_, fun z => ?_, fun z => ?_, fun z => ?_, fun z => ?_, fun z0 z1 z2 z3 z4 => ?_⟩
          · rw [← q0 z]; exact g
          · refine k_ptrs b1 g2 pa ?_
            rw [e6, ← q1 z]; exact g
          · refine k_nums b1 g2 pa ?_
            rw [e7, ← q2 z]; exact g
          · refine k_marked b1 g2 pa (fun w => br_t rfl ?_) (fun w => br_f (by decide) ?_)
            · rw [← (q3 z).1 (by rw [← e5]; exact w)]; exact g
            · rw [← (q3 z).2 (by rw [← e5]; exact w)]; exact g
          · refine k_kind b1 g2 pa ⟨fun w => ?_, fun w => ?_⟩
            · rw [← (q4 z).1 (by rw [← e4]; exact w)]; exact g
            · rw [← (q4 z).2 (by rw [← e4]; exact w)]; exact g
          · rw [← q5 z0 z1 z2 z3 z4]; exact g
        · unfold f_Mo_root
          refine mr _ True (br_f (by decide) ⟨vp_in_nI hr (by decide), ?_⟩)
          rw [nI_clamp (by omega)]
          intro x17 e17
          rw [ht] at e17
          subst e17
          refine bn_t (nI_m1 (by omega)) ?_
          rw [hca]
          have hv : vp_in (nI t) 4096 := vp_in_nI t1 (by decide)
          refine ⟨fun z => ?_, fun z => ⟨hv, ?_⟩, fun z => ⟨hv, ?_⟩, fun z => ⟨hv, fun w => ?_, fun w => ?_⟩, fun z => ⟨hv, fun w => ?_, fun w => ?_⟩, fun z0 z1 z2 z3 z4 => ?_⟩
          · rw [← q0 z]; exact g
          · rw [← q1 z]; exact g
          · rw [← q2 z]; exact g
          · rw [← (q3 z).1 w]; exact g
          · rw [← (q3 z).2 w]; exact g
          · rw [← (q4 z).1 w]; exact g
          · rw [← (q4 z).2 w]; exact g
          · rw [← q5 z0 z1 z2 z3 z4]; exact g
      by_cases c0 : a2.toInt = 0
      · exact key (nI t) ⟨fun _ => rfl, fun _ => by omega, fun _ => by omega, fun _ => by omega, fun _ => by omega, fun _ _ _ _ _ => by omega⟩
      by_cases c1 : a2.toInt = 1
      · exact key (ν 24 t) ⟨fun _ => by omega, fun _ => rfl, fun _ => by omega, fun _ => by omega, fun _ => by omega, fun _ _ _ _ _ => by omega⟩
      by_cases c2 : a2.toInt = 2
      · exact key (ν 25 t) ⟨fun _ => by omega, fun _ => by omega, fun _ => rfl, fun _ => by omega, fun _ => by omega, fun _ _ _ _ _ => by omega⟩
      by_cases c3 : a2.toInt = 3
      · by_cases m : ν 23 t = 0
        · exact key 0 ⟨fun _ => by omega, fun _ => by omega, fun _ => by omega, fun _ => ⟨fun _ => rfl, fun w => absurd m w⟩, fun _ => by omega, fun _ _ _ _ _ => by omega⟩
        · exact key 1 ⟨fun _ => by omega, fun _ => by omega, fun _ => by omega, fun _ => ⟨fun w => absurd w m, fun _ => rfl⟩, fun _ => by omega, fun _ _ _ _ _ => by omega⟩
      by_cases c4 : a2.toInt = 4
      · by_cases m : ν 22 t = 2
        · exact key 1 ⟨fun _ => by omega, fun _ => by omega, fun _ => by omega, fun _ => by omega, fun _ => ⟨fun w => absurd m w, fun _ => rfl⟩, fun _ _ _ _ _ => by omega⟩
        · exact key 0 ⟨fun _ => by omega, fun _ => by omega, fun _ => by omega, fun _ => by omega, fun _ => ⟨fun _ => rfl, fun w => absurd w m⟩, fun _ _ _ _ _ => by omega⟩
      exact key (-1) ⟨fun _ => by omega, fun _ => by omega, fun _ => by omega, fun _ => by omega, fun _ => by omega, fun _ _ _ _ _ => rfl⟩
  · refine ⟨-1, fun G g => ?_, fun G g => ?_⟩
    · unfold f_Bh_root
      exact k_rootN (fun r hr e => absurd (by rw [e, ti_n (by omega)]; omega) hx) (fun _ => bn_f rfl g)
    · unfold f_Mo_root
      exact m_isRootA (fun r hr e => absurd (by rw [e, ti_n (by omega)]; omega) hx) (fun _ => br_t rfl (bn_f rfl g))
end LOOKS
