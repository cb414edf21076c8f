/-! MARK -/
theorem bs_le {c : Int32} : 4 ≤ bs c ∧ bs c ≤ 32 := by
  unfold bs
  split
  · omega
  · split
    · omega
    · split <;> omega
theorem blk_in {a : Nat} {c : Int32} (hc : isCl c) (h : a % bs c = 0) : a % 64 + bs c ≤ 64 := by
  rcases bs_v hc with ⟨-, w⟩ | ⟨-, w⟩ | ⟨-, w⟩ | ⟨-, w⟩ <;> rw [w] at h ⊢ <;> omega
theorem ob_ptn {ν : zM} {pg a : Nat} (hI : IB ν pg) (ha : ob ν a) : ν 24 a = nI (ptn ν a) ∧ ptn ν a ≤ 31 ∧ a + ptn ν a < 64 * pg ∧ a % 4 = 0 ∧ a + ptn ν a < 4096 ∧ a < 64 * pg ∧ ptn ν a + 1 ≤ bs (ν 21 (a / 64)) := by
  obtain ⟨h1, h2, h3, h4, h5, h6⟩ := hI
  obtain ⟨a4, a64, ac⟩ := I3.al h1 h2 h3 ha.1 ha.nz
  have hm : a % bs (ν 21 (a / 64)) = 0 := by
    rcases h3 a ha.1 with q | q
    · exact absurd q ha.nz
    · exact q.2.2
  have hb := blk_in ac hm
  have hl := bs_le (c := ν 21 (a / 64))
  have g2 := h1.2.1
  have key : ∀ m : Nat, ν 24 a = nI m → m + 1 ≤ bs (ν 21 (a / 64)) → ν 24 a = nI (ptn ν a) ∧ ptn ν a ≤ 31 ∧ a + ptn ν a < 64 * pg ∧ a % 4 = 0 ∧ a + ptn ν a < 4096 ∧ a < 64 * pg ∧ ptn ν a + 1 ≤ bs (ν 21 (a / 64)) := by
    intro m e hm2
    have e2 : ptn ν a = m := by unfold ptn; rw [e]; exact nN_n (by omega)
    rw [e2]
    exact ⟨e, by omega, by omega, a4, by omega, a64, hm2⟩
  rcases ha.2 with e | e
  · obtain ⟨m, n, q1, q2, q3, q4⟩ := (h6 a ha.1).1 e
    exact key m q1 (by omega)
  · obtain ⟨m, n, q1, q2, q3, q4, q5, q6⟩ := (h6 a ha.1).2.1 e
    exact key m q1 q6
theorem nI_pm {t : Nat} : nI (t + 1) - 1 = nI t := nI_pred t
theorem nI_nz {t : Nat} (h : t + 1 < 2147483648) : nI (t + 1) ≠ 0 := nI_ne0 (by omega) h
/-- what a pointer of what is at hand is -/
def okw (ν : zM) (a i : Nat) : Prop := ν 20 (a + i) = 0 ∨ ∃ t : Nat, ν 20 (a + i) = nI (t + 1) ∧ t < 4096 ∧ (ν 22 a = 1 → ob ν t) ∧ (ν 22 a = 2 → ν 22 t = 3)
theorem k_look {ν μ : zM} {pg n a h : Nat} {K : zM → Prop} (hI : IB ν pg) (hR : RA ν μ pg) (h2 : ν 19 13 = 2) (h15 : ν 19 15 = nI a) (ha : ob ν a) (h16 : ν 19 16 = nI h) (hh : h < ptn ν a) (hw : okw ν a (h + 1)) (hn : ν 19 12 = nI n) (hn2 : PB ν n) (k : ∀ μ' : zM, RA (g_look ν a h) μ' pg → μ' 1 8 = μ 1 8 → K μ') : f_Co_markStep μ K := by
  obtain ⟨p24, p31, p64, p4, p96, pa, -⟩ := ob_ptn hI ha
  obtain ⟨hB, hP, hO, hS, hK, hN⟩ := id hR
  obtain ⟨s1, s2, s3, s4, s5, s6, s7, s8, s9, s10, s11, s12⟩ := id hS
  obtain ⟨b1, b2, b3, b4, b5, b6, b7, b8, b9, b10, b11⟩ := id hB
  obtain ⟨g1, g2, g3⟩ := hI.1
  have a4 : 4 * (a / 4) = a := by omega
  have e10 : μ 1 10 = nI a := by rw [s5, h15]
  have e11 : μ 1 11 = nI h := by rw [s10 (by rw [h15]; exact nI_m1 (by omega)), h16]
  have e6 : μ 6 (a / 4) = nI (ptn ν a) := by rw [b6 _ (by omega) (by rw [a4]; exact ha.nz), a4]; exact p24
  unfold f_Co_markStep
  rw [e10, e11]
  refine br_f (nI_m1 (by omega)) ?_
  refine k_ptrs b1 g2 pa ?_
  rw [e6]
  refine br_f (nI_ge hh (by omega)) ?_
  intro μ19 e19
  rw [e11, show (1 : Int32) = nI 1 from rfl, nI_add] at e19
  subst e19
  have q1 : (zp μ 1 11 (nI (h + 1))) 1 10 = nI a := e10
  have q2 : (zp μ 1 11 (nI (h + 1))) 1 11 = nI (h + 1) := rfl
  rw [q1, q2, nI_add]
  refine k_ptrAt (μ := zp μ 1 11 (nI (h + 1))) b1 g2 (by omega) ?_
  have q3 : (zp μ 1 11 (nI (h + 1))) 3 (a + (h + 1)) = ν 20 (a + (h + 1)) := b3 _ (by omega)
  rw [q3]
  have hIz : IB (zp ν 19 16 (nI (h + 1))) pg := hI
  have hRz : RA (zp ν 19 16 (nI (h + 1))) (zp μ 1 11 (nI (h + 1))) pg := ⟨hB, hP, hO, ⟨s1, s2, s3, s4, s5, s6, s7, s8, s9, fun _ => rfl, s11, s12⟩, hK, hN⟩
  unfold g_look at k
  rcases hw with hw | ⟨t, hw, ht, hw1, hw2⟩
  · rw [if_pos hw] at k
    rw [hw]
    unfold f_Co_grey
    exact br_t (by decide) (k _ hRz rfl)
  · rw [if_neg (by rw [hw]; exact nI_nz (by omega)), hw, nI_pm, nN_n (by omega)] at k
    rw [hw, nI_pm]
    rcases ha.2 with e | e
    · rw [if_neg (by rw [e]; decide)] at k
      exact k_gr (ν := zp ν 19 16 (nI (h + 1))) hIz hRz (hw1 e) hn hn2 (fun μ' r1 r2 => k μ' r1 r2)
    · rw [if_pos e] at k
      have kt := hw2 e
      have tz : ν 22 t ≠ 0 := by rw [kt]; decide
      obtain ⟨t4, t64, tc⟩ := I3.al hI.1 hI.2.1 hI.2.2.1 ht tz
      have t44 : 4 * (t / 4) = t := by omega
      unfold f_Co_grey
      refine br_f (nI_m1 (by omega)) ?_
      obtain ⟨⟨c1, c2, c3, c4, c5, c6, c7, c8, c9, c10, c11⟩, hP', hO', hS', hK', hN'⟩ := hRz
      refine k_marked (μ := zp μ 1 11 (nI (h + 1))) b1 g2 t64 (fun e5 => ?_) (fun e5 => ?_)
      · refine br_t rfl ?_
        refine k_setMark (μ := zp μ 1 11 (nI (h + 1))) (Or.inr rfl) b1 g2 t64 ?_
        refine k_kind (μ := zp (zp μ 1 11 (nI (h + 1))) 5 (t / 4) 1) b1 g2 t64 ?_
        have q4 : (zp (zp μ 1 11 (nI (h + 1))) 5 (t / 4) 1) 4 (t / 4) = 3 := by
          show μ 4 (t / 4) = 3
          rw [b4 _ (by omega), t44]; exact kt
        rw [q4]
        refine br_t rfl ?_
        exact k _ ⟨⟨c1, c2, c3, c4, r_mark b5 t4, c6, c7, c8, c9, c10, c11⟩, hP', hO', hS', hK', hN'⟩ rfl
      · refine br_f (by decide) ?_
        refine k _ ⟨⟨c1, c2, c3, c4, ?_, c6, c7, c8, c9, c10, c11⟩, hP', hO', hS', hK', hN'⟩ rfl
        have e5 : μ 5 (t / 4) ≠ 0 := e5
        rw [b5 _ (by omega), t44] at e5
        intro s hs
        show μ 5 s = upd (ν 23) t 1 (4 * s)
        by_cases es : 4 * s = t
        · rw [es, up_s, b5 s hs, es]
          rcases hI.2.2.2.1 t ht with q | q
          · exact absurd q e5
          · exact q.1
        · rw [up_n es]; exact b5 s hs
theorem m_look {ν : zM} {pg n a h : Nat} {K : zM → Prop} (hI : IB ν pg) (h15 : ν 19 15 = nI a) (ha : ob ν a) (h16 : ν 19 16 = nI h) (hh : h < ptn ν a) (hw : okw ν a (h + 1)) (hn : ν 19 12 = nI n) (hn2 : n < 1100) (k : K (g_look ν a h)) : f_Mo_markStep ν K := by
  obtain ⟨p24, p31, p64, p4, p96, pa, -⟩ := ob_ptn hI ha
  have ha1 := ha.1
  have hc : (nI a).toNatClampNeg = a := nI_clamp (by omega)
  unfold f_Mo_markStep
  rw [h15, h16, hc]
  refine br_f (nI_m1 (by omega)) ⟨vp_in_nI ha1 (by decide), ?_⟩
  rw [p24]
  refine br_f (nI_ge hh (by omega)) ?_
  intro μ20 e20
  rw [show (1 : Int32) = nI 1 from rfl, nI_add] at e20
  subst e20
  have q1 : (zp ν 19 16 (nI (h + 1))) 19 15 = nI a := h15
  have q2 : (zp ν 19 16 (nI (h + 1))) 19 16 = nI (h + 1) := rfl
  rw [q1, q2, nI_add, nI_clamp (by omega), hc]
  refine ⟨vp_in_nI (by omega) (by decide), ?_⟩
  intro x22 e22
  have q3 : (zp ν 19 16 (nI (h + 1))) 20 (a + (h + 1)) = ν 20 (a + (h + 1)) := rfl
  have q4 : (zp ν 19 16 (nI (h + 1))) 22 a = ν 22 a := rfl
  rw [q3] at e22
  rw [q4]
  unfold g_look at k
  rcases hw with hw | ⟨t, hw, ht, hw1, hw2⟩
  · rw [if_pos hw] at k
    rw [hw] at e22
    subst e22
    refine br_t (by decide) ?_
    unfold f_Mo_grey
    exact br_t (by decide) k
  · rw [if_neg (by rw [hw]; exact nI_nz (by omega)), hw, nI_pm, nN_n (by omega)] at k
    rw [hw, nI_pm] at e22
    subst e22
    refine br_f (nI_pos (by omega)) ⟨vp_in_nI ha1 (by decide), ?_⟩
    rcases ha.2 with e | e
    · rw [if_neg (by rw [e]; decide)] at k
      refine bn_t (by rw [e]; decide) ?_
      exact m_gr ht hn hn2 k
    · rw [if_pos e] at k
      refine bn_f e ⟨vp_in_nI ht (by decide), ?_⟩
      rw [nz1, nI_clamp (by omega)]
      exact nm_e k
