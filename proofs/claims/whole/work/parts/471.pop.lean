/-! MARK: the top of the pile, or SWEEP begins -/
def g_mk (ν : zM) (n : Nat) : zM := if n = 0 then g_toSweep ν else g_pop ν (n - 1)
theorem g_end_id {ν : zM} {pg : Nat} (h : ν 19 13 ≠ 3) : g_end ν pg = ν := by unfold g_end; rw [if_neg (fun q => h q.1)]
theorem k_tail {ν μ : zM} {pg n : Nat} {K : zM → Prop} (h1 : I1 ν pg) (hR : RA ν μ pg) (h2 : ν 19 13 = 2) (hn : ν 19 12 = nI n) (hn2 : n ≤ 1024) (hb : 0 < n → ∃ b : Nat, ν 27 (n - 1) = nI b ∧ b < 4096) (k : ∀ μ' : zM, RA (g_end (g_mk ν n) pg) μ' pg → ((g_end (g_mk ν n) pg) 19 13 ≠ 0 → μ' 1 8 = μ 1 8) → K μ') :
    f_Pi_pop_12 μ (fun r3 μ2 => ∀ μ4 : zM, μ4 = zp μ2 1 10 r3 → ∀ μ5 : zM, μ5 = zp μ4 1 11 (0 : Int32) → ((¬ (μ5 1 10) = (-1 : Int32) → K μ5) ∧ ((μ5 1 10) = (-1 : Int32) → ∀ μ7 : zM, μ7 = zp μ5 1 7 (3 : Int32) → f_Co_endIfSwept μ7 (fun μ8 => K μ8)))) := by
  obtain ⟨hB, hP, hO, hS, hK, hN⟩ := id hR
  obtain ⟨s1, s2, s3, s4, s5, s6, s7, s8, s9, s10, s11, s12⟩ := id hS
  have e1 : μ 12 1 = nI n := by rw [hP.1, hn]
  unfold f_Pi_pop_12
  rw [e1]
  by_cases h0 : n = 0
  · subst h0
    refine br_t (by decide) ?_
    intro μ4 e4 μ5 e5
    subst e4 e5
    refine bn_f rfl ?_
    intro μ7 e7
    subst e7
    have eg : g_mk ν 0 = g_toSweep ν := rfl
    rw [eg] at k
    have hRz : RA (g_toSweep ν) (zp (zp (zp μ 1 10 (-1)) 1 11 0) 1 7 3) pg :=
      ⟨hB, hP, hO, ⟨s1, s2, s3, rfl, rfl, s6, s7, fun q => absurd q (show ¬ (3 : Int32) = 0 by decide), fun _ => s9 (by rw [h2]; decide), fun q => absurd rfl q, fun _ => s12 (by rw [h2]; decide), fun q => absurd rfl q⟩, hK, hN⟩
    refine k_end (ν := g_toSweep ν) (pl := 0) h1 hRz rfl rfl rfl (by omega) (fun μ' r1 r2 => k μ' r1 r2)
  · refine br_f (nI_nle (by omega) (by omega)) ?_
    refine br_t (nI_le hn2 (by decide)) ?_
    intro μ3 e3
    obtain ⟨b, hb1, hb2⟩ := hb (by omega)
    have en : nI n - 1 = nI (n - 1) := by rw [show nI n = nI ((n - 1) + 1) by congr 1; omega]; exact nI_pred (n - 1)
    rw [en] at e3
    subst e3
    have q1 : (zp μ 12 1 (nI (n - 1))) 12 1 = nI (n - 1) := rfl
    rw [q1, nI_clamp (by omega)]
    refine ⟨vp_in_nI (by omega) (by decide), ?_⟩
    have q2 : (zp μ 12 1 (nI (n - 1))) 13 (n - 1) = ν 27 (n - 1) := hP.2 (n - 1) (by rw [hn, nN_n (by omega)]; omega)
    rw [q2]
    intro μ4 e4 μ5 e5
    subst e4 e5
    refine bn_t (by show ¬ ν 27 (n - 1) = -1; rw [hb1]; exact nI_m1 (by omega)) ?_
    have eg : g_mk ν n = g_pop ν (n - 1) := by unfold g_mk; rw [if_neg h0]
    have ee : g_end (g_pop ν (n - 1)) pg = g_pop ν (n - 1) := g_end_id (by show ν 19 13 ≠ 3; rw [h2]; decide)
    rw [eg, ee] at k
    refine k _ ⟨hB, ⟨rfl, fun i hi => ?_⟩, hO, ⟨s1, s2, s3, s4, rfl, s6, s7, s8, s9, fun _ => rfl, s11, s12⟩, hK, hN⟩ (fun _ => rfl)
    have hi : i < nN (nI (n - 1)) := hi
    rw [nN_n (by omega)] at hi
    exact hP.2 i (by rw [hn, nN_n (by omega)]; omega)
theorem m_tail {ν : zM} {n : Nat} {K : zM → Prop} (hn : ν 19 12 = nI n) (hn2 : n ≤ 1024) (k : K (g_mk ν n)) :
    ((ν 19 12) ≤ 0 → (∀ μ3 : zM, μ3 = zp ν 19 13 (3 : Int32) → ∀ μ4 : zM, μ4 = zp μ3 19 17 (0 : Int32) → ∀ μ5 : zM, μ5 = zp μ4 19 15 (-1 : Int32) → K μ5)) ∧ (¬ (ν 19 12) ≤ 0 → (∀ μ6 : zM, μ6 = zp ν 19 12 ((ν 19 12) - (1 : Int32)) → (vp_in (μ6 19 12) 1100 ∧ (∀ μ8 : zM, μ8 = zp μ6 19 15 (μ6 27 (μ6 19 12).toNatClampNeg) → ∀ μ9 : zM, μ9 = zp μ8 19 16 (0 : Int32) → K μ9)))) := by
  unfold g_mk at k
  rw [hn]
  by_cases h0 : n = 0
  · subst h0
    rw [if_pos rfl] at k
    refine br_t (by decide) ?_
    intro μ3 e3 μ4 e4 μ5 e5
    subst e3 e4 e5
    exact k
  · rw [if_neg h0] at k
    refine br_f (nI_nle (by omega) (by omega)) ?_
    have en : nI n - 1 = nI (n - 1) := by rw [show nI n = nI ((n - 1) + 1) by congr 1; omega]; exact nI_pred (n - 1)
    rw [en]
    intro μ6 e6
    subst e6
    have q1 : (zp ν 19 12 (nI (n - 1))) 19 12 = nI (n - 1) := rfl
    rw [q1, nI_clamp (by omega)]
    refine ⟨vp_in_nI (by omega) (by decide), ?_⟩
    intro μ8 e8 μ9 e9
    subst e8 e9
    exact k
/-- the whole step of MARK -/
def g_mark (ν : zM) : zM := if ν 19 15 ≠ -1 ∧ nN (ν 19 16) < ptn ν (nN (ν 19 15)) then g_look ν (nN (ν 19 15)) (nN (ν 19 16)) else g_mk ν (nN (ν 19 12))
/-- what stands at hand -/
def hnd (ν : zM) : Prop := ν 19 15 = -1 ∨ ∃ a h : Nat, ν 19 15 = nI a ∧ ob ν a ∧ ν 19 16 = nI h ∧ h ≤ ptn ν a ∧ ∀ i, 1 ≤ i → i ≤ ptn ν a → okw ν a i
theorem look_part {ν : zM} {a h : Nat} : (g_look ν a h) 19 13 = ν 19 13 := by
  unfold g_look g_gr
  split
  · rfl
  · split
    · rfl
    · split <;> rfl
theorem k_mark {ν μ : zM} {pg n : Nat} {K : zM → Prop} (hI : IB ν pg) (hR : RA ν μ pg) (h2 : ν 19 13 = 2) (hh : hnd ν) (hn : ν 19 12 = nI n) (hn2 : PB ν n) (hb : 0 < n → ∃ b : Nat, ν 27 (n - 1) = nI b ∧ b < 4096) (k : ∀ μ' : zM, RA (g_end (g_mark ν) pg) μ' pg → ((g_end (g_mark ν) pg) 19 13 ≠ 0 → μ' 1 8 = μ 1 8) → K μ') : f_Co_markStep μ K := by
  have hn3 := hn2.1
  have hnn : nN (ν 19 12) = n := by rw [hn]; exact nN_n (by omega)
  have hS := hR.2.2.2.1
  rcases hh with hh | ⟨a, h, h15, ha, h16, hle, hw⟩
  · have eg : g_mark ν = g_mk ν n := by unfold g_mark; rw [if_neg (fun q => q.1 hh), hnn]
    rw [eg] at k
    unfold f_Co_markStep
    rw [show μ 1 10 = -1 by rw [hS.2.2.2.2.1, hh]]
    exact br_t rfl (k_tail hI.1 hR h2 hn hn3 hb k)
  · have ha1 := ha.1
    obtain ⟨p24, p31, p64, p4, p96, pa, -⟩ := ob_ptn hI ha
    have e1 : nN (ν 19 15) = a := by rw [h15]; exact nN_n (by omega)
    have e2 : nN (ν 19 16) = h := by rw [h16]; exact nN_n (by omega)
    by_cases hlt : h < ptn ν a
    · have eg : g_mark ν = g_look ν a h := by unfold g_mark; rw [e1, e2, if_pos ⟨by rw [h15]; exact nI_m1 (by omega), hlt⟩]
      rw [eg, g_end_id (by rw [look_part, h2]; decide)] at k
      exact k_look hI hR h2 h15 ha h16 hlt (hw (h + 1) (by omega) (by omega)) hn hn2 (fun μ' r1 r2 => k μ' r1 (fun _ => r2))
    · have eg : g_mark ν = g_mk ν n := by unfold g_mark; rw [e1, e2, if_neg (fun q => hlt q.2), hnn]
      rw [eg] at k
      have a4 : 4 * (a / 4) = a := by omega
      have e6 : μ 6 (a / 4) = nI (ptn ν a) := by rw [hR.1.2.2.2.2.2.1 _ (by omega) (by rw [a4]; exact ha.nz), a4]; exact p24
      unfold f_Co_markStep
      rw [show μ 1 10 = nI a by rw [hS.2.2.2.2.1, h15]]
      refine br_f (nI_m1 (by omega)) ?_
      refine k_ptrs hR.1.1 hI.1.2.1 pa ?_
      rw [e6, hS.2.2.2.2.2.2.2.2.2.1 (by rw [h15]; exact nI_m1 (by omega)), h16]
      exact br_t (nI_le (by omega) (by omega)) (k_tail hI.1 hR h2 hn hn3 hb k)
theorem m_mark {ν : zM} {pg n : Nat} {K : zM → Prop} (hI : IB ν pg) (hh : hnd ν) (hn : ν 19 12 = nI n) (hn2 : n ≤ 1024) (k : K (g_mark ν)) : f_Mo_markStep ν K := by
  have hnn : nN (ν 19 12) = n := by rw [hn]; exact nN_n (by omega)
  rcases hh with hh | ⟨a, h, h15, ha, h16, hle, hw⟩
  · have eg : g_mark ν = g_mk ν n := by unfold g_mark; rw [if_neg (fun q => q.1 hh), hnn]
    rw [eg] at k
    unfold f_Mo_markStep
    exact br_t hh (m_tail hn hn2 k)
  · have ha1 := ha.1
    obtain ⟨p24, p31, p64, p4, p96, pa, -⟩ := ob_ptn hI ha
    have e1 : nN (ν 19 15) = a := by rw [h15]; exact nN_n (by omega)
    have e2 : nN (ν 19 16) = h := by rw [h16]; exact nN_n (by omega)
    by_cases hlt : h < ptn ν a
    · have eg : g_mark ν = g_look ν a h := by unfold g_mark; rw [e1, e2, if_pos ⟨by rw [h15]; exact nI_m1 (by omega), hlt⟩]
      rw [eg] at k
      exact m_look hI h15 ha h16 hlt (hw (h + 1) (by omega) (by omega)) hn (by omega) k
    · have eg : g_mark ν = g_mk ν n := by unfold g_mark; rw [e1, e2, if_neg (fun q => hlt q.2), hnn]
      rw [eg] at k
      unfold f_Mo_markStep
      refine br_f (by rw [h15]; exact nI_m1 (by omega)) ⟨by rw [h15]; exact vp_in_nI ha1 (by decide), ?_⟩
      have e3 : (ν 19 15).toNatClampNeg = a := e1
      refine br_t (by rw [e3, p24, h16]; exact nI_le (by omega) (by omega)) (m_tail hn hn2 k)
