/-! a doing of the program: its ticks, and what follows from them -/
def KP (ν ν' : zM) : Prop := ν' 19 0 = ν 19 0 ∧ ν' 19 1 = ν 19 1 ∧ ν' 19 2 = ν 19 2 ∧ ν' 19 3 = ν 19 3 ∧ ν' 19 18 = ν 19 18 ∧ ν' 19 22 = ν 19 22 ∧ ν' 19 23 = ν 19 23 ∧ ν' 26 = ν 26
theorem KP.rf {ν : zM} : KP ν ν := ⟨rfl, rfl, rfl, rfl, rfl, rfl, rfl, rfl⟩
theorem KP.tr {a b c : zM} (h : KP a b) (k : KP b c) : KP a c := ⟨k.1.trans h.1, k.2.1.trans h.2.1, k.2.2.1.trans h.2.2.1, k.2.2.2.1.trans h.2.2.2.1, k.2.2.2.2.1.trans h.2.2.2.2.1, k.2.2.2.2.2.1.trans h.2.2.2.2.2.1, k.2.2.2.2.2.2.1.trans h.2.2.2.2.2.2.1, k.2.2.2.2.2.2.2.trans h.2.2.2.2.2.2.2⟩
theorem KP_gr {ν : zM} {t : Nat} : KP ν (g_gr ν t) := by
  unfold g_gr
  split <;> exact ⟨rfl, rfl, rfl, rfl, rfl, rfl, rfl, rfl⟩
theorem KP_grey {ν : zM} {x : Int32} : KP ν (g_grey ν x) := by
  unfold g_grey
  split
  · exact KP.rf
  · exact KP_gr
theorem KP_end {ν : zM} {pg : Nat} : KP ν (g_end ν pg) := by
  unfold g_end
  split <;> exact ⟨rfl, rfl, rfl, rfl, rfl, rfl, rfl, rfl⟩
theorem KP_roots {ν : zM} {r : Nat} : KP ν (g_roots ν r) := by
  have h := KP_grey (ν := ν) (x := ν 26 r)
  unfold g_roots
  split
  · exact h.tr ⟨rfl, rfl, rfl, rfl, rfl, rfl, rfl, rfl⟩
  · exact h.tr ⟨rfl, rfl, rfl, rfl, rfl, rfl, rfl, rfl⟩
theorem KP_look {ν : zM} {a h : Nat} : KP ν (g_look ν a h) := by
  unfold g_look
  split
  · exact ⟨rfl, rfl, rfl, rfl, rfl, rfl, rfl, rfl⟩
  · split
    · exact ⟨rfl, rfl, rfl, rfl, rfl, rfl, rfl, rfl⟩
    · exact KP.tr (b := zp ν 19 16 (nI (h + 1))) ⟨rfl, rfl, rfl, rfl, rfl, rfl, rfl, rfl⟩ KP_gr
theorem KP_mark {ν : zM} : KP ν (g_mark ν) := by
  unfold g_mark
  split
  · exact KP_look
  · unfold g_mk
    split <;> exact ⟨rfl, rfl, rfl, rfl, rfl, rfl, rfl, rfl⟩
theorem KP_sw1 {ν : zM} {b sz : Nat} : KP ν (g_sw1 ν b sz) := by
  unfold g_sw1
  split
  · exact ⟨rfl, rfl, rfl, rfl, rfl, rfl, rfl, rfl⟩
  · split <;> exact ⟨rfl, rfl, rfl, rfl, rfl, rfl, rfl, rfl⟩
theorem KP_sweep {ν : zM} {b sz : Nat} : KP ν (g_sweep ν b sz) := by
  have h := KP_sw1 (ν := ν) (b := b) (sz := sz)
  unfold g_sweep g_sw3
  split
  · exact h.tr ⟨rfl, rfl, rfl, rfl, rfl, rfl, rfl, rfl⟩
  · exact h.tr ⟨rfl, rfl, rfl, rfl, rfl, rfl, rfl, rfl⟩
/-- a step takes one tick, and keeps what is the program's -/
theorem KP_step {ν : zM} {pg : Nat} : KP (g_tick ν 0) (g_step ν pg) := by
  unfold g_step
  split
  · exact KP_roots
  · split
    · exact KP_mark.tr KP_end
    · exact KP_sweep.tr KP_end
def g_steps (ν : zM) (pg : Nat) : Nat → zM
  | 0 => ν
  | k + 1 => if (g_steps ν pg k) 19 13 = 0 then g_steps ν pg k else g_step (g_steps ν pg k) pg
theorem steps_stay {ν : zM} {pg j : Nat} (h : (g_steps ν pg j) 19 13 = 0) : ∀ m, g_steps ν pg (j + m) = g_steps ν pg j
  | 0 => rfl
  | m + 1 => by
    show (if (g_steps ν pg (j + m)) 19 13 = 0 then g_steps ν pg (j + m) else g_step (g_steps ν pg (j + m)) pg) = _
    rw [steps_stay h m, if_pos h]
def K4 (ν ν' : zM) : Prop := ν' 19 0 = ν 19 0 ∧ ν' 19 1 = ν 19 1 ∧ ν' 19 2 = ν 19 2 ∧ ν' 19 3 = ν 19 3 ∧ ν' 26 = ν 26
theorem steps_inv {ν : zM} {pg e a c : Nat} {S T : Nat → Prop} (hJ : JJ ν pg S T e) (hK : IK ν a c) : ∀ j, a + c + j < 1000000000 → JJ (g_steps ν pg j) pg S T e ∧ (∃ c', c' ≤ c + j ∧ IK (g_steps ν pg j) a c') ∧ K4 ν (g_steps ν pg j) ∧ (g_steps ν pg j) 19 18 = ν 19 18
  | 0, _ => ⟨hJ, ⟨c, by omega, hK⟩, ⟨rfl, rfl, rfl, rfl, rfl⟩, rfl⟩
  | j + 1, hb => by
    obtain ⟨h1, ⟨c', h2, h3⟩, h4, h5⟩ := steps_inv hJ hK j (by omega)
    show JJ (if (g_steps ν pg j) 19 13 = 0 then g_steps ν pg j else g_step (g_steps ν pg j) pg) pg S T e ∧ (∃ c', c' ≤ c + (j + 1) ∧ IK (if (g_steps ν pg j) 19 13 = 0 then g_steps ν pg j else g_step (g_steps ν pg j) pg) a c') ∧ K4 ν (if (g_steps ν pg j) 19 13 = 0 then g_steps ν pg j else g_step (g_steps ν pg j) pg) ∧ (if (g_steps ν pg j) 19 13 = 0 then g_steps ν pg j else g_step (g_steps ν pg j) pg) 19 18 = ν 19 18
    by_cases h0 : (g_steps ν pg j) 19 13 = 0
    · rw [if_pos h0]
      exact ⟨h1, ⟨c', by omega, h3⟩, h4, h5⟩
    · rw [if_neg h0]
      obtain ⟨q0, q1, q2, q3, q4, q5, q6, q7⟩ := KP_step (ν := g_steps ν pg j) (pg := pg)
      rw [tick0] at q0 q1 q2 q3 q4 q5 q6 q7
      obtain ⟨w0, w1, w2, w3, w4⟩ := h4
      obtain ⟨k1, k2, k3⟩ := h3
      refine ⟨J_step h1 h0, ⟨c' + 1, by omega, q5.trans k1, ?_, by omega⟩, ⟨q0.trans w0, q1.trans w1, q2.trans w2, q3.trans w3, q7.trans w4⟩, q4.trans h5⟩
      rw [q6]
      show (g_steps ν pg j) 19 23 + 1 = _
      rw [k2, nI_1]
theorem k_inner {ν : zM} {pg e a c cq : Nat} {S T : Nat → Prop} {K : zM → Prop} {C : Int32 → zM → Prop} {x2 cr : Int32} (hJ : JJ ν pg S T e) (hK : IK ν a c) (hcq : ν 19 2 = nI cq) (hc2 : cq ≤ 200) (hb : a + c + 200 < 1000000000) (k : ∀ μ' : zM, RA (g_steps ν pg cq) μ' pg → ((g_steps ν pg cq) 19 13 ≠ 0 → μ' 1 8 = cr) → C (x2 + 1) μ') :
    ∀ (m j : Nat) (μ : zM), j + m = cq → RA (g_steps ν pg j) μ pg → ((g_steps ν pg j) 19 13 ≠ 0 → μ 1 8 = cr) → F_Co_spend_63 K C (m + 1) x2 (nI j) μ
  | 0, j, μ, h, hR, hcr => by
    have : j = cq := by omega
    subst this
    obtain ⟨-, -, ⟨w0, w1, w2, w3, w4⟩, -⟩ := steps_inv hJ hK j (by omega)
    have e5 : μ 1 5 = nI j := by rw [hR.2.2.2.1.2.1, w2, hcq]
    refine br_t (by rw [e5]; exact nI_le (Nat.le_refl _) (by omega)) ?_
    exact nm_e (k μ hR hcr)
  | m + 1, j, μ, h, hR, hcr => by
    obtain ⟨i1, ⟨c', i2, i3⟩, ⟨w0, w1, w2, w3, w4⟩, i5⟩ := steps_inv hJ hK j (by omega)
    have e5 : μ 1 5 = nI cq := by rw [hR.2.2.2.1.2.1, w2, hcq]
    have e7 : μ 1 7 = (g_steps ν pg j) 19 13 := hR.2.2.2.1.2.2.2.1
    by_cases h0 : (g_steps ν pg j) 19 13 = 0
    · refine br_f (by rw [e5]; exact nI_ge (by omega) (by omega)) (br_t (by rw [e7]; exact h0) ?_)
      have es := steps_stay h0 (m + 1)
      rw [h] at es
      exact nm_e (k μ (by rw [es]; exact hR) (by rw [es]; exact hcr))
    · have hs : g_steps ν pg (j + 1) = g_step (g_steps ν pg j) pg := by
        show (if (g_steps ν pg j) 19 13 = 0 then g_steps ν pg j else g_step (g_steps ν pg j) pg) = _
        rw [if_neg h0]
      refine br_f (by rw [e5]; exact nI_ge (by omega) (by omega)) (br_f (by rw [e7]; exact h0) ?_)
      refine k_step i1 hR i3 h0 (fun μ' r1 r2 => ?_)
      intro x24 e24
      rw [nI_1] at e24
      subst e24
      exact k_inner (K := K) hJ hK hcq hc2 hb k m (j + 1) μ' (by omega) (by rw [hs]; exact r1) (by rw [hs]; exact fun z => (r2 z).trans (hcr h0))
theorem m_inner {ν : zM} {pg e a c cq : Nat} {S T : Nat → Prop} {K C : zM → Prop} (hJ : JJ ν pg S T e) (hK : IK ν a c) (hcq : ν 19 2 = nI cq) (hc2 : cq ≤ 200) (hb : a + c + 200 < 1000000000) (k : C (zp (g_steps ν pg cq) 19 18 (ν 19 18 + ν 19 1))) :
    ∀ (m j : Nat), j + m = cq → F_Mo_did_51 K C (m + 1) (nI j) (g_steps ν pg j)
  | 0, j, h => by
    have : j = cq := by omega
    subst this
    obtain ⟨-, -, ⟨w0, w1, w2, w3, w4⟩, w5⟩ := steps_inv hJ hK j (by omega)
    refine br_t (by rw [w2, hcq]; exact nI_le (Nat.le_refl _) (by omega)) ?_
    rw [w5, w1]
    exact nm_e k
  | m + 1, j, h => by
    obtain ⟨i1, ⟨c', i2, i3⟩, ⟨w0, w1, w2, w3, w4⟩, i5⟩ := steps_inv hJ hK j (by omega)
    by_cases h0 : (g_steps ν pg j) 19 13 = 0
    · refine br_f (by rw [w2, hcq]; exact nI_ge (by omega) (by omega)) (br_t h0 ?_)
      have es := steps_stay h0 (m + 1)
      rw [h] at es
      rw [es] at k
      rw [i5, w1]
      exact nm_e k
    · have hs : g_steps ν pg (j + 1) = g_step (g_steps ν pg j) pg := by
        show (if (g_steps ν pg j) 19 13 = 0 then g_steps ν pg j else g_step (g_steps ν pg j) pg) = _
        rw [if_neg h0]
      refine br_f (by rw [w2, hcq]; exact nI_ge (by omega) (by omega)) (br_f h0 ?_)
      refine m_step i1 i3 h0 ?_
      intro x26 e26
      rw [nI_1] at e26
      subst e26
      rw [← hs]
      exact m_inner (K := K) hJ hK hcq hc2 hb k m (j + 1) (by omega)
/-- the rounds: as long as a cycle goes on and the credit is not above 0 -/
def g_rounds (pg : Nat) : Nat → zM → zM
  | 0, ν => ν
  | n + 1, ν => if ν 19 13 = 0 ∨ 0 < (ν 19 18).toInt then ν else g_rounds pg n (zp (g_steps ν pg (nN (ν 19 2))) 19 18 (ν 19 18 + ν 19 1))
def g_after (ν : zM) (pg : Nat) : zM := if ν 19 13 = 0 ∧ fr ν pg ≤ nN (ν 19 3) then g_begin ν else ν
theorem m_freeL {ν : zM} {pg : Nat} {K : Int32 → zM → Prop} (h1 : I1 ν pg) (k : K (nI (fr ν pg)) ν) : ∀ (m j : Nat), j + m = pg → F_Mo_freePages_4 K (m + 1) (nI (ct (fun p => cb (ν 21 p)) 0 j)) (nI j) ν
  | 0, j, h => by
    obtain ⟨g1, g2, g3⟩ := h1
    have : j = pg := by omega
    subst this
    exact br_t (by rw [g3]; exact nI_le (Nat.le_refl _) (by omega)) k
  | m + 1, j, h => by
    obtain ⟨g1, g2, g3⟩ := h1
    have hn := m_freeL ⟨g1, g2, g3⟩ k m (j + 1) (by omega)
    have hle := ct_le (f := fun p => cb (ν 21 p)) (lo := 0) j
    refine br_f (by rw [g3]; exact nI_ge (by omega) (by omega)) ⟨vp_in_nI (by omega) (by decide), ?_⟩
    rw [nI_clamp (by omega)]
    have hs : ct (fun p => cb (ν 21 p)) 0 (j + 1) = ct (fun p => cb (ν 21 p)) 0 j + if cb (ν 21 (0 + j)) = true then 1 else 0 := rfl
    rw [Nat.zero_add] at hs
    refine ⟨fun e x4 e4 x5 e5 => ?_, fun e x6 e6 x7 e7 => ?_⟩
    · rw [if_neg (by rw [cb_f e]; decide)] at hs
      rw [show (0 : Int32) = nI 0 from rfl, nI_add, ← hs] at e4
      rw [nI_1] at e5
      subst e4 e5
      exact hn
    · rw [if_pos (cb_t e)] at hs
      rw [show (1 : Int32) = nI 1 from rfl, nI_add, ← hs] at e6
      rw [nI_1] at e7
      subst e6 e7
      exact hn
theorem m_free {ν : zM} {pg : Nat} {K : Int32 → zM → Prop} (h1 : I1 ν pg) (k : K (nI (fr ν pg)) ν) : f_Mo_freePages ν K := ⟨pg + 1, m_freeL h1 k pg 0 (by omega)⟩
theorem m_after {ν : zM} {pg : Nat} {K : zM → Prop} (h1 : I1 ν pg) (hQ : IQ ν pg) (k : K (g_after ν pg)) :
    (¬ (ν 19 13) = 0 → K ν) ∧ ((ν 19 13) = 0 → f_Mo_freePages ν (fun r12 μ11 => ((μ11 19 3) < r12 → K μ11) ∧ (¬ (μ11 19 3) < r12 → f_Mo_beginCycle μ11 (fun μ14 => K μ14)))) := by
  obtain ⟨q, cq, tr, q1, q2, q3, q4, q5, q6, q7, q8⟩ := hQ
  have hf := fr_le (ν := ν) (pg := pg)
  have g2 := h1.2.1
  have e3 : nN (ν 19 3) = tr := by rw [q7]; exact nN_n (by omega)
  unfold g_after at k
  refine ⟨fun h => ?_, fun h => m_free h1 ⟨fun h2 => ?_, fun h2 => ?_⟩⟩
  · rw [if_neg (fun z => h z.1)] at k; exact k
  · rw [q7, nI_ltI (by omega) (by omega)] at h2
    rw [if_neg (fun z => by rw [e3] at z; omega)] at k; exact k
  · rw [q7, nI_ltI (by omega) (by omega)] at h2
    rw [if_pos ⟨h, by rw [e3]; omega⟩] at k
    exact m_begin k
theorem k_begin {ν μ : zM} {pg e : Nat} {S T : Nat → Prop} {K : Int32 → zM → Prop} (hJ : JJ ν pg S T e) (hR : RA ν μ pg) (h0 : ν 19 13 = 0) (k : ∀ μ' : zM, RA (g_begin ν) μ' pg → μ' 1 8 = (g_begin ν) 19 18 → K 1 μ') : f_Co_beginCycle μ K := by
  obtain ⟨hB, hP, hO, ⟨s1, s2, s3, s4, s5, s6, s7, s8, s9, s10, s11, s12⟩, hK, hN⟩ := hR
  unfold f_Co_beginCycle
  refine br_t (by rw [s4]; exact h0) ?_
  intro μ2 e2 μ3 e3
  subst e2 e3
  have h12 : ν 19 12 = nI 0 := by
    obtain ⟨n, n1, n2, n3, n4, n5⟩ := hJ.2.2.1
    rw [n1, n5 (Or.inl h0)]
  have h15 : ν 19 15 = -1 := by
    rcases hJ.2.2.2.1 with ⟨-, a, -⟩ | ⟨a, -⟩ | ⟨a, -⟩ | ⟨a, -⟩
    · exact a
    · rw [h0] at a; exact absurd a (by decide)
    · rw [h0] at a; exact absurd a (by decide)
    · rw [h0] at a; exact absurd a (by decide)
  refine k _ ⟨hB, ⟨?_, fun i hi => ?_⟩, hO, ⟨s1, s2, s3, rfl, ?_, s6, s7, fun q => absurd q (show ¬ (1 : Int32) = 0 by decide), fun _ => ?_, fun q => absurd rfl q, fun q => absurd q (show ¬ (1 : Int32) = 3 by decide), fun _ => s12 (by rw [h0]; decide)⟩, hK, hN⟩ ?_
  · show μ 12 1 = 0
    rw [hP.1, h12]; rfl
  · have hi : i < (0 : Int32).toNatClampNeg := hi
    rw [show (0 : Int32).toNatClampNeg = 0 from by decide] at hi
    omega
  · show μ 1 10 = -1
    rw [s5, h15]
  · show μ 1 9 = 0
    exact (s8 h0).2
  · show μ 1 4 = ν 19 1
    exact s1
theorem k_after {ν μ : zM} {pg e : Nat} {S T : Nat → Prop} {K : zM → Prop} (hJ : JJ ν pg S T e) (hR : RA ν μ pg) (hcr : ν 19 13 ≠ 0 → μ 1 8 = ν 19 18) (k : ∀ μ' : zM, RA (g_after ν pg) μ' pg → ((g_after ν pg) 19 13 ≠ 0 → μ' 1 8 = (g_after ν pg) 19 18) → K μ') :
    (¬ (μ 1 7) = 0 → K μ) ∧ ((μ 1 7) = 0 → (((μ 1 6) < (μ 2 8) → K μ) ∧ (¬ (μ 1 6) < (μ 2 8) → f_Co_beginCycle μ (fun r7 μ6 => K μ6)))) := by
  obtain ⟨q, cq, tr, q1, q2, q3, q4, q5, q6, q7, q8⟩ := hJ.2.1
  have hf := fr_le (ν := ν) (pg := pg)
  have g2 := hJ.1.1.2.1
  have e3 : nN (ν 19 3) = tr := by rw [q7]; exact nN_n (by omega)
  obtain ⟨hB, hP, hO, ⟨s1, s2, s3, s4, s5, s6, s7, s8, s9, s10, s11, s12⟩, hK, hN⟩ := id hR
  unfold g_after at k
  rw [s4, s3, q7, hB.2.2.2.2.2.2.2.2.2.1, nI_ltI (by omega) (by omega)]
  refine ⟨fun h => ?_, fun h => ⟨fun h2 => ?_, fun h2 => ?_⟩⟩
  · rw [if_neg (fun z => h z.1)] at k; exact k μ hR hcr
  · rw [if_neg (fun z => by rw [e3] at z; omega)] at k; exact k μ hR hcr
  · rw [if_pos ⟨h, by rw [e3]; omega⟩] at k
    exact k_begin hJ hR h (fun μ' r1 r2 => k μ' r1 (fun _ => r2))
