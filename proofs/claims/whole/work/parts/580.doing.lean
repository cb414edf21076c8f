/-! a doing: t ticks of the program and what follows -/
def rg (f : Nat → Int32) (s : Nat) : Nat → (Nat → Int32)
  | 0 => f
  | k + 1 => upd (rg f s k) ((s + k) % 2000) 1
def g_ticks (ν : zM) (k : Nat) : zM := zs (zp ν 19 22 (ν 19 22 + nI k)) 28 (rg (ν 28) (nN (ν 19 22) + nN (ν 19 23)) k)
theorem ticks_IK {ν : zM} {a c k : Nat} (hK : IK ν a c) (hb : a + c + k < 1000000000) : IK (g_ticks ν k) (a + k) c := by
  obtain ⟨k1, k2, k3⟩ := hK
  refine ⟨?_, k2, by omega⟩
  show ν 19 22 + nI k = nI (a + k)
  rw [k1, nI_add]
theorem ticks_0 {ν : zM} : g_ticks ν 0 = ν := by
  funext q
  by_cases e : q = 28
  · subst e; rfl
  · show zs (zp ν 19 22 (ν 19 22 + nI 0)) 28 _ q = ν q
    rw [zs_n e]
    by_cases e2 : q = 19
    · subst e2
      funext j
      show upd (ν 19) 22 (ν 19 22 + nI 0) j = ν 19 j
      by_cases e3 : j = 22
      · subst e3; rw [up_s, show nI 0 = 0 from rfl, Int32.add_zero]
      · rw [up_n e3]
    · rw [zp_n e2]
theorem ticks_s {ν : zM} {a c k : Nat} (hK : IK ν a c) (hb : a + c + k + 1 < 1000000000) : g_tick (g_ticks ν k) 1 = g_ticks ν (k + 1) := by
  obtain ⟨k1, k2, k3⟩ := id hK
  have e1 : nN (ν 19 22) = a := by rw [k1]; exact nN_n (by omega)
  have e2 : nN (ν 19 23) = c := by rw [k2]; exact nN_n (by omega)
  have hix : g_ix (g_ticks ν k) = (nN (ν 19 22) + nN (ν 19 23) + k) % 2000 := by
    unfold g_ix
    show (nN (ν 19 22 + nI k) + nN (ν 19 23)) % 2000 = _
    rw [k1, nI_add, nN_n (by omega), ← k1, e1, e2]
    congr 1
    omega
  rw [tick1, hix]
  funext q
  by_cases e : q = 19
  · subst e
    funext j
    show upd (upd (ν 19) 22 (ν 19 22 + nI k)) 22 (ν 19 22 + nI k + 1) j = upd (ν 19) 22 (ν 19 22 + nI (k + 1)) j
    by_cases e3 : j = 22
    · subst e3; rw [up_s, up_s, k1, nI_add, nI_add, nI_1]; rfl
    · rw [up_n e3, up_n e3, up_n e3]
  · rw [zp_n e]
    by_cases e4 : q = 28
    · subst e4; rfl
    · rw [zp_n e4]
      show zs (zp ν 19 22 (ν 19 22 + nI k)) 28 _ q = zs (zp ν 19 22 (ν 19 22 + nI (k + 1))) 28 _ q
      rw [zs_n e4, zs_n e4, zp_n e, zp_n e]
theorem J_ticks {ν : zM} {pg e k : Nat} {S T : Nat → Prop} (hJ : JJ ν pg S T e) : JJ (g_ticks ν k) pg S T e := hJ
theorem m_ticksL {ν : zM} {pg e a c t : Nat} {S T : Nat → Prop} {K : zM → Prop} (hJ : JJ ν pg S T e) (hK : IK ν a c) (hb : a + c + t + 1 < 1000000000)
    (k : ((ν 19 13) = 0 → ((¬ (ν 19 13) = 0 → K (g_ticks ν t)) ∧ ((ν 19 13) = 0 → f_Mo_freePages (g_ticks ν t) (fun r5 μ4 => ((μ4 19 3) < r5 → K μ4) ∧ (¬ (μ4 19 3) < r5 → f_Mo_beginCycle μ4 (fun μ7 => K μ7)))))) ∧ (¬ (ν 19 13) = 0 → ∀ μ8 : zM, μ8 = zp (g_ticks ν t) 19 18 ((ν 19 18) - nI t) → ∃ n : Nat, F_Mo_did_35 K n μ8)) :
    ∀ (m j : Nat), j + m = t → F_Mo_did_2 K (m + 1) (nI t) (nI j) (g_ticks ν j)
  | 0, j, h => by
    have : j = t := by omega
    subst this
    exact br_t (nI_le (Nat.le_refl _) (by omega)) k
  | m + 1, j, h => by
    refine br_f (nI_ge (by omega) (by omega)) ?_
    refine m_tick (a := a + j) (c := c) (Or.inr rfl) (ticks_IK hK (by omega)) ?_
    rw [ticks_s hK (by omega)]
    intro x28 e28
    rw [nI_1] at e28
    subst e28
    exact m_ticksL hJ hK hb k m (j + 1) (by omega)
theorem k_ticksL {ν μ : zM} {pg a c t : Nat} {K : zM → Prop} (hR : RA ν μ pg) (hK : IK ν a c) (hb : a + c + t + 1 < 1000000000) (k : ∀ μ' : zM, RA (g_ticks ν t) μ' pg → μ' 1 8 = μ 1 8 → K μ') :
    ∀ (m j : Nat) (μj : zM), j + m = t → (∀ q, q ≠ 10 → q ≠ 11 → μj q = μ q) → μj 10 3 = ν 19 22 → μj 10 4 = ν 19 23 → RN μj (a + c + j) → (∀ i, i < 2000 → μj 11 i = rg (ν 28) (a + c) j i) → F_Ck_programTicks_2 K (m + 1) (nI t) (nI j) μj
  | 0, j, μj, h, hf, h3, h4, hN, hr => by
    have : j = t := by omega
    subst this
    obtain ⟨hB, hP, hO, hS, ⟨c1, c2, c3⟩, hN0⟩ := hR
    obtain ⟨k1, k2, k3⟩ := hK
    have e1 : nN (ν 19 22) = a := by rw [k1]; exact nN_n (by omega)
    have e2 : nN (ν 19 23) = c := by rw [k2]; exact nN_n (by omega)
    refine br_t (nI_le (Nat.le_refl _) (by omega)) ?_
    intro μ2 e2'
    subst e2'
    obtain ⟨hB1, hP1, hO1, hS1⟩ := RA_mu hf ⟨hB, hP, hO, hS⟩
    refine k _ ⟨hB1, hP1, hO1, hS1, ⟨?_, h4, fun i hi => ?_⟩, ?_⟩ (by show μj 1 8 = μ 1 8; rw [hf 1 (by decide) (by decide)])
    · show μj 10 3 + nI j = ν 19 22 + nI j
      rw [h3]
    · show μj 11 i = rg (ν 28) (nN (ν 19 22) + nN (ν 19 23)) j i
      rw [e1, e2]; exact hr i hi
    · show RN (zp μj 10 3 (μj 10 3 + nI j)) (nN (ν 19 22 + nI j) + nN (ν 19 23))
      rw [k1, nI_add, nN_n (by omega), e2, show a + j + c = a + c + j by omega]
      exact hN
  | m + 1, j, μj, h, hf, h3, h4, hN, hr => by
    refine br_f (nI_ge (by omega) (by omega)) ?_
    refine k_keep (ν := fun _ => rg (ν 28) (a + c) j) (t := a + c + j) (i := (a + c + j) % 2000) (Or.inr rfl) (by omega) hN rfl hr (fun μ' hf' h3' h4' hN' hr' => ?_)
    intro x4 e4
    rw [nI_1] at e4
    subst e4
    exact k_ticksL hR hK hb k m (j + 1) μ' (by omega) (fun q q1 q2 => (hf' q q1 q2).trans (hf q q1 q2)) (h3'.trans h3) (h4'.trans h4) hN' hr'
theorem k_ticks {ν μ : zM} {pg a c t : Nat} {K : zM → Prop} (hR : RA ν μ pg) (hK : IK ν a c) (hb : a + c + t + 1 < 1000000000) (k : ∀ μ' : zM, RA (g_ticks ν t) μ' pg → μ' 1 8 = μ 1 8 → K μ') : f_Ck_programTicks μ (nI t) K := by
  obtain ⟨k1, k2, k3⟩ := id hK
  have e1 : nN (ν 19 22) = a := by rw [k1]; exact nN_n (by omega)
  have e2 : nN (ν 19 23) = c := by rw [k2]; exact nN_n (by omega)
  have hN := hR.2.2.2.2.2
  rw [e1, e2] at hN
  exact ⟨t + 1, k_ticksL hR hK hb k t 0 μ (by omega) (fun _ _ _ => rfl) hR.2.2.2.2.1.1 hR.2.2.2.2.1.2.1 hN hR.2.2.2.2.1.2.2⟩
def g_pay (ν : zM) (t : Nat) : zM := if ν 19 13 = 0 then g_ticks ν t else zp (g_ticks ν t) 19 18 (ν 19 18 - nI t)
def g_did (ν : zM) (pg t : Nat) : zM := g_after (g_rounds pg t (g_pay ν t)) pg
/-- the state between calls: the class stands to the model; e: a root that is left out -/
def ZC (ν μ : zM) : Prop := ν 19 13 ≠ 0 → μ 1 8 = ν 19 18
def CB (ν : zM) : Prop := ν 19 13 ≠ 0 → 1 ≤ (ν 19 18).toInt ∧ (ν 19 18).toInt ≤ 200
theorem pay_QQ {ν : zM} {pg e a c t : Nat} {S T : Nat → Prop} (hJ : JJ ν pg S T e) (hK : IK ν a c) (hC : CB ν) (h1 : 1 ≤ t) (h9 : t ≤ 9) (hb : a + c + 201 * t + 1 < 1000000000) : QQ (g_pay ν t) pg S T e (a + t) c t := by
  unfold g_pay
  by_cases h0 : ν 19 13 = 0
  · rw [if_pos h0]
    exact ⟨J_ticks hJ, ticks_IK hK (by omega), fun q => absurd h0 q⟩
  · rw [if_neg h0]
    refine ⟨hJ, ticks_IK hK (by omega), fun _ => ?_⟩
    obtain ⟨c1, c2⟩ := hC h0
    have et : (nI t).toInt = t := ti_n (by omega)
    have e : (ν 19 18 - nI t).toInt = (ν 19 18).toInt - t := by rw [ti_sub (by rw [et]; omega), et]
    show -100 ≤ (ν 19 18 - nI t).toInt ∧ (ν 19 18 - nI t).toInt ≤ 200 ∧ 1 ≤ (ν 19 18 - nI t).toInt + t
    rw [e]
    omega
theorem J_after {ν : zM} {pg e a c : Nat} {S T : Nat → Prop} (h : QQ ν pg S T e a c 0) : ∃ S' T' : Nat → Prop, JJ (g_after ν pg) pg S' T' e ∧ IK (g_after ν pg) a c ∧ CB (g_after ν pg) ∧ K4 ν (g_after ν pg) := by
  unfold g_after
  by_cases hc : ν 19 13 = 0 ∧ fr ν pg ≤ nN (ν 19 3)
  · rw [if_pos hc]
    obtain ⟨S', T', hJ⟩ := J_begin h.1 hc.1
    refine ⟨S', T', hJ, h.2.1, fun _ => ?_, rfl, rfl, rfl, rfl, rfl⟩
    obtain ⟨q, cq, tr, q1, q2, q3, -⟩ := h.1.2.1
    show 1 ≤ (ν 19 1).toInt ∧ (ν 19 1).toInt ≤ 200
    rw [q1, ti_n (by omega)]
    omega
  · rw [if_neg hc]
    refine ⟨S, T, h.1, h.2.1, fun h0 => ?_, rfl, rfl, rfl, rfl, rfl⟩
    have := h.2.2 h0
    omega
theorem K4_tr {a b c : zM} (h : K4 a b) (k : K4 b c) : K4 a c := ⟨k.1.trans h.1, k.2.1.trans h.2.1, k.2.2.1.trans h.2.2.1, k.2.2.2.1.trans h.2.2.2.1, k.2.2.2.2.trans h.2.2.2.2⟩
theorem K4_pay {ν : zM} {t : Nat} : K4 ν (g_pay ν t) := by
  unfold g_pay
  split <;> exact ⟨rfl, rfl, rfl, rfl, rfl⟩
theorem J_did {ν : zM} {pg e a c t : Nat} {S T : Nat → Prop} (hJ : JJ ν pg S T e) (hK : IK ν a c) (hC : CB ν) (h1 : 1 ≤ t) (h9 : t ≤ 9) (hb : a + c + 201 * t + 1 < 1000000000) : ∃ (S' T' : Nat → Prop) (c' : Nat), c' ≤ c + 200 * t ∧ JJ (g_did ν pg t) pg S' T' e ∧ IK (g_did ν pg t) (a + t) c' ∧ CB (g_did ν pg t) ∧ K4 ν (g_did ν pg t) := by
  obtain ⟨c', w1, w2, w3⟩ := rounds_inv t (g_pay ν t) c (pay_QQ hJ hK hC h1 h9 hb) (by omega)
  obtain ⟨S', T', v1, v2, v3, v4⟩ := J_after w2
  exact ⟨S', T', c', w1, v1, v2, v3, K4_tr K4_pay (K4_tr w3 v4)⟩
theorem m_did {ν : zM} {pg e a c t : Nat} {S T : Nat → Prop} {K : zM → Prop} (hJ : JJ ν pg S T e) (hK : IK ν a c) (hC : CB ν) (h1 : 1 ≤ t) (h9 : t ≤ 9) (hb : a + c + 201 * t + 1 < 1000000000) (k : K (g_did ν pg t)) : f_Mo_did ν (nI t) K := by
  have hq := pay_QQ hJ hK hC h1 h9 hb
  refine ⟨t + 1, ?_⟩
  have := m_ticksL (K := K) hJ hK (t := t) (by omega) ⟨fun h0 => ?_, fun h0 μ8 e8 => ?_⟩ t 0 (by omega)
  · rw [ticks_0] at this
    exact this
  · have ep : g_pay ν t = g_ticks ν t := by unfold g_pay; rw [if_pos h0]
    rw [ep] at hq
    unfold g_did at k
    rw [ep] at k
    have es : g_rounds pg t (g_ticks ν t) = g_ticks ν t := by
      cases t with
      | zero => rfl
      | succ t => unfold g_rounds; rw [if_pos (Or.inl (show (g_ticks ν (t + 1)) 19 13 = 0 from h0))]
    rw [es] at k
    exact m_after hq.1.1.1 hq.1.2.1 k
  · have ep : g_pay ν t = zp (g_ticks ν t) 19 18 (ν 19 18 - nI t) := by unfold g_pay; rw [if_neg h0]
    rw [ep] at hq
    unfold g_did at k
    rw [ep] at k
    subst e8
    exact ⟨t + 1, m_rounds t _ c hq (by omega) k⟩
theorem k_did {ν μ : zM} {pg e a c t : Nat} {S T : Nat → Prop} {K : zM → Prop} (hJ : JJ ν pg S T e) (hR : RA ν μ pg) (hZ : ZC ν μ) (hK : IK ν a c) (hC : CB ν) (h1 : 1 ≤ t) (h9 : t ≤ 9) (hb : a + c + 201 * t + 1 < 1000000000) (k : ∀ μ' : zM, RA (g_did ν pg t) μ' pg → ZC (g_did ν pg t) μ' → K μ') : f_Co_spend μ (nI t) K := by
  have hq := pay_QQ hJ hK hC h1 h9 hb
  unfold f_Co_spend
  refine k_ticks hR hK (by omega) (fun μ1 hR1 h8 => ?_)
  have e7 : μ1 1 7 = ν 19 13 := hR1.2.2.2.1.2.2.2.1
  rw [e7]
  unfold g_did at k
  refine ⟨fun h0 => ?_, fun h0 μ25 e25 => ?_⟩
  · have ep : g_pay ν t = g_ticks ν t := by unfold g_pay; rw [if_pos h0]
    rw [ep] at hq k
    exact ⟨t + 1, k_rounds t (g_ticks ν t) μ1 c 0 hq (by omega) (by omega) hR1 (fun q => absurd h0 q) k⟩
  · have ep : g_pay ν t = zp (g_ticks ν t) 19 18 (ν 19 18 - nI t) := by unfold g_pay; rw [if_neg h0]
    rw [ep] at hq k
    rw [h8, hZ h0] at e25
    subst e25
    obtain ⟨hB, hP, hO, ⟨s1, s2, s3, s4, s5, s6, s7, s8, s9, s10, s11, s12⟩, hK', hN⟩ := id hR1
    exact ⟨t + 1, k_rounds t (zp (g_ticks ν t) 19 18 (ν 19 18 - nI t)) (zp μ1 1 8 (ν 19 18 - nI t)) c 0 hq (by omega) (by omega) ⟨hB, hP, hO, ⟨s1, s2, s3, s4, s5, s6, s7, fun q => absurd q h0, s9, s10, s11, s12⟩, hK', hN⟩ (fun _ => rfl) k⟩
