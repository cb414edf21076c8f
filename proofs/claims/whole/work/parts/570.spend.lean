/-! the rounds -/
/-- what a state between two rounds is: the credit by its number; m rounds may come yet -/
def QQ (ν : zM) (pg : Nat) (S T : Nat → Prop) (e a c : Nat) (m : Nat) : Prop := JJ ν pg S T e ∧ IK ν a c ∧ (ν 19 13 ≠ 0 → -100 ≤ (ν 19 18).toInt ∧ (ν 19 18).toInt ≤ 200 ∧ 1 ≤ (ν 19 18).toInt + m)
theorem QQ_next {ν : zM} {pg e a c m : Nat} {S T : Nat → Prop} (h : QQ ν pg S T e a c (m + 1)) (hb : a + c + 200 < 1000000000) (h0 : ν 19 13 ≠ 0) (hc : ¬ 0 < (ν 19 18).toInt) : ∃ c', c' ≤ c + 200 ∧ QQ (zp (g_steps ν pg (nN (ν 19 2))) 19 18 (ν 19 18 + ν 19 1)) pg S T e a c' m ∧ K4 ν (zp (g_steps ν pg (nN (ν 19 2))) 19 18 (ν 19 18 + ν 19 1)) := by
  obtain ⟨hJ, hK, hcr⟩ := h
  obtain ⟨q, cq, tr, q1, q2, q3, q4, q5, q6, q7, q8⟩ := hJ.2.1
  have ecq : nN (ν 19 2) = cq := by rw [q4]; exact nN_n (by omega)
  rw [ecq]
  obtain ⟨h1, ⟨c', h2, h3⟩, h4, h5⟩ := steps_inv hJ hK cq (by omega)
  obtain ⟨w1, w2, w3⟩ := hcr h0
  have eq : (ν 19 1).toInt = q := by rw [q1, ti_n (by omega)]
  have ea : (ν 19 18 + ν 19 1).toInt = (ν 19 18).toInt + q := by rw [ti_add (by rw [eq]; omega), eq]
  refine ⟨c', by omega, ⟨h1, h3, fun _ => ?_⟩, h4⟩
  show -100 ≤ (ν 19 18 + ν 19 1).toInt ∧ (ν 19 18 + ν 19 1).toInt ≤ 200 ∧ 1 ≤ (ν 19 18 + ν 19 1).toInt + m
  rw [ea]
  omega
theorem rounds_s {pg m : Nat} {ν : zM} (h : ¬ (ν 19 13 = 0 ∨ 0 < (ν 19 18).toInt)) : g_rounds pg (m + 1) ν = g_rounds pg m (zp (g_steps ν pg (nN (ν 19 2))) 19 18 (ν 19 18 + ν 19 1)) := by
  show (if ν 19 13 = 0 ∨ 0 < (ν 19 18).toInt then ν else g_rounds pg m (zp (g_steps ν pg (nN (ν 19 2))) 19 18 (ν 19 18 + ν 19 1))) = _
  rw [if_neg h]
theorem rounds_inv {pg e a : Nat} {S T : Nat → Prop} : ∀ (m : Nat) (ν : zM) (c : Nat), QQ ν pg S T e a c m → a + c + 200 * m < 1000000000 → ∃ c', c' ≤ c + 200 * m ∧ QQ (g_rounds pg m ν) pg S T e a c' 0 ∧ K4 ν (g_rounds pg m ν)
  | 0, ν, c, h, _ => ⟨c, by omega, h, ⟨rfl, rfl, rfl, rfl, rfl⟩⟩
  | m + 1, ν, c, h, hb => by
    unfold g_rounds
    by_cases hs : ν 19 13 = 0 ∨ 0 < (ν 19 18).toInt
    · rw [if_pos hs]
      refine ⟨c, by omega, ⟨h.1, h.2.1, fun h0 => ?_⟩, ⟨rfl, rfl, rfl, rfl, rfl⟩⟩
      obtain ⟨w1, w2, w3⟩ := h.2.2 h0
      rcases hs with q | q
      · exact absurd q h0
      · omega
    · rw [if_neg hs]
      obtain ⟨c', h1, h2, h3⟩ := QQ_next h (by omega) (fun q => hs (Or.inl q)) (fun q => hs (Or.inr q))
      obtain ⟨c'', k1, k2, k3⟩ := rounds_inv m _ c' h2 (by omega)
      exact ⟨c'', by omega, k2, ⟨k3.1.trans h3.1, k3.2.1.trans h3.2.1, k3.2.2.1.trans h3.2.2.1, k3.2.2.2.1.trans h3.2.2.2.1, k3.2.2.2.2.trans h3.2.2.2.2⟩⟩
theorem k_rounds {pg e a : Nat} {S T : Nat → Prop} {K : zM → Prop} : ∀ (m : Nat) (ν μ : zM) (c i : Nat), QQ ν pg S T e a c m → a + c + 200 * m < 1000000000 → i + m < 1000 → RA ν μ pg → (ν 19 13 ≠ 0 → μ 1 8 = ν 19 18) → (∀ μ' : zM, RA (g_after (g_rounds pg m ν) pg) μ' pg → ((g_after (g_rounds pg m ν) pg) 19 13 ≠ 0 → μ' 1 8 = (g_after (g_rounds pg m ν) pg) 19 18) → K μ') → F_Co_spend_27 K (m + 1) (nI i) μ
  | m, ν, μ, c, i, h, hb, hi, hR, hcr, k => by
    have e7 : μ 1 7 = ν 19 13 := hR.2.2.2.1.2.2.2.1
    refine br_f (show ¬ (1000 : Int32) ≤ nI i from nI_ge (b := 1000) (by omega) (by decide)) ?_
    have fin : g_rounds pg m ν = ν → (¬ (μ 1 7) = 0 → K μ) ∧ ((μ 1 7) = 0 → (((μ 1 6) < (μ 2 8) → K μ) ∧ (¬ (μ 1 6) < (μ 2 8) → f_Co_beginCycle μ (fun r7 μ6 => K μ6)))) := fun eg => by
      rw [eg] at k
      exact k_after h.1 hR hcr k
    have stop : ν 19 13 = 0 ∨ 0 < (ν 19 18).toInt → g_rounds pg m ν = ν := fun hs => by
      cases m with
      | zero => rfl
      | succ m => unfold g_rounds; rw [if_pos hs]
    refine ⟨fun h0 => ?_, fun h0 => ?_⟩
    · rw [e7] at h0
      exact fin (stop (Or.inl h0))
    · rw [e7] at h0
      rw [hcr h0]
      refine ⟨fun hc => ?_, fun hc => ?_⟩
      · rw [ti_lt, ti_0] at hc
        exact fin (stop (Or.inr hc))
      · rw [ti_lt, ti_0] at hc
        cases m with
        | zero =>
          obtain ⟨w1, w2, w3⟩ := h.2.2 h0
          exfalso
          omega
        | succ m =>
          obtain ⟨c', h1, h2, h3⟩ := QQ_next h (by omega) h0 hc
          have eg : g_rounds pg (m + 1) ν = g_rounds pg m (zp (g_steps ν pg (nN (ν 19 2))) 19 18 (ν 19 18 + ν 19 1)) := rounds_s (fun q => q.elim h0 hc)
          rw [eg] at k
          obtain ⟨q, cq, tr, q1, q2, q3, q4, q5, q6, q7, q8⟩ := h.1.2.1
          have ecq : nN (ν 19 2) = cq := by rw [q4]; exact nN_n (by omega)
          rw [ecq] at k h2
          intro μ18 e18
          rw [hR.2.2.2.1.1] at e18
          subst e18
          obtain ⟨hB, hP, hO, ⟨s1, s2, s3, s4, s5, s6, s7, s8, s9, s10, s11, s12⟩, hK, hN⟩ := id hR
          have hR' : RA ν (zp μ 1 8 (ν 19 18 + ν 19 1)) pg := ⟨hB, hP, hO, ⟨s1, s2, s3, s4, s5, s6, s7, fun q => absurd q h0, s9, s10, s11, s12⟩, hK, hN⟩
          refine ⟨cq + 1, k_inner (cr := ν 19 18 + ν 19 1) h.1 h.2.1 q4 q6 (by omega) (fun μ' r1 r2 => ?_) cq 0 (zp μ 1 8 (ν 19 18 + ν 19 1)) (by omega) hR' (fun _ => rfl)⟩
          rw [nI_1]
          exact k_rounds m (zp (g_steps ν pg cq) 19 18 (ν 19 18 + ν 19 1)) μ' c' (i + 1) h2 (by omega) (by omega) r1 r2 k
theorem m_rounds {pg e a : Nat} {S T : Nat → Prop} {K : zM → Prop} : ∀ (m : Nat) (ν : zM) (c : Nat), QQ ν pg S T e a c m → a + c + 200 * m < 1000000000 → K (g_after (g_rounds pg m ν) pg) → F_Mo_did_35 K (m + 1) ν
  | m, ν, c, h, hb, k => by
    have fin : g_rounds pg m ν = ν → (¬ (ν 19 13) = 0 → K ν) ∧ ((ν 19 13) = 0 → f_Mo_freePages ν (fun r12 μ11 => ((μ11 19 3) < r12 → K μ11) ∧ (¬ (μ11 19 3) < r12 → f_Mo_beginCycle μ11 (fun μ14 => K μ14)))) := fun eg => by
      rw [eg] at k
      exact m_after h.1.1.1 h.1.2.1 k
    have stop : ν 19 13 = 0 ∨ 0 < (ν 19 18).toInt → g_rounds pg m ν = ν := fun hs => by
      cases m with
      | zero => rfl
      | succ m => unfold g_rounds; rw [if_pos hs]
    refine ⟨fun h0 => fin (stop (Or.inl h0)), fun h0 => ⟨fun hc => ?_, fun hc => ?_⟩⟩
    · rw [ti_lt, ti_0] at hc
      exact fin (stop (Or.inr hc))
    · rw [ti_lt, ti_0] at hc
      cases m with
      | zero =>
        obtain ⟨w1, w2, w3⟩ := h.2.2 h0
        exfalso
        omega
      | succ m =>
        obtain ⟨c', h1, h2, h3⟩ := QQ_next h (by omega) h0 hc
        have eg : g_rounds pg (m + 1) ν = g_rounds pg m (zp (g_steps ν pg (nN (ν 19 2))) 19 18 (ν 19 18 + ν 19 1)) := rounds_s (fun q => q.elim h0 hc)
        rw [eg] at k
        obtain ⟨q, cq, tr, q1, q2, q3, q4, q5, q6, q7, q8⟩ := h.1.2.1
        have ecq : nN (ν 19 2) = cq := by rw [q4]; exact nN_n (by omega)
        rw [ecq] at k h2
        refine ⟨cq + 1, m_inner h.1 h.2.1 q4 q6 (by omega) ?_ cq 0 (by omega)⟩
        exact m_rounds m (zp (g_steps ν pg cq) 19 18 (ν 19 18 + ν 19 1)) c' h2 (by omega) k
