/-! the collector's steps: the end of a cycle, ROOTS, MARK -/
def g_end (ν : zM) (pg : Nat) : zM := if ν 19 13 = 3 ∧ nbk ν (nN (ν 19 17)) pg = none then zp (zp ν 19 13 0) 19 19 (ν 19 19 + 1) else ν
def g_roots (ν : zM) (r : Nat) : zM := if r = 15 then zp (zp (zp (g_grey ν (ν 26 r)) 19 14 (nI (r + 1))) 19 13 2) 19 15 (-1) else zp (g_grey ν (ν 26 r)) 19 14 (nI (r + 1))
def g_look (ν : zM) (a h : Nat) : zM := if ν 20 (a + (h + 1)) = 0 then zp ν 19 16 (nI (h + 1)) else if ν 22 a = 2 then zp (zp ν 19 16 (nI (h + 1))) 23 (nN (ν 20 (a + (h + 1)) - 1)) 1 else g_gr (zp ν 19 16 (nI (h + 1))) (nN (ν 20 (a + (h + 1)) - 1))
def g_toSweep (ν : zM) : zM := zp (zp (zp ν 19 13 3) 19 17 0) 19 15 (-1)
def g_pop (ν : zM) (n : Nat) : zM := zp (zp (zp ν 19 12 (nI n)) 19 15 (ν 27 n)) 19 16 0
theorem oI_none : oI none = -1 := rfl
theorem oI_some {b : Nat} (h : b < 2147483648) : oI (some b) ≠ -1 := nI_m1 h
theorem nbk_lt {ν : zM} {pg pl b : Nat} (hp : pg ≤ 64) (hpl : pl ≤ 64 * pg) (h : nbk ν pl pg = some b) : b < 64 * pg ∨ b = pl := by
  unfold nbk at h
  cases hq : nbp (ν 21) (pl / 64) (pg - pl / 64) with
  | none => rw [hq] at h; cases h
  | some q =>
    rw [hq] at h
    have hb : b = max pl (64 * q) := by cases h; rfl
    have := nbp_some _ _ _ hq
    omega
theorem k_end {ν μ : zM} {pg pl : Nat} {K : zM → Prop} (h1 : I1 ν pg) (hR : RA ν μ pg) (h3 : ν 19 13 = 3) (h15 : ν 19 15 = -1) (hpl : ν 19 17 = nI pl) (hle : pl ≤ 64 * pg) (k : ∀ μ' : zM, RA (g_end ν pg) μ' pg → ((g_end ν pg) 19 13 ≠ 0 → μ' 1 8 = μ 1 8) → K μ') : f_Co_endIfSwept μ K := by
  have g2 := h1.2.1
  obtain ⟨hB, hP, hO, hS, hK, hN⟩ := id hR
  obtain ⟨s1, s2, s3, s4, s5, s6, s7, s8, s9, s10, s11, s12⟩ := id hS
  unfold f_Co_endIfSwept
  rw [s11 h3, hpl]
  refine k_bf (ν := ν) hB.1 g2 hB.2.2.2.2.2.2.2.1 hle ?_
  have hc : nN (ν 19 17) = pl := by rw [hpl]; exact nN_n (by omega)
  cases hb : nbk ν pl pg with
  | none =>
    have eg : g_end ν pg = zp (zp ν 19 13 0) 19 19 (ν 19 19 + 1) := by unfold g_end; rw [if_pos ⟨h3, by rw [hc]; exact hb⟩]
    refine ⟨fun h => absurd rfl h, fun _ => ?_⟩
    intro μ4 e4
    subst e4
    unfold f_Co_rest
    intro μ1 e1 μ2 e2 μ3 e3 μ5 e5 μ6 e6 μ7 e7
    subst e1 e2 e3 e5 e6 e7
    refine k _ ?_ (fun h => absurd (by rw [eg]; rfl) h)
    rw [eg]
    refine ⟨hB, hP, hO, ⟨s1, s2, s3, rfl, h15.symm, ?_, s7, fun _ => ⟨rfl, rfl⟩, fun h => absurd rfl h, fun h => absurd h15 h, fun h => absurd h (show ¬ (0 : Int32) = 3 by decide), fun _ => rfl⟩, hK, hN⟩
    show μ 1 13 + 1 = ν 19 19 + 1
    rw [s6]
  | some b =>
    have eg : g_end ν pg = ν := by unfold g_end; rw [if_neg (fun h => by rw [hc, hb] at h; cases h.2)]
    have := nbk_lt g2 hle hb
    refine bn_t (oI_some (b := b) (by omega)) ?_
    exact k μ (by rw [eg]; exact hR) (fun _ => rfl)
/-- the model's own look behind a step -/
theorem m_end {ν : zM} {pg : Nat} {K : zM → Prop} (h1 : I1 ν pg) (hpl : ν 19 13 = 3 → ∃ pl : Nat, ν 19 17 = nI pl ∧ pl ≤ 64 * pg) (k : K (g_end ν pg)) :
    (¬ (ν 19 13) = (3 : Int32) → K ν) ∧ ((ν 19 13) = (3 : Int32) → f_Mo_nextBlock ν (fun r7 μ6 => (¬ r7 = (-1 : Int32) → K μ6) ∧ (r7 = (-1 : Int32) → ∀ μ9 : zM, μ9 = zp μ6 19 13 (0 : Int32) → ∀ μ10 : zM, μ10 = zp μ9 19 19 ((μ9 19 19) + (1 : Int32)) → K μ10))) := by
  have g2 := h1.2.1
  refine ⟨fun h => ?_, fun h => ?_⟩
  · have eg : g_end ν pg = ν := by unfold g_end; rw [if_neg (fun q => h q.1)]
    rw [eg] at k; exact k
  · obtain ⟨pl, e, hle⟩ := hpl h
    have hc : nN (ν 19 17) = pl := by rw [e]; exact nN_n (by omega)
    refine m_nb h1 e hle ?_
    cases hb : nbk ν pl pg with
    | none =>
      have eg : g_end ν pg = zp (zp ν 19 13 0) 19 19 (ν 19 19 + 1) := by unfold g_end; rw [if_pos ⟨h, by rw [hc]; exact hb⟩]
      rw [eg] at k
      refine ⟨fun h => absurd rfl h, fun _ => ?_⟩
      intro μ9 e9 μ10 e10
      subst e9 e10
      exact k
    | some b =>
      have eg : g_end ν pg = ν := by unfold g_end; rw [if_neg (fun q => by rw [hc, hb] at q; cases q.2)]
      rw [eg] at k
      have := nbk_lt g2 hle hb
      exact bn_t (oI_some (b := b) (by omega)) k
theorem gr_part {ν : zM} {x : Int32} : (g_grey ν x) 19 13 = ν 19 13 ∧ (g_grey ν x) 19 14 = ν 19 14 ∧ (g_grey ν x) 19 15 = ν 19 15 ∧ (g_grey ν x) 26 = ν 26 := by
  unfold g_grey g_gr
  split
  · exact ⟨rfl, rfl, rfl, rfl⟩
  · split <;> exact ⟨rfl, rfl, rfl, rfl⟩
theorem k_roots {ν μ : zM} {pg n r : Nat} {K : zM → Prop} (hI : IB ν pg) (hR : RA ν μ pg) (h1 : ν 19 13 = 1) (h15 : ν 19 15 = -1) (hr : r < 16) (h14 : ν 19 14 = nI r) (hx : ν 26 r = -1 ∨ ∃ t : Nat, ν 26 r = nI t ∧ ob ν t) (hn : ν 19 12 = nI n) (hn2 : PB ν n) (k : ∀ μ' : zM, RA (g_roots ν r) μ' pg → μ' 1 8 = μ 1 8 → K μ') : f_Co_rootsStep μ K := by
  have e9 : μ 1 9 = nI r := by rw [hR.2.2.2.1.2.2.2.2.2.2.2.2.1 (by rw [h1]; decide), h14]
  have hc : (nI r).toNatClampNeg = r := nI_clamp (by omega)
  unfold f_Co_rootsStep
  rw [e9]
  refine br_f (nI_pos (by omega)) ?_
  refine br_f (nI_ge hr (by decide)) ⟨vp_in_nI hr (by decide), ?_⟩
  rw [hc, hR.2.2.1 r hr]
  refine k_grey hI hR hx hn hn2 (fun μ' hR' h8 => ?_)
  obtain ⟨hB, hP, hO, ⟨s1, s2, s3, s4, s5, s6, s7, s8, s9, s10, s11, s12⟩, hK, hN⟩ := id hR'
  obtain ⟨p13, p14, p15, p26⟩ := gr_part (ν := ν) (x := ν 26 r)
  have e9' : μ' 1 9 = nI r := by rw [s9 (by rw [p13, h1]; decide), p14, h14]
  intro μ9 e9
  rw [e9', show (1 : Int32) = nI 1 from rfl, nI_add] at e9
  subst e9
  have h99 : (zp μ' 1 9 (nI (r + 1))) 1 9 = nI (r + 1) := rfl
  rw [h99]
  refine ⟨fun h => ?_, fun h => ?_⟩
  · rw [show (16 : Int32) = nI 16 from rfl, nI_ltI (by omega) (by decide)] at h
    have eg : g_roots ν r = zp (g_grey ν (ν 26 r)) 19 14 (nI (r + 1)) := by unfold g_roots; rw [if_neg (by omega)]
    refine k _ ?_ h8
    rw [eg]
    exact ⟨hB, hP, hO, ⟨s1, s2, s3, s4, s5, s6, s7, fun q => absurd (q.symm.trans (p13.trans h1)) (by decide), fun _ => rfl, s10, s11, s12⟩, hK, hN⟩
  · rw [show (16 : Int32) = nI 16 from rfl, nI_ltI (by omega) (by decide)] at h
    have eg : g_roots ν r = zp (zp (zp (g_grey ν (ν 26 r)) 19 14 (nI (r + 1))) 19 13 2) 19 15 (-1) := by unfold g_roots; rw [if_pos (by omega)]
    intro μ11 e11
    subst e11
    refine k _ ?_ h8
    rw [eg]
    refine ⟨hB, hP, hO, ⟨s1, s2, s3, rfl, ?_, s6, s7, fun q => absurd q (show ¬ (2 : Int32) = 0 by decide), fun _ => rfl, fun q => absurd rfl q, fun q => absurd q (show ¬ (2 : Int32) = 3 by decide), fun _ => s12 (by rw [p13, h1]; decide)⟩, hK, hN⟩
    show μ' 1 10 = -1
    rw [s5, p15, h15]
theorem m_roots {ν : zM} {n r : Nat} {K : zM → Prop} (h1 : ν 19 13 = 1) (hr : r < 16) (h14 : ν 19 14 = nI r) (hx : ν 26 r = -1 ∨ ∃ t : Nat, ν 26 r = nI t ∧ t < 4096) (hn : ν 19 12 = nI n) (hn2 : n < 1100) (k : K (g_roots ν r)) :
    vp_in (ν 19 14) 16 ∧ f_Mo_grey ν (ν 26 (ν 19 14).toNatClampNeg) (fun μ19 => ∀ μ20 : zM, μ20 = zp μ19 19 14 ((μ19 19 14) + (1 : Int32)) → ((¬ (μ20 19 14) = (16 : Int32) → K μ20) ∧ ((μ20 19 14) = (16 : Int32) → ∀ μ28 : zM, μ28 = zp μ20 19 13 (2 : Int32) → ∀ μ29 : zM, μ29 = zp μ28 19 15 (-1 : Int32) → K μ29))) := by
  have hc : (nI r).toNatClampNeg = r := nI_clamp (by omega)
  rw [h14, hc]
  refine ⟨vp_in_nI hr (by decide), m_grey hx hn hn2 ?_⟩
  intro μ20 e20
  obtain ⟨p13, p14, p15, p26⟩ := gr_part (ν := ν) (x := ν 26 r)
  rw [p14, h14, show (1 : Int32) = nI 1 from rfl, nI_add] at e20
  subst e20
  have h99 : (zp (g_grey ν (ν 26 r)) 19 14 (nI (r + 1))) 19 14 = nI (r + 1) := rfl
  rw [h99]
  refine ⟨fun h => ?_, fun h => ?_⟩
  · have eg : g_roots ν r = zp (g_grey ν (ν 26 r)) 19 14 (nI (r + 1)) := by
      unfold g_roots
      rw [if_neg (fun e => h (by rw [e]; rfl))]
    rw [eg] at k; exact k
  · have eg : g_roots ν r = zp (zp (zp (g_grey ν (ν 26 r)) 19 14 (nI (r + 1))) 19 13 2) 19 15 (-1) := by
      unfold g_roots
      rw [if_pos]
      rw [show (16 : Int32) = nI 16 from rfl, nI_eq (by omega) (by decide)] at h
      omega
    intro μ28 e28 μ29 e29
    subst e28 e29
    rw [eg] at k; exact k
