/-! to grey, before a change, a root gets a value, a cycle begins -/
def RA (ν μ : zM) (pg : Nat) : Prop := RB ν μ pg ∧ RP ν μ ∧ RO ν μ ∧ RS ν μ ∧ RK ν μ ∧ RN μ (nN (ν 19 22) + nN (ν 19 23))
def PB (ν : zM) (n : Nat) : Prop := n ≤ 1024 ∧ ∀ t, ob ν t → ν 23 t = 0 → n < 1024
def g_gr (ν : zM) (t : Nat) : zM := if ν 23 t = 0 then zp (zp (zp ν 23 t 1) 27 (nN (ν 19 12)) (nI t)) 19 12 (ν 19 12 + 1) else ν
def g_grey (ν : zM) (x : Int32) : zM := if x = -1 then ν else g_gr ν (nN x)
def g_before (ν : zM) (x : Int32) : zM := if ν 19 13 = 1 ∨ ν 19 13 = 2 then g_grey ν x else ν
def g_setRoot (ν : zM) (r : Nat) (x : Int32) : zM := zp (g_before ν (ν 26 r)) 26 r x
def g_begin (ν : zM) : zM := zp (zp (zp (zp (zp ν 19 13 1) 19 14 0) 19 12 0) 19 15 (-1)) 19 18 (ν 19 1)
theorem nI_m1 {t : Nat} (h : t < 2147483648) : nI t ≠ -1 := by
  intro e
  have h2 := congrArg Int32.toInt e
  rw [ti_n h, ti_m1] at h2
  omega
theorem r_mark {f g : Nat → Int32} {t : Nat} {b : Int32} (h : ∀ s, s < 1024 → f s = g (4 * s)) (ht : t % 4 = 0) : ∀ s, s < 1024 → upd f (t / 4) b s = upd g t b (4 * s) := by
  intro s hs
  by_cases e : s = t / 4
  · rw [e, up_s, show 4 * (t / 4) = t by omega, up_s]
  · rw [up_n e, up_n (by omega)]; exact h s hs
theorem m_gr {ν : zM} {t n : Nat} {K : zM → Prop} (ht : t < 4096) (hn : ν 19 12 = nI n) (hn2 : n < 1100) (k : K (g_gr ν t)) : f_Mo_grey ν (nI t) K := by
  have hc : (nI t).toNatClampNeg = t := nI_clamp (by omega)
  unfold f_Mo_grey
  refine br_f (nI_m1 (by omega)) ⟨vp_in_nI ht (by decide), ?_⟩
  rw [hc]
  unfold g_gr at k
  refine ⟨fun h => ?_, fun h => ?_⟩
  · rw [if_neg h] at k; exact k
  · rw [if_pos h] at k
    refine ⟨vp_in_nI ht (by decide), ?_⟩
    intro μ5 e5
    rw [nz1] at e5
    subst e5
    refine ⟨by show vp_in (ν 19 12) 1100; rw [hn]; exact vp_in_nI hn2 (by decide), ?_⟩
    intro μ7 e7 μ8 e8
    subst e7
    subst e8
    exact k
theorem m_grey {ν : zM} {x : Int32} {n : Nat} {K : zM → Prop} (hx : x = -1 ∨ ∃ t : Nat, x = nI t ∧ t < 4096) (hn : ν 19 12 = nI n) (hn2 : n < 1100) (k : K (g_grey ν x)) : f_Mo_grey ν x K := by
  unfold g_grey at k
  rcases hx with rfl | ⟨t, rfl, ht⟩
  · rw [if_pos rfl] at k
    unfold f_Mo_grey
    exact br_t rfl k
  · rw [if_neg (nI_m1 (by omega)), nN_n (by omega)] at k
    exact m_gr ht hn hn2 k
theorem m_before {ν : zM} {x : Int32} {n : Nat} {K : zM → Prop} (hx : x = -1 ∨ ∃ t : Nat, x = nI t ∧ t < 4096) (hn : ν 19 12 = nI n) (hn2 : n < 1100) (k : K (g_before ν x)) : f_Mo_before ν x K := by
  unfold g_before at k
  unfold f_Mo_before
  refine ⟨fun h => ?_, fun h => ⟨fun h2 => ?_, fun h2 => ?_⟩⟩
  · rw [if_pos (Or.inl h)] at k; exact m_grey hx hn hn2 k
  · rw [if_neg (fun q => q.elim h h2)] at k; exact k
  · rw [if_pos (Or.inr h2)] at k; exact m_grey hx hn hn2 k
theorem m_setRoot {ν : zM} {r n : Nat} {x : Int32} {K : zM → Prop} (hr : r < 16) (hx : ν 26 r = -1 ∨ ∃ t : Nat, ν 26 r = nI t ∧ t < 4096) (hn : ν 19 12 = nI n) (hn2 : n < 1100) (k : K (g_setRoot ν r x)) : f_Mo_setRoot ν (nI r) x K := by
  have hc : (nI r).toNatClampNeg = r := nI_clamp (by omega)
  unfold f_Mo_setRoot
  refine ⟨vp_in_nI hr (by decide), ?_⟩
  rw [hc]
  refine m_before hx hn hn2 ⟨vp_in_nI hr (by decide), ?_⟩
  exact nm_e k
theorem m_begin {ν : zM} {K : zM → Prop} (k : K (g_begin ν)) : f_Mo_beginCycle ν K := by
  unfold f_Mo_beginCycle
  intro μ1 e1 μ2 e2 μ3 e3 μ4 e4 μ5 e5
  subst e1 e2 e3 e4 e5
  exact k
theorem k_gr {ν μ : zM} {pg t n : Nat} {K : zM → Prop} (hI : IB ν pg) (hR : RA ν μ pg) (ht : ob ν t) (hn : ν 19 12 = nI n) (hn2 : PB ν n) (k : ∀ μ' : zM, RA (g_gr ν t) μ' pg → μ' 1 8 = μ 1 8 → K μ') : f_Co_grey μ (nI t) K := by
  obtain ⟨⟨b1, b2, b3, b4, b5, b6, b7, b8, b9, b10, b11⟩, hP, hO, hS, hK, hN⟩ := hR
  obtain ⟨h1, h2, h3, h4, h5, h6⟩ := hI
  obtain ⟨a4, a64, ac⟩ := I3.al h1 h2 h3 ht.1 ht.nz
  have t4 : 4 * (t / 4) = t := by omega
  have t1 := ht.1
  have hp : pg ≤ 64 := h1.2.1
  have em : μ 5 (t / 4) = ν 23 t := by rw [b5 _ (by omega), t4]
  have ek : μ 4 (t / 4) = ν 22 t := by rw [b4 _ (by omega), t4]
  have hs : μ 12 1 = nI n := by rw [hP.1, hn]
  have hn3 := hn2.1
  unfold f_Co_grey
  refine br_f (nI_m1 (by omega)) ?_
  refine k_marked b1 hp a64 (fun e => ?_) (fun e => ?_)
  · rw [em] at e
    have hn2 : n < 1024 := hn2.2 t ht e
    refine br_t rfl ?_
    refine k_setMark (Or.inr rfl) b1 hp a64 ?_
    refine k_kind (μ := zp μ 5 (t / 4) 1) b1 hp a64 ?_
    have ek' : (zp μ 5 (t / 4) 1) 4 (t / 4) = ν 22 t := ek
    rw [ek']
    refine br_f (by rcases ht.2 with q | q <;> rw [q] <;> decide) ?_
    unfold f_Pi_push_12
    have hs' : (zp μ 5 (t / 4) 1) 12 1 = nI n := hs
    rw [hs']
    refine br_f (nI_pos (by omega)) ?_
    refine br_f (nI_ge hn2 (by decide)) ⟨vp_in_nI hn2 (by decide), ?_⟩
    rw [nI_clamp (by omega)]
    intro μ4 e4 μ5 e5
    subst e4
    subst e5
    refine k _ ?_ rfl
    have eg : g_gr ν t = zp (zp (zp ν 23 t 1) 27 n (nI t)) 19 12 (ν 19 12 + 1) := by
      unfold g_gr
      rw [if_pos e, hn, nN_n (by omega)]
    rw [eg]
    refine ⟨⟨b1, b2, b3, b4, r_mark b5 a4, b6, b7, b8, b9, b10, b11⟩, ⟨?_, ?_⟩, hO, hS, hK, hN⟩
    · show μ 12 1 + 1 = ν 19 12 + 1
      rw [hP.1]
    · intro i hi
      have hi : i < nN (ν 19 12 + 1) := hi
      rw [hn, nI_1, nN_n (by omega)] at hi
      show upd (μ 13) n (nI t) i = upd (ν 27) n (nI t) i
      by_cases e2 : i = n
      · rw [e2, up_s, up_s]
      · rw [up_n e2, up_n e2]
        exact hP.2 i (by rw [hn, nN_n (by omega)]; omega)
  · rw [em] at e
    refine br_f (by decide) ?_
    have eg : g_gr ν t = ν := by unfold g_gr; rw [if_neg e]
    exact k μ (by rw [eg]; exact ⟨⟨b1, b2, b3, b4, b5, b6, b7, b8, b9, b10, b11⟩, hP, hO, hS, hK, hN⟩) rfl
theorem k_grey {ν μ : zM} {pg n : Nat} {x : Int32} {K : zM → Prop} (hI : IB ν pg) (hR : RA ν μ pg) (hx : x = -1 ∨ ∃ t : Nat, x = nI t ∧ ob ν t) (hn : ν 19 12 = nI n) (hn2 : PB ν n) (k : ∀ μ' : zM, RA (g_grey ν x) μ' pg → μ' 1 8 = μ 1 8 → K μ') : f_Co_grey μ x K := by
  unfold g_grey at k
  rcases hx with rfl | ⟨t, rfl, ht⟩
  · rw [if_pos rfl] at k
    unfold f_Co_grey
    exact br_t rfl (k μ hR rfl)
  · rw [if_neg (nI_m1 (by have := ht.1; omega)), nN_n (by have := ht.1; omega)] at k
    exact k_gr hI hR ht hn hn2 k
theorem k_old {ν μ : zM} {pg n : Nat} {x : Int32} {K : zM → Prop} (hI : IB ν pg) (hR : RA ν μ pg) (hx : x = -1 ∨ ∃ t : Nat, x = nI t ∧ ob ν t) (hn : ν 19 12 = nI n) (hn2 : PB ν n) (k : ∀ μ' : zM, RA (g_before ν x) μ' pg → μ' 1 8 = μ 1 8 → K μ') : f_Co_greyOld μ x K := by
  unfold g_before at k
  unfold f_Co_greyOld
  have hp : μ 1 7 = ν 19 13 := hR.2.2.2.1.2.2.2.1
  rw [hp]
  refine ⟨fun h => ?_, fun h => ⟨fun h2 => ?_, fun h2 => ?_⟩⟩
  · rw [if_pos (Or.inl h)] at k; exact k_grey hI hR hx hn hn2 k
  · rw [if_neg (fun q => q.elim h h2)] at k; exact k μ hR rfl
  · rw [if_pos (Or.inr h2)] at k; exact k_grey hI hR hx hn hn2 k
theorem k_isRoot {μ : zM} {r : Nat} {K : Int32 → zM → Prop} (hr : r < 16) (k : K 1 μ) : f_Bh_isRoot μ (nI r) K := by
  unfold f_Bh_isRoot
  exact br_f (nI_pos (by omega)) (br_f (nI_ge hr (by decide)) k)
theorem k_isRootA {μ : zM} {x : Int32} {K : Int32 → zM → Prop} (k1 : ∀ r : Nat, r < 16 → x = nI r → K 1 μ) (k0 : (x.toInt < 0 ∨ 16 ≤ x.toInt) → K 0 μ) : f_Bh_isRoot μ x K := by
  unfold f_Bh_isRoot
  refine bl (fun h => k0 (Or.inl (by rw [ti_0] at h; exact h))) (fun h => bg (fun h2 => k0 (Or.inr (by rw [show (16 : Int32).toInt = 16 by decide] at h2; exact h2))) (fun h2 => ?_))
  rw [ti_0] at h
  rw [show (16 : Int32).toInt = 16 by decide] at h2
  exact k1 x.toInt.toNat (by omega) (ti_of (by omega))
theorem m_isRootA {μ : zM} {x : Int32} {K : Int32 → zM → Prop} (k1 : ∀ r : Nat, r < 16 → x = nI r → K 1 μ) (k0 : (x.toInt < 0 ∨ 16 ≤ x.toInt) → K 0 μ) : f_Mo_isRoot μ x K := k_isRootA k1 k0
theorem k_setRoot {ν μ : zM} {pg r n : Nat} {x : Int32} {K : zM → Prop} (hI : IB ν pg) (hR : RA ν μ pg) (hr : r < 16) (hx : ν 26 r = -1 ∨ ∃ t : Nat, ν 26 r = nI t ∧ ob ν t) (hn : ν 19 12 = nI n) (hn2 : PB ν n) (k : ∀ μ' : zM, RA (g_setRoot ν r x) μ' pg → μ' 1 8 = μ 1 8 → K μ') : f_Bh_setRoot μ (nI r) x K := by
  have hc : (nI r).toNatClampNeg = r := nI_clamp (by omega)
  unfold f_Bh_setRoot
  refine k_isRoot hr (br_f (by decide) ⟨vp_in_nI hr (by decide), ?_⟩)
  rw [hc, hR.2.2.1 r hr]
  refine k_old hI hR hx hn hn2 (fun μ' hR' h8 => ⟨vp_in_nI hr (by decide), ?_⟩)
  intro μ7 e7
  subst e7
  obtain ⟨hB, hP, hO, hS, hK, hN⟩ := hR'
  refine k _ ⟨hB, hP, ?_, hS, hK, hN⟩ h8
  intro r' hr'
  show upd (μ' 14) r x r' = upd (g_before ν (ν 26 r) 26) r x r'
  by_cases e : r' = r
  · rw [e, up_s, up_s]
  · rw [up_n e, up_n e]; exact hO r' hr'
