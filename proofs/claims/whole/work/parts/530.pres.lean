/-! the invariant is kept: the pile's top, SWEEP, the end of a cycle, its beginning -/
/-- SWEEP, whether or not there is a block left -/
def JS (ζ : zM) (pg : Nat) (S T : Nat → Prop) (e pl : Nat) : Prop := IB ζ pg ∧ IQ ζ pg ∧ ζ 19 12 = nI 0 ∧ ζ 19 13 = 3 ∧ ζ 19 14 = nI 16 ∧ ζ 19 15 = -1 ∧ ζ 19 17 = nI pl ∧ pl ≤ 64 * pg ∧ (pl % 64 ≠ 0 → isCl (ζ 21 (pl / 64)) ∧ pl % bs (ζ 21 (pl / 64)) = 0) ∧ (∀ a, a < pl → ζ 23 a = 0) ∧ IG ζ S ∧ IT ζ S T e
theorem J_end {ζ : zM} {pg e pl : Nat} {S T : Nat → Prop} (h : JS ζ pg S T e pl) : JJ (g_end ζ pg) pg S T e := by
  obtain ⟨hB, hQ, h12, h13, h14, h15, h17, hpl, hal, hmk, hG, hT⟩ := h
  have g2 := hB.1.2.1
  have hc : nN (ζ 19 17) = pl := by rw [h17]; exact nN_n (by omega)
  unfold g_end
  cases hb : nbk ζ pl pg with
  | none =>
    rw [if_pos ⟨h13, by rw [hc]; exact hb⟩]
    obtain ⟨g1, gr, g3, g4, g5, g6, g7⟩ := hG
    have hnone : ∀ j, pl / 64 ≤ j → j < pg → ζ 21 j = -1 := fun j j1 j2 => by
      unfold nbk at hb
      cases hq : nbp (ζ 21) (pl / 64) (pg - pl / 64) with
      | none => exact nbp_none _ _ hq j j1 (by omega)
      | some q => rw [hq] at hb; cases hb
    refine ⟨hB, hQ, ⟨0, h12, by omega, fun i hi => by omega, fun i j hi => by omega, fun _ => rfl⟩, Or.inl ⟨rfl, h15, fun a ha => ?_⟩, ⟨g1, gr, g3, g4, g5, fun q => ?_, fun q => absurd q (show ¬ (0 : Int32) = 3 by decide)⟩, hT⟩
    · show ζ 23 a = 0
      by_cases hlt : a < pl
      · exact hmk a hlt
      · rcases hB.2.2.2.1 a ha with q | ⟨-, q⟩
        · exact q
        · obtain ⟨-, a64, ac⟩ := I3.al hB.1 hB.2.1 hB.2.2.1 ha q
          exact absurd (hnone (a / 64) (by omega) (by omega)) (isCl_n ac)
    · exact q.elim (fun z => absurd z (show ¬ (0 : Int32) = 1 by decide)) (fun z => absurd z (show ¬ (0 : Int32) = 2 by decide))
  | some b =>
    rw [if_neg (fun q => by rw [hc, hb] at q; cases q.2)]
    exact ⟨hB, hQ, ⟨0, h12, by omega, fun i hi => by omega, fun i j hi => by omega, fun _ => rfl⟩, Or.inr (Or.inr (Or.inr ⟨h13, h14, h15, pl, h17, hpl, hal, hmk, by rw [hb]; exact fun q => by cases q⟩)), hG, hT⟩
theorem J_toSweep {ν : zM} {pg e : Nat} {S T : Nat → Prop} (hJ : JJ ν pg S T e) (h2 : ν 19 13 = 2) (hn : ν 19 12 = nI 0) (hh : ν 19 15 = -1 ∨ ∃ a h : Nat, a < 4096 ∧ ν 19 15 = nI a ∧ ν 19 16 = nI h ∧ h < 2147483648 ∧ ptn ν a ≤ h) : JS (g_toSweep ν) pg S T e 0 := by
  obtain ⟨hB, hQ, hP, hIS, ⟨g1, g2, g3, g4, g5, g6, g7⟩, hT⟩ := hJ
  have h14 : ν 19 14 = nI 16 := by
    rcases hIS with ⟨a1, -⟩ | ⟨a1, -⟩ | ⟨-, a, -⟩ | ⟨a1, -⟩
    · rw [h2] at a1; exact absurd a1 (by decide)
    · rw [h2] at a1; exact absurd a1 (by decide)
    · exact a
    · rw [h2] at a1; exact absurd a1 (by decide)
  have noseed : ∀ t, ¬ seed ν t := fun t q => by
    rcases q with ⟨q, -⟩ | ⟨k, a, i, q, -⟩ | ⟨a, i, q0, q1, q2, q3, -⟩
    · rw [h2] at q; exact absurd q (by decide)
    · rw [hn, nN_n (by omega)] at q; omega
    · rcases hh with w | ⟨a', h, w0, w1, w2, wb, w3⟩
      · rw [w] at q1; exact nI_m1 (by omega) q1.symm
      · rw [w1, nI_eq (by omega) (by omega)] at q1
        subst q1
        rw [w2, nN_n wb] at q2
        omega
  have allm : ∀ a, S a → ν 23 a = 1 := fun a ha => by
    rcases g6 (Or.inr h2) a ha with q | q
    · exact q
    · exact absurd (q (fun _ => False) (fun t _ z => noseed t z) (fun _ _ _ _ z _ _ _ _ _ => z)) id
  refine ⟨hB, hQ, hn, rfl, h14, rfl, rfl, by omega, fun q => absurd rfl q, fun a ha => by omega, ⟨g1, g2, g3, g4, fun a ha q => absurd q.symm (nI_m1 (by omega)), fun q => ?_, fun _ a pl ha _ _ _ => allm a ha⟩, hT⟩
  exact q.elim (fun z => absurd z (show ¬ (3 : Int32) = 1 by decide)) (fun z => absurd z (show ¬ (3 : Int32) = 2 by decide))
theorem J_pop {ν : zM} {pg e n : Nat} {S T : Nat → Prop} (hJ : JJ ν pg S T e) (h2 : ν 19 13 = 2) (hn : ν 19 12 = nI (n + 1)) (hn2 : n + 1 ≤ 1024) (hh : ν 19 15 = -1 ∨ ∃ a h : Nat, a < 4096 ∧ ν 19 15 = nI a ∧ ν 19 16 = nI h ∧ h < 2147483648 ∧ ptn ν a ≤ h) : JJ (g_pop ν n) pg S T e := by
  obtain ⟨hB, hQ, ⟨n', e1, le1, p1, p2, p3⟩, hIS, ⟨g1, g2, g3, g4, g5, g6, g7⟩, hT⟩ := hJ
  have hnn : n' = n + 1 := by rw [hn, nI_eq (by omega) (by omega)] at e1; exact e1.symm
  subst hnn
  obtain ⟨b, q1, q2, q3⟩ := p1 n (by omega)
  have b1 := q2.1
  have hSb : S b := g4 n b (by rw [hn, nN_n (by omega)]; omega) q1 b1
  have h14 : ν 19 14 = nI 16 := by
    rcases hIS with ⟨a1, -⟩ | ⟨a1, -⟩ | ⟨-, a, -⟩ | ⟨a1, -⟩
    · rw [h2] at a1; exact absurd a1 (by decide)
    · rw [h2] at a1; exact absurd a1 (by decide)
    · exact a
    · rw [h2] at a1; exact absurd a1 (by decide)
  have cn : nN (ν 19 12) = n + 1 := by rw [hn]; exact nN_n (by omega)
  have cn2 : (nI n).toNatClampNeg = n := nI_clamp (by omega)
  refine ⟨hB, hQ, ⟨n, rfl, by omega, fun i hi => p1 i (by omega), fun i j hi hj => p2 i j (by omega) (by omega), fun q => ?_⟩, Or.inr (Or.inr (Or.inl ⟨h2, h14, Or.inr ⟨b, 0, q1, q2, q3, rfl, Nat.zero_le _⟩⟩)), ⟨g1, g2, g3, fun k a hk q ha => ?_, fun a ha q => ?_, fun _ x hx => ?_, fun q => ?_⟩, hT⟩
  · have q : ν 19 13 = 0 ∨ ν 19 13 = 3 := q
    rw [h2] at q
    rcases q with q | q <;> exact absurd q (by decide)
  · have hk : k < (nI n).toNatClampNeg := hk
    rw [cn2] at hk
    exact g4 k a (by omega) q ha
  · have q : ν 27 n = nI a := q
    rw [q1, nI_eq (by omega) (by omega)] at q
    rw [← q]; exact hSb
  · rcases g6 (Or.inr h2) x hx with q | q
    · exact Or.inl q
    · refine prot_step (ν := ν) (ν' := g_pop ν n) (fun u hu hs => Or.inl ?_) (fun a u i hu w0 hob z1 z2 z3 => Or.inl ⟨w0, hob, z2, z3⟩) (fun a w0 => Or.inl w0) (fun a u i hu w1 w0 hob z1 z2 z3 => ?_) q
      · rcases hs with ⟨q, -⟩ | ⟨k, a, i, k1, ka, k2, k3, k4, k5⟩ | ⟨a, i, q0, q1', q2', q3', -⟩
        · rw [h2] at q; exact absurd q (by decide)
        · rw [cn] at k1
          by_cases ek : k = n
          · rw [ek, q1, nI_eq (by omega) (by omega)] at k2
            subst k2
            exact Or.inr (Or.inr ⟨b, i, b1, q1, by show (0 : Int32).toNatClampNeg < i; rw [show (0 : Int32).toNatClampNeg = 0 from by decide]; omega, k4, k5⟩)
          · exact Or.inr (Or.inl ⟨k, a, i, by show k < (nI n).toNatClampNeg; rw [cn2]; omega, ka, k2, k3, k4, k5⟩)
        · exfalso
          rcases hh with w | ⟨a', h, w0, w1, w2, wb, w3⟩
          · rw [w] at q1'; exact nI_m1 (by omega) q1'.symm
          · rw [w1, nI_eq (by omega) (by omega)] at q1'
            subst q1'
            rw [w2, nN_n wb] at q2'
            omega
      · rw [show (g_pop ν n) 23 a = ν 23 a from rfl, w0] at w1
        exact absurd w1 (by decide)
  · have q : ν 19 13 = 3 := q
    rw [h2] at q; exact absurd q (by decide)
/-- the whole step of MARK -/
theorem J_mark {ν : zM} {pg e : Nat} {S T : Nat → Prop} (hJ : JJ ν pg S T e) (h2 : ν 19 13 = 2) : JJ (g_end (g_mark ν) pg) pg S T e := by
  obtain ⟨n, hn, hpb, hnn, -⟩ := IP.pb hJ.1 hJ.2.2.1
  have hle := hpb.1
  have tail : (ν 19 15 = -1 ∨ ∃ a h : Nat, a < 4096 ∧ ν 19 15 = nI a ∧ ν 19 16 = nI h ∧ h < 2147483648 ∧ ptn ν a ≤ h) → JJ (g_end (g_mk ν n) pg) pg S T e := by
    intro hh
    unfold g_mk
    by_cases h0 : n = 0
    · rw [if_pos h0]
      exact J_end (J_toSweep hJ h2 (by rw [hn, h0]) hh)
    · rw [if_neg h0, g_end_id (by show ν 19 13 ≠ 3; rw [h2]; decide)]
      exact J_pop hJ h2 (n := n - 1) (by rw [hn]; congr 1; omega) (by omega) hh
  rcases hJ.hand h2 with hh | ⟨a, h, h15, ha, hS, hm, h16, hl, hw⟩
  · have eg : g_mark ν = g_mk ν n := by unfold g_mark; rw [if_neg (fun q => q.1 hh), hnn]
    rw [eg]; exact tail (Or.inl hh)
  · have ha1 := ha.1
    have p31 := (ob_ptn hJ.1 ha).2.1
    have e1 : nN (ν 19 15) = a := by rw [h15]; exact nN_n (by omega)
    have e2 : nN (ν 19 16) = h := by rw [h16]; exact nN_n (by omega)
    by_cases hlt : h < ptn ν a
    · have eg : g_mark ν = g_look ν a h := by unfold g_mark; rw [e1, e2, if_pos ⟨by rw [h15]; exact nI_m1 (by omega), hlt⟩]
      rw [eg, g_end_id (by rw [look_part, h2]; decide)]
      exact J_look hJ h2 h15 ha hS h16 hlt
    · have eg : g_mark ν = g_mk ν n := by unfold g_mark; rw [e1, e2, if_neg (fun q => hlt q.2), hnn]
      rw [eg]; exact tail (Or.inr ⟨a, h, ha1, h15, h16, by omega, by omega⟩)
/-- a cycle begins: what must not be lost is what can be come to -/
def rch (ν : zM) (x : Nat) : Prop := ∀ Y : Nat → Prop, (∀ r t, r < 16 → t < 4096 → ν 26 r = nI t → Y t) → (∀ a i t, t < 4096 → Y a → ob ν a → 1 ≤ i → i ≤ ptn ν a → ν 20 (a + i) = nI (t + 1) → Y t) → Y x
theorem rch_S {ν : zM} {S : Nat → Prop} (h1 : ∀ r, r < 16 → ν 26 r = -1 ∨ ∃ t : Nat, ν 26 r = nI t ∧ S t ∧ ob ν t) (h2 : clo ν S) {x : Nat} (h : rch ν x) : S x := by
  refine h S (fun r t hr ht q => ?_) (fun a i t ht ha hob i1 i2 q => ?_)
  · rcases h1 r hr with w | ⟨t', w1, w2, w3⟩
    · rw [w] at q; exact absurd q.symm (nI_m1 (by omega))
    · have := w3.1
      rw [w1, nI_eq (by omega) (by omega)] at q
      rw [← q]; exact w2
  · rcases h2 a ha hob i i1 i2 with w | ⟨t', w1, w2, w3, -⟩
    · rw [w] at q; exact absurd q.symm (nI_nz (by omega))
    · rw [w1, nI_eq (by omega) (by omega)] at q
      have : t = t' := by omega
      rw [this]; exact w2
theorem rch_r {ν : zM} {r t : Nat} (hr : r < 16) (ht : t < 4096) (h : ν 26 r = nI t) : rch ν t := fun Y y1 _ => y1 r t hr ht h
theorem rch_p {ν : zM} {a i t : Nat} (ha : rch ν a) (hob : ob ν a) (i1 : 1 ≤ i) (i2 : i ≤ ptn ν a) (ht : t < 4096) (h : ν 20 (a + i) = nI (t + 1)) : rch ν t := fun Y y1 y2 => y2 a i t ht (ha Y y1 y2) hob i1 i2 h
theorem J_begin {ν : zM} {pg e : Nat} {S T : Nat → Prop} (hJ : JJ ν pg S T e) (h0 : ν 19 13 = 0) : ∃ S' T' : Nat → Prop, JJ (g_begin ν) pg S' T' e := by
  obtain ⟨hB, hQ, hP, hIS, ⟨g1, g2, g3, g4, g5, g6, g7⟩, ⟨t1, t2, t3⟩⟩ := hJ
  have hmk : ∀ a, a < 4096 → ν 23 a = 0 := by
    rcases hIS with ⟨-, -, a⟩ | ⟨a1, -⟩ | ⟨a1, -⟩ | ⟨a1, -⟩
    · exact a
    · rw [h0] at a1; exact absurd a1 (by decide)
    · rw [h0] at a1; exact absurd a1 (by decide)
    · rw [h0] at a1; exact absurd a1 (by decide)
  have toS : ∀ x, rch ν x → S x := fun x h => rch_S g2 g3 h
  have z12 : (g_begin ν) 19 12 = nI 0 := rfl
  have c0 : (nI 0).toNatClampNeg = 0 := by decide
  refine ⟨fun x => rch ν x, fun x => T x ∧ rch ν x, hB, hQ, ⟨0, rfl, by omega, fun i hi => by omega, fun i j hi => by omega, fun _ => rfl⟩, Or.inr (Or.inl ⟨rfl, rfl, 0, by omega, rfl⟩), ⟨fun a ha => g1 a (toS a ha), fun r hr => ?_, fun a ha hob i i1 i2 => ?_, fun k a hk => ?_, fun a ha q => absurd q.symm (nI_m1 (by omega)), fun _ x hx => Or.inr ?_, fun q => absurd q (show ¬ (1 : Int32) = 3 by decide)⟩, ⟨fun a ha => ha.2, fun r hr he => ?_, fun a ha hob i i1 i2 => ?_⟩⟩
  · rcases g2 r hr with w | ⟨t, w1, w2, w3⟩
    · exact Or.inl w
    · exact Or.inr ⟨t, w1, rch_r hr w3.1 w1, w3⟩
  · have hob' : ob ν a := hob
    rcases g3 a (toS a ha) hob' i i1 i2 with w | ⟨t, w1, w2, w3, w4⟩
    · exact Or.inl w
    · exact Or.inr ⟨t, w1, rch_p ha hob' i1 i2 w3 w1, w3, w4⟩
  · have hk : k < (nI 0).toNatClampNeg := hk
    rw [c0] at hk
    omega
  · intro Y y1 y2
    refine hx Y (fun r t hr ht q => y1 t ht (Or.inl ⟨rfl, r, hr, by show (0 : Int32).toNatClampNeg ≤ r; rw [show (0 : Int32).toNatClampNeg = 0 from by decide]; omega, q⟩)) (fun a i t ht ha hob i1 i2 q => y2 a i t ht ha (hmk a hob.1) hob i1 i2 q)
  · rcases t2 r hr he with w | ⟨t, w1, w2, w3⟩
    · exact Or.inl w
    · exact Or.inr ⟨t, w1, ⟨w2, rch_r hr w3 w1⟩, w3⟩
  · have hob' : ob ν a := hob
    rcases t3 a ha.1 hob' i i1 i2 with w | ⟨t, w1, w2, w3⟩
    · exact Or.inl w
    · exact Or.inr ⟨t, w1, ⟨w2, rch_p ha.2 hob' i1 i2 w3 w1⟩, w3⟩
