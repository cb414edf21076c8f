/-! the invariant is kept: ROOTS, MARK -/
theorem JJ.root {ν : zM} {pg e r : Nat} {S T : Nat → Prop} (hJ : JJ ν pg S T e) (hr : r < 16) : ν 26 r = -1 ∨ ∃ t : Nat, ν 26 r = nI t ∧ S t ∧ ob ν t := hJ.2.2.2.2.1.2.1 r hr
theorem J_grey {ν : zM} {pg e : Nat} {S T : Nat → Prop} {x : Int32} (hJ : JJ ν pg S T e) (hp : ν 19 13 = 1 ∨ ν 19 13 = 2) (hx : x = -1 ∨ ∃ t : Nat, x = nI t ∧ S t ∧ ob ν t) : JJ (g_grey ν x) pg S T e := by
  unfold g_grey
  rcases hx with rfl | ⟨t, rfl, hS, ht⟩
  · rw [if_pos rfl]; exact hJ
  · have := ht.1
    rw [if_neg (nI_m1 (by omega)), nN_n (by omega)]; exact J_gr hJ hp hS ht
theorem gr_mark {ν : zM} {t : Nat} (hI : ν 23 t = 0 ∨ ν 23 t = 1) : (g_gr ν t) 23 t = 1 := by
  unfold g_gr
  by_cases h : ν 23 t = 0
  · rw [if_pos h]; show upd (ν 23) t 1 t = 1; exact up_s
  · rw [if_neg h]; exact hI.resolve_left h
/-- greyed is marked -/
theorem grey_mark {ν : zM} {pg t : Nat} (hI : IB ν pg) (ht : t < 4096) : (g_grey ν (nI t)) 23 t = 1 := by
  unfold g_grey
  rw [if_neg (nI_m1 (by omega)), nN_n (by omega)]
  exact gr_mark ((hI.2.2.2.1 t ht).imp id (fun q => q.1))
theorem grey_26 {ν : zM} {x : Int32} : (g_grey ν x) 26 = ν 26 := gr_part.2.2.2
theorem J_roots {ν : zM} {pg e r : Nat} {S T : Nat → Prop} (hJ : JJ ν pg S T e) (h1 : ν 19 13 = 1) (hr : r < 16) (h14 : ν 19 14 = nI r) : JJ (g_roots ν r) pg S T e := by
  have hx := hJ.root hr
  have hJ2 := J_grey hJ (Or.inl h1) hx
  obtain ⟨p13, p14, p15, p26⟩ := gr_part (ν := ν) (x := ν 26 r)
  have hmk : ∀ t : Nat, ν 26 r = nI t → t < 4096 → (g_grey ν (ν 26 r)) 23 t = 1 := fun t q ht => by rw [q]; exact grey_mark hJ.1 ht
  have h15 : ν 19 15 = -1 := by
    rcases hJ.2.2.2.1 with ⟨a, -⟩ | ⟨-, a, -⟩ | ⟨a, -⟩ | ⟨a, -⟩
    · rw [h1] at a; exact absurd a (by decide)
    · exact a
    · rw [h1] at a; exact absurd a (by decide)
    · rw [h1] at a; exact absurd a (by decide)
  generalize hz : g_grey ν (ν 26 r) = ζ at hJ2 p13 p14 p15 p26 hmk
  obtain ⟨hB, hQ, hP, hIS, hG, hT⟩ := hJ2
  obtain ⟨g1, g2, g3, g4, g5, g6, g7⟩ := hG
  have part1 : ζ 19 13 = 1 := by rw [p13, h1]
  have c14 : nN (ζ 19 14) = r := by rw [p14, h14]; exact nN_n (by omega)
  have hnn15 : ∀ a : Nat, a < 4096 → ζ 19 15 ≠ nI a := fun a ha q => by rw [p15, h15] at q; exact nI_m1 (by omega) q.symm
  have c15 : (nI (r + 1)).toNatClampNeg = r + 1 := nI_clamp (by omega)
  unfold g_roots
  rw [hz]
  by_cases e15 : r = 15
  · rw [if_pos e15]
    refine ⟨hB, hQ, ?_, ?_, ⟨g1, g2, g3, g4, fun a ha q => absurd q.symm (nI_m1 (by omega)), fun _ a ha => ?_, fun q => absurd q (show ¬ (2 : Int32) = 3 by decide)⟩, hT⟩
    · obtain ⟨n, q1, q2, q3, q4, q5⟩ := hP
      exact ⟨n, q1, q2, q3, q4, fun q => q.elim (fun z => absurd z (show ¬ (2 : Int32) = 0 by decide)) (fun z => absurd z (show ¬ (2 : Int32) = 3 by decide))⟩
    · exact Or.inr (Or.inr (Or.inl ⟨rfl, by show nI (r + 1) = nI 16; rw [e15], Or.inl rfl⟩))
    · rcases g6 (Or.inl part1) a ha with q | q
      · exact Or.inl q
      · refine prot_step (ν := ζ) (ν' := zp (zp (zp ζ 19 14 (nI (r + 1))) 19 13 2) 19 15 (-1)) (fun u hu hs => ?_) (fun a u i hu w0 hob z1 z2 z3 => Or.inl ⟨w0, hob, z2, z3⟩) (fun a w0 => Or.inl w0) (fun a u i hu w1 w0 hob z1 z2 z3 => ?_) q
        · rcases hs with ⟨-, r', r1, r2, r3⟩ | h | ⟨a, i, ha, h, -⟩
          · right
            rw [c14] at r2
            have : r' = r := by omega
            rw [this, p26] at r3
            exact hmk u r3 hu
          · exact Or.inl (Or.inr (Or.inl h))
          · exfalso
            rw [p15, h15] at h
            exact nI_m1 (by omega) h.symm
        · rw [show (zp (zp (zp ζ 19 14 (nI (r + 1))) 19 13 2) 19 15 (-1)) 23 a = ζ 23 a from rfl, w0] at w1
          exact absurd w1 (by decide)
  · rw [if_neg e15]
    refine ⟨hB, hQ, hP, Or.inr (Or.inl ⟨part1, by rw [← h15, ← p15]; rfl, r + 1, by omega, rfl⟩), ⟨g1, g2, g3, g4, g5, fun _ a ha => ?_, g7⟩, hT⟩
    rcases g6 (Or.inl part1) a ha with q | q
    · exact Or.inl q
    · refine prot_step (ν := ζ) (ν' := zp ζ 19 14 (nI (r + 1))) (fun u hu hs => ?_) (fun a u i hu w0 hob z1 z2 z3 => Or.inl ⟨w0, hob, z2, z3⟩) (fun a w0 => Or.inl w0) (fun a u i hu w1 w0 hob z1 z2 z3 => ?_) q
      · rcases hs with ⟨-, r', r1, r2, r3⟩ | h | h
        · rw [c14] at r2
          by_cases er : r' = r
          · right
            rw [er, p26] at r3
            exact hmk u r3 hu
          · exact Or.inl (Or.inl ⟨part1, r', r1, by show (nI (r + 1)).toNatClampNeg ≤ r'; rw [c15]; omega, r3⟩)
        · exact Or.inl (Or.inr (Or.inl h))
        · exact Or.inl (Or.inr (Or.inr h))
      · rw [show (zp ζ 19 14 (nI (r + 1))) 23 a = ζ 23 a from rfl, w0] at w1
        exact absurd w1 (by decide)
