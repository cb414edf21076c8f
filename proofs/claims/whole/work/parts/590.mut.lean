/-! the invariant is kept: a root or a word gets a value -/
theorem J_root {ζ : zM} {pg e r : Nat} {S T : Nat → Prop} {x : Int32} (hJ : JJ ζ pg S T e) (hr : r < 16) (hx : x = -1 ∨ ∃ t : Nat, x = nI t ∧ S t ∧ ob ζ t ∧ (r ≠ e → T t)) (ho : ζ 19 13 = 1 ∨ ζ 19 13 = 2 → ∀ t, t < 4096 → ζ 26 r = nI t → ζ 23 t = 1) : JJ (zp ζ 26 r x) pg S T e := by
  obtain ⟨hB, hQ, hP, hIS, ⟨g1, g2, g3, g4, g5, g6, g7⟩, ⟨t1, t2, t3⟩⟩ := hJ
  refine ⟨hB, hQ, hP, hIS, ⟨g1, fun r' hr' => ?_, g3, g4, g5, fun hp a ha => ?_, g7⟩, ⟨t1, fun r' hr' he => ?_, t3⟩⟩
  · show upd (ζ 26) r x r' = -1 ∨ ∃ t : Nat, upd (ζ 26) r x r' = nI t ∧ S t ∧ ob ζ t
    by_cases er : r' = r
    · rw [er, up_s]
      exact hx.imp id (fun ⟨t, q1, q2, q3, _⟩ => ⟨t, q1, q2, q3⟩)
    · rw [up_n er]; exact g2 r' hr'
  · have hp : ζ 19 13 = 1 ∨ ζ 19 13 = 2 := hp
    rcases g6 hp a ha with q | q
    · exact Or.inl q
    · refine prot_step (ν := ζ) (ν' := zp ζ 26 r x) (fun u hu hs => ?_) (fun a u i hu w0 hob z1 z2 z3 => Or.inl ⟨w0, hob, z2, z3⟩) (fun a w0 => Or.inl w0) (fun a u i hu w1 w0 hob z1 z2 z3 => ?_) q
      · rcases hs with ⟨s1, r', s2, s3, s4⟩ | s | s
        · by_cases er : r' = r
          · right
            rw [er] at s4
            exact ho hp u hu s4
          · exact Or.inl (Or.inl ⟨s1, r', s2, s3, by show upd (ζ 26) r x r' = nI u; rw [up_n er]; exact s4⟩)
        · exact Or.inl (Or.inr (Or.inl s))
        · exact Or.inl (Or.inr (Or.inr s))
      · rw [show (zp ζ 26 r x) 23 a = ζ 23 a from rfl, w0] at w1
        exact absurd w1 (by decide)
  · show upd (ζ 26) r x r' = -1 ∨ ∃ t : Nat, upd (ζ 26) r x r' = nI t ∧ T t ∧ t < 4096
    by_cases er : r' = r
    · rw [er, up_s]
      exact hx.imp id (fun ⟨t, q1, q2, q3, q4⟩ => ⟨t, q1, q4 (by rw [← er]; exact he), q3.1⟩)
    · rw [up_n er]; exact t2 r' hr' he
theorem bef_keep {ν : zM} {x : Int32} : (g_before ν x) 19 13 = ν 19 13 ∧ (g_before ν x) 26 = ν 26 ∧ (g_before ν x) 22 = ν 22 ∧ (g_before ν x) 20 = ν 20 ∧ (g_before ν x) 24 = ν 24 ∧ (g_before ν x) 25 = ν 25 ∧ (g_before ν x) 21 = ν 21 ∧ (g_before ν x) 19 18 = ν 19 18 ∧ (g_before ν x) 19 22 = ν 19 22 ∧ (g_before ν x) 19 23 = ν 19 23 ∧ (g_before ν x) 19 0 = ν 19 0 := by
  unfold g_before g_grey g_gr
  split
  · split
    · exact ⟨rfl, rfl, rfl, rfl, rfl, rfl, rfl, rfl, rfl, rfl, rfl⟩
    · split <;> exact ⟨rfl, rfl, rfl, rfl, rfl, rfl, rfl, rfl, rfl, rfl, rfl⟩
  · exact ⟨rfl, rfl, rfl, rfl, rfl, rfl, rfl, rfl, rfl, rfl, rfl⟩
theorem J_before {ν : zM} {pg e : Nat} {S T : Nat → Prop} {x : Int32} (hJ : JJ ν pg S T e) (hx : x = -1 ∨ ∃ t : Nat, x = nI t ∧ S t ∧ ob ν t) : JJ (g_before ν x) pg S T e ∧ (ν 19 13 = 1 ∨ ν 19 13 = 2 → ∀ t, t < 4096 → x = nI t → (g_before ν x) 23 t = 1) := by
  unfold g_before
  by_cases hp : ν 19 13 = 1 ∨ ν 19 13 = 2
  · rw [if_pos hp]
    exact ⟨J_grey hJ hp hx, fun _ t ht q => by rw [q]; exact grey_mark hJ.1 ht⟩
  · rw [if_neg hp]
    exact ⟨hJ, fun q => absurd q hp⟩
theorem ob_c {ν ν' : zM} {t : Nat} (h : ν' 22 = ν 22) (q : ob ν t) : ob ν' t := by
  unfold ob at q ⊢
  rw [h]; exact q
theorem J_setRoot {ν : zM} {pg e r : Nat} {S T : Nat → Prop} {x : Int32} (hJ : JJ ν pg S T e) (hr : r < 16) (hx : x = -1 ∨ ∃ t : Nat, x = nI t ∧ S t ∧ ob ν t ∧ (r ≠ e → T t)) : JJ (g_setRoot ν r x) pg S T e := by
  obtain ⟨h1, h2⟩ := J_before hJ (hJ.root hr)
  obtain ⟨k13, k26, k22, -⟩ := bef_keep (ν := ν) (x := ν 26 r)
  unfold g_setRoot
  refine J_root h1 hr (hx.imp id (fun ⟨t, q1, q2, q3, q4⟩ => ⟨t, q1, q2, ob_c k22 q3, q4⟩)) (fun hp t ht q => ?_)
  rw [k13] at hp
  rw [k26] at q
  exact h2 hp t ht q
theorem J_wr {ζ : zM} {pg e w b : Nat} {S T : Nat → Prop} {v : Int32} (hJ : JJ ζ pg S T e) (hb : b < 4096) (hk : ζ 22 b ≠ 0) (hb1 : b ≤ w) (hb2 : w < b + bs (ζ 21 (b / 64)))
    (hS : ∀ a i, S a → ob ζ a → 1 ≤ i → i ≤ ptn ζ a → a + i = w → v = 0 ∨ ∃ t : Nat, v = nI (t + 1) ∧ S t ∧ t < 4096 ∧ (ζ 22 a = 1 → ob ζ t) ∧ (ζ 22 a = 2 → ζ 22 t = 3))
    (hT : ∀ a i, T a → ob ζ a → 1 ≤ i → i ≤ ptn ζ a → a + i = w → (v = 0 ∧ ζ 22 a ≠ 2) ∨ ∃ t : Nat, v = nI (t + 1) ∧ T t ∧ t < 4096)
    (hO : ζ 19 13 = 1 ∨ ζ 19 13 = 2 → ∀ a i u, ob ζ a → 1 ≤ i → i ≤ ptn ζ a → a + i = w → u < 4096 → ζ 20 w = nI (u + 1) → ζ 23 u = 1) : JJ (zp ζ 20 w v) pg S T e := by
  obtain ⟨⟨i1, i2, i3, i4, i5, i6⟩, hQ, hP, hIS, ⟨g1, g2, g3, g4, g5, g6, g7⟩, ⟨t1, t2, t3⟩⟩ := hJ
  refine ⟨⟨i1, i2, i3, i4, fun w' hw' q => ?_, i6⟩, hQ, hP, hIS, ⟨g1, g2, fun a ha hob i z1 z2 => ?_, g4, g5, fun hp x hx => ?_, g7⟩, ⟨t1, t2, fun a ha hob i z1 z2 => ?_⟩⟩
  · have q : upd (ζ 20) w v w' ≠ 0 := q
    by_cases ew : w' = w
    · rw [ew]; exact ⟨b, hb, hk, hb1, hb2⟩
    · rw [up_n ew] at q; exact i5 w' hw' q
  · show upd (ζ 20) w v (a + i) = 0 ∨ ∃ t : Nat, upd (ζ 20) w v (a + i) = nI (t + 1) ∧ S t ∧ t < 4096 ∧ (ζ 22 a = 1 → ob ζ t) ∧ (ζ 22 a = 2 → ζ 22 t = 3)
    by_cases ew : a + i = w
    · rw [ew, up_s]; exact hS a i ha hob z1 z2 ew
    · rw [up_n ew]; exact g3 a ha hob i z1 z2
  · have hp : ζ 19 13 = 1 ∨ ζ 19 13 = 2 := hp
    rcases g6 hp x hx with q | q
    · exact Or.inl q
    · have cov : ∀ a i u, ob ζ a → 1 ≤ i → i ≤ ptn ζ a → u < 4096 → ζ 20 (a + i) = nI (u + 1) → (zp ζ 20 w v) 20 (a + i) = nI (u + 1) ∨ ζ 23 u = 1 := fun a i u hob z1 z2 hu z3 => by
        by_cases ew : a + i = w
        · right
          rw [ew] at z3
          exact hO hp a i u hob z1 z2 ew hu z3
        · left
          show upd (ζ 20) w v (a + i) = nI (u + 1)
          rw [up_n ew]; exact z3
      refine prot_step (ν := ζ) (ν' := zp ζ 20 w v) (fun u hu hs => ?_) (fun a u i hu w0 hob z1 z2 z3 => ?_) (fun a w0 => Or.inl w0) (fun a u i hu w1 w0 hob z1 z2 z3 => ?_) q
      · rcases hs with s | ⟨k, a, i, s1, s2, s3, s4, s5, s6⟩ | ⟨a, i, s1, s2, s3, s4, s5⟩
        · exact Or.inl (Or.inl s)
        · obtain ⟨n, n1, n2, n3, -⟩ := hP
          obtain ⟨a', y1, y2, y3⟩ := n3 k (by rw [n1, nN_n (by omega)] at s1; exact s1)
          have ea : a' = a := by
            have := y2.1
            rw [y1, nI_eq (by omega) (by omega)] at s3; exact s3
          rw [ea] at y2
          rcases cov a i u y2 s4 s5 hu s6 with z | z
          · exact Or.inl (Or.inr (Or.inl ⟨k, a, i, s1, s2, s3, s4, s5, z⟩))
          · exact Or.inr z
        · have hob : ob ζ a := by
            rcases hIS with ⟨-, y, -⟩ | ⟨-, y, -⟩ | ⟨-, -, y⟩ | ⟨-, -, y, -⟩
            · rw [y] at s2; exact absurd s2.symm (nI_m1 (by omega))
            · rw [y] at s2; exact absurd s2.symm (nI_m1 (by omega))
            · rcases y with y | ⟨a', h', y1, y2, -⟩
              · rw [y] at s2; exact absurd s2.symm (nI_m1 (by omega))
              · have := y2.1
                rw [y1, nI_eq (by omega) (by omega)] at s2
                rw [← s2]; exact y2
            · rw [y] at s2; exact absurd s2.symm (nI_m1 (by omega))
          rcases cov a i u hob (by omega) s4 hu s5 with z | z
          · exact Or.inl (Or.inr (Or.inr ⟨a, i, s1, s2, s3, s4, z⟩))
          · exact Or.inr z
      · rcases cov a i u hob z1 z2 hu z3 with z | z
        · exact Or.inl ⟨w0, hob, z2, z⟩
        · exact Or.inr (Or.inr z)
      · rw [show (zp ζ 20 w v) 23 a = ζ 23 a from rfl, w0] at w1
        exact absurd w1 (by decide)
  · show (upd (ζ 20) w v (a + i) = 0 ∧ ζ 22 a ≠ 2) ∨ ∃ t : Nat, upd (ζ 20) w v (a + i) = nI (t + 1) ∧ T t ∧ t < 4096
    by_cases ew : a + i = w
    · rw [ew, up_s]; exact hT a i ha hob z1 z2 ew
    · rw [up_n ew]; exact t3 a ha hob i z1 z2
/-- the state between two calls, k calls so far -/
def ZZ (k : Nat) (ν μ : zM) : Prop := ∃ (pg : Nat) (S T : Nat → Prop) (a c : Nat), JJ ν pg S T 16 ∧ RA ν μ pg ∧ ZC ν μ ∧ IK ν a c ∧ CB ν ∧ a ≤ 1000 * k ∧ c ≤ 200 * a ∧ R01 ν
theorem RA_wr {ν μ : zM} {pg w : Nat} {v : Int32} (hR : RA ν μ pg) : RA (zp ν 20 w v) (zp μ 3 w v) pg := by
  obtain ⟨⟨b1, b2, b3, b4, b5, b6, b7, b8, b9, b10, b11⟩, hP, hO, hS, hK, hN⟩ := hR
  refine ⟨⟨b1, b2, fun a ha => ?_, b4, b5, b6, b7, b8, b9, b10, b11⟩, hP, hO, hS, hK, hN⟩
  show upd (μ 3) w v a = upd (ν 20) w v a
  by_cases e : a = w
  · rw [e, up_s, up_s]
  · rw [up_n e, up_n e]; exact b3 a ha
theorem ZZ.up {k : Nat} {ν μ : zM} (h : ZZ k ν μ) : ZZ (k + 1) ν μ := by
  obtain ⟨pg, S, T, a, c, h1, h2, h3, h4, h5, h6, h7⟩ := h
  exact ⟨pg, S, T, a, c, h1, h2, h3, h4, h5, by omega, h7⟩
theorem ZC_bef {ν μ μ' : zM} {x : Int32} (hZ : ZC ν μ) (h8 : μ' 1 8 = μ 1 8) : ZC (g_before ν x) μ' := by
  intro q
  obtain ⟨k13, -, -, -, -, -, -, k18, -⟩ := bef_keep (ν := ν) (x := x)
  rw [k13] at q
  rw [h8, k18]; exact hZ q
theorem CB_bef {ν : zM} {x : Int32} (hC : CB ν) : CB (g_before ν x) := by
  intro q
  obtain ⟨k13, -, -, -, -, -, -, k18, -⟩ := bef_keep (ν := ν) (x := x)
  rw [k13] at q
  rw [k18]; exact hC q
theorem IK_bef {ν : zM} {x : Int32} {a c : Nat} (hK : IK ν a c) : IK (g_before ν x) a c := by
  obtain ⟨k13, -, -, -, -, -, -, k18, k22, k23, -⟩ := bef_keep (ν := ν) (x := x)
  exact ⟨k22.trans hK.1, k23.trans hK.2.1, hK.2.2⟩
