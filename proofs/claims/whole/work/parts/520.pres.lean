/-! the invariant is kept: MARK, the end -/
theorem J_adv {ζ : zM} {pg e a h : Nat} {S T : Nat → Prop} (hJ : JJ ζ pg S T e) (h2 : ζ 19 13 = 2) (h15 : ζ 19 15 = nI a) (ha : a < 4096) (h16 : ζ 19 16 = nI h) (hh : h < ptn ζ a) (hw : ∀ u, u < 4096 → ζ 20 (a + (h + 1)) = nI (u + 1) → ζ 23 u = 1) : JJ (zp ζ 19 16 (nI (h + 1))) pg S T e := by
  obtain ⟨hB, hQ, hP, hIS, ⟨g1, g2, g3, g4, g5, g6, g7⟩, hT⟩ := hJ
  have hne : ζ 19 15 ≠ -1 := by rw [h15]; exact nI_m1 (by omega)
  have hb : h < 2147483647 := by
    rcases hIS with ⟨a1, -⟩ | ⟨a1, -⟩ | ⟨-, -, a3⟩ | ⟨a1, -⟩
    · rw [h2] at a1; exact absurd a1 (by decide)
    · rw [h2] at a1; exact absurd a1 (by decide)
    · rcases a3 with a3 | ⟨a', h', q1, q2, q3, q4, q5⟩
      · exact absurd a3 hne
      · have e1 : a = a' := by rw [h15, nI_eq (by omega) (by have := q2.1; omega)] at q1; exact q1
        have := (ob_ptn hB q2).2.1
        rw [e1] at hh
        omega
    · rw [h2] at a1; exact absurd a1 (by decide)
  have c16 : nN (ζ 19 16) = h := by rw [h16]; exact nN_n (by omega)
  have c17 : (nI (h + 1)).toNatClampNeg = h + 1 := nI_clamp (by omega)
  refine ⟨hB, hQ, hP, ?_, ⟨g1, g2, g3, g4, g5, fun _ x hx => ?_, g7⟩, hT⟩
  · rcases hIS with ⟨a1, -⟩ | ⟨a1, -⟩ | ⟨a1, a2, a3⟩ | ⟨a1, -⟩
    · rw [h2] at a1; exact absurd a1 (by decide)
    · rw [h2] at a1; exact absurd a1 (by decide)
    · refine Or.inr (Or.inr (Or.inl ⟨a1, a2, Or.inr ?_⟩))
      rcases a3 with a3 | ⟨a', h', q1, q2, q3, q4, q5⟩
      · exact absurd a3 hne
      · have e1 : a = a' := by rw [h15, nI_eq (by omega) (by have := q2.1; omega)] at q1; exact q1
        exact ⟨a', h + 1, q1, q2, q3, rfl, by show h + 1 ≤ ptn ζ a'; rw [← e1]; omega⟩
    · rw [h2] at a1; exact absurd a1 (by decide)
  · rcases g6 (Or.inr h2) x hx with q | q
    · exact Or.inl q
    · refine prot_step (ν := ζ) (ν' := zp ζ 19 16 (nI (h + 1))) (fun u hu hs => ?_) (fun a u i hu w0 hob z1 z2 z3 => Or.inl ⟨w0, hob, z2, z3⟩) (fun a w0 => Or.inl w0) (fun a u i hu w1 w0 hob z1 z2 z3 => ?_) q
      · rcases hs with ⟨q1, -⟩ | q | ⟨a', i, q0, q1, q2, q3, q4⟩
        · rw [h2] at q1; exact absurd q1 (by decide)
        · exact Or.inl (Or.inr (Or.inl q))
        · have e1 : a = a' := by rw [h15, nI_eq (by omega) (by omega)] at q1; exact q1
          subst e1
          rw [c16] at q2
          by_cases ei : i = h + 1
          · right
            rw [ei] at q4
            exact hw u hu q4
          · exact Or.inl (Or.inr (Or.inr ⟨a, i, q0, q1, by show (nI (h + 1)).toNatClampNeg < i; rw [c17]; omega, q3, q4⟩))
      · rw [show (zp ζ 19 16 (nI (h + 1))) 23 a = ζ 23 a from rfl, w0] at w1
        exact absurd w1 (by decide)
theorem J_leaf {ν : zM} {pg e t : Nat} {S T : Nat → Prop} (hJ : JJ ν pg S T e) (hp : ν 19 13 = 1 ∨ ν 19 13 = 2) (ht : t < 4096) (hk : ν 22 t = 3) : JJ (zp ν 23 t 1) pg S T e := by
  obtain ⟨⟨i1, i2, i3, i4, i5, i6⟩, hQ, hP, hIS, ⟨g1, g2, g3, g4, g5, g6, g7⟩, hT⟩ := hJ
  have mk : ∀ a, ν 23 a = 1 → upd (ν 23) t 1 a = 1 := fun a q => by
    rcases upd_or (f := ν 23) (t := t) (a := a) (x := 1) with ⟨z, -⟩ | ⟨z, -⟩
    · exact z
    · rw [z]; exact q
  refine ⟨⟨i1, i2, i3, fun a ha => ?_, i5, i6⟩, hQ, ?_, ?_, ⟨g1, g2, g3, g4, g5, fun _ x hx => ?_, fun q => ?_⟩, hT⟩
  · show upd (ν 23) t 1 a = 0 ∨ (upd (ν 23) t 1 a = 1 ∧ ν 22 a ≠ 0)
    rcases upd_or (f := ν 23) (t := t) (a := a) (x := 1) with ⟨q, rfl⟩ | ⟨q, -⟩
    · exact Or.inr ⟨q, by rw [hk]; decide⟩
    · rw [q]; exact i4 a ha
  · obtain ⟨n, q1, q2, q3, q4, q5⟩ := hP
    exact ⟨n, q1, q2, fun i hi => by obtain ⟨a, z1, z2, z3⟩ := q3 i hi; exact ⟨a, z1, z2, mk a z3⟩, q4, q5⟩
  · rcases hIS with ⟨a1, -⟩ | h | ⟨a1, a2, a3⟩ | ⟨a1, -⟩
    · rcases hp with w | w <;> rw [w] at a1 <;> exact absurd a1 (by decide)
    · exact Or.inr (Or.inl h)
    · refine Or.inr (Or.inr (Or.inl ⟨a1, a2, a3.imp id ?_⟩))
      rintro ⟨a, h, q1, q2, q3, q4⟩
      exact ⟨a, h, q1, q2, mk a q3, q4⟩
    · rcases hp with w | w <;> rw [w] at a1 <;> exact absurd a1 (by decide)
  · rcases g6 hp x hx with q | q
    · exact Or.inl (mk x q)
    · refine prot_step (ν := ν) (ν' := zp ν 23 t 1) (fun u hu hs => Or.inl hs) (fun a u i hu w0 hob z1 z2 z3 => Or.inl ⟨?_, hob, z2, z3⟩) (fun a w0 => ?_) (fun a u i hu w1 w0 hob z1 z2 z3 => ?_) q
      · show upd (ν 23) t 1 a = 0
        rcases upd_or (f := ν 23) (t := t) (a := a) (x := 1) with ⟨z, rfl⟩ | ⟨z, -⟩
        · rcases hob.2 with y | y <;> rw [hk] at y <;> exact absurd y (by decide)
        · rw [z]; exact w0
      · show upd (ν 23) t 1 a = 0 ∨ upd (ν 23) t 1 a = 1
        rcases upd_or (f := ν 23) (t := t) (a := a) (x := 1) with ⟨z, -⟩ | ⟨z, -⟩
        · exact Or.inr z
        · exact Or.inl (by rw [z]; exact w0)
      · have w1 : upd (ν 23) t 1 a = 1 := w1
        rcases upd_or (f := ν 23) (t := t) (a := a) (x := 1) with ⟨z, rfl⟩ | ⟨z, -⟩
        · rcases hob.2 with y | y <;> rw [hk] at y <;> exact absurd y (by decide)
        · rw [z, w0] at w1; exact absurd w1 (by decide)
  · have q : ν 19 13 = 3 := q
    rcases hp with w | w <;> rw [w] at q <;> exact absurd q (by decide)
theorem JJ.hand {ν : zM} {pg e : Nat} {S T : Nat → Prop} (hJ : JJ ν pg S T e) (h2 : ν 19 13 = 2) : ν 19 15 = -1 ∨ ∃ a h : Nat, ν 19 15 = nI a ∧ ob ν a ∧ S a ∧ ν 23 a = 1 ∧ ν 19 16 = nI h ∧ h ≤ ptn ν a ∧ ∀ i, 1 ≤ i → i ≤ ptn ν a → okw ν a i := by
  obtain ⟨hB, hQ, hP, hIS, ⟨g1, g2, g3, g4, g5, g6, g7⟩, hT⟩ := hJ
  rcases hIS with ⟨a1, -⟩ | ⟨a1, -⟩ | ⟨-, -, a3⟩ | ⟨a1, -⟩
  · rw [h2] at a1; exact absurd a1 (by decide)
  · rw [h2] at a1; exact absurd a1 (by decide)
  · rcases a3 with a3 | ⟨a, h, q1, q2, q3, q4, q5⟩
    · exact Or.inl a3
    · have hS := g5 a q2.1 q1
      refine Or.inr ⟨a, h, q1, q2, hS, q3, q4, q5, fun i i1 i2 => ?_⟩
      rcases g3 a hS q2 i i1 i2 with w | ⟨t, w1, w2, w3, w4, w5⟩
      · exact Or.inl w
      · exact Or.inr ⟨t, w1, w3, w4, w5⟩
  · rw [h2] at a1; exact absurd a1 (by decide)
theorem JJ.hnd {ν : zM} {pg e : Nat} {S T : Nat → Prop} (hJ : JJ ν pg S T e) (h2 : ν 19 13 = 2) : hnd ν := by
  rcases hJ.hand h2 with q | ⟨a, h, q1, q2, -, -, q4, q5, q6⟩
  · exact Or.inl q
  · exact Or.inr ⟨a, h, q1, q2, q4, q5, q6⟩
theorem gr_comm {ν : zM} {t : Nat} {x : Int32} : g_gr (zp ν 19 16 x) t = zp (g_gr ν t) 19 16 x := by
  unfold g_gr
  by_cases h : ν 23 t = 0
  · rw [if_pos h, if_pos (show (zp ν 19 16 x) 23 t = 0 from h)]
    funext q
    by_cases e : q = 19
    · subst e
      funext j
      show upd (upd (ν 19) 16 x) 12 (ν 19 12 + 1) j = upd (upd (ν 19) 12 (ν 19 12 + 1)) 16 x j
      unfold upd
      by_cases e1 : j = 12
      · subst e1; simp
      · simp [e1]
    · rw [zp_n e, zp_n e, zp_n e]
      by_cases e2 : q = 27
      · subst e2; rfl
      · rw [zp_n e2, zp_n e2]
        by_cases e3 : q = 23
        · subst e3; rfl
        · rw [zp_n e3, zp_n e3, zp_n e]
  · rw [if_neg h, if_neg (show ¬ (zp ν 19 16 x) 23 t = 0 from h)]
theorem lf_comm {ν : zM} {t : Nat} {x : Int32} : zp (zp ν 19 16 x) 23 t 1 = zp (zp ν 23 t 1) 19 16 x := by
  funext q
  by_cases e : q = 19
  · subst e; rfl
  · rw [zp_n (μ := zp ν 23 t 1) e]
    by_cases e3 : q = 23
    · subst e3; rfl
    · rw [zp_n e3, zp_n e3, zp_n e]
theorem gr_keep {ν : zM} {t : Nat} : (g_gr ν t) 19 13 = ν 19 13 ∧ (g_gr ν t) 19 15 = ν 19 15 ∧ (g_gr ν t) 19 16 = ν 19 16 ∧ (g_gr ν t) 20 = ν 20 ∧ (g_gr ν t) 24 = ν 24 := by
  unfold g_gr
  split <;> exact ⟨rfl, rfl, rfl, rfl, rfl⟩
theorem J_look {ν : zM} {pg e a h : Nat} {S T : Nat → Prop} (hJ : JJ ν pg S T e) (h2 : ν 19 13 = 2) (h15 : ν 19 15 = nI a) (ha : ob ν a) (hS : S a) (h16 : ν 19 16 = nI h) (hh : h < ptn ν a) : JJ (g_look ν a h) pg S T e := by
  have ha1 := ha.1
  unfold g_look
  rcases hJ.2.2.2.2.1.2.2.1 a hS ha (h + 1) (by omega) (by omega) with w | ⟨t, w, w2, w3, w4, w5⟩
  · rw [if_pos w]
    exact J_adv hJ h2 h15 ha1 h16 hh (fun u hu q => by rw [w] at q; exact absurd q.symm (nI_nz (by omega)))
  · rw [if_neg (by rw [w]; exact nI_nz (by omega)), w, nI_pm, nN_n (by omega)]
    rcases ha.2 with k | k
    · rw [if_neg (by rw [k]; decide), gr_comm]
      obtain ⟨k13, k15, k16, k20, k24⟩ := gr_keep (ν := ν) (t := t)
      have hpt : ptn (g_gr ν t) a = ptn ν a := by unfold ptn; rw [k24]
      refine J_adv (J_gr hJ (Or.inr h2) w2 (w4 k)) (by rw [k13]; exact h2) (by rw [k15]; exact h15) ha1 (by rw [k16]; exact h16) (by rw [hpt]; exact hh) (fun u hu q => ?_)
      rw [k20, w, nI_eq (by omega) (by omega)] at q
      have : u = t := by omega
      rw [this]
      exact gr_mark ((hJ.1.2.2.2.1 t w3).imp id (fun z => z.1))
    · rw [if_pos k, lf_comm]
      refine J_adv (J_leaf hJ (Or.inr h2) w3 (w5 k)) h2 h15 ha1 h16 hh (fun u hu q => ?_)
      have q : ν 20 (a + (h + 1)) = nI (u + 1) := q
      rw [w, nI_eq (by omega) (by omega)] at q
      have : u = t := by omega
      rw [this]
      show upd (ν 23) t 1 t = 1
      exact up_s
