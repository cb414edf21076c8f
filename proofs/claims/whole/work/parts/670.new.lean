/-! the invariant is kept: a page gets a class, a block is taken -/
theorem nbp_all {f : Nat → Int32} : ∀ (n p : Nat), (∀ j, p ≤ j → j < p + n → f j = -1) → nbp f p n = none
  | 0, p, _ => rfl
  | n + 1, p, h => by
    unfold nbp
    rw [if_pos (h p (by omega) (by omega))]
    exact nbp_all n (p + 1) (fun j j1 j2 => h j (by omega) (by omega))
theorem J_open {ν : zM} {pg e p : Nat} {S T : Nat → Prop} {c : Int32} (hJ : JJ ν pg S T e) (hp : p < pg) (hn : ν 21 p = -1) (hc : isCl c) : JJ (zp ν 21 p c) pg S T e := by
  obtain ⟨⟨i1, i2, i3, i4, i5, i6⟩, hQ, hP, hIS, hG, hT⟩ := hJ
  have gp := i1.2.1
  have ne : ∀ q, isCl (ν 21 q) → upd (ν 21) p c q = ν 21 q := fun q hq => by
    rw [up_n]
    intro z
    rw [z, hn] at hq
    exact isCl_n hq rfl
  have nk : ∀ a, a < 4096 → ν 22 a ≠ 0 → upd (ν 21) p c (a / 64) = ν 21 (a / 64) := fun a ha hk => by
    rcases i3 a ha with z | ⟨-, z, -⟩
    · exact absurd z hk
    · exact ne _ z
  refine ⟨⟨i1, fun q hq => ?_, fun a ha => ?_, i4, fun w hw z => ?_, fun a ha => ?_⟩, hQ, hP, ?_, hG, hT⟩
  · show upd (ν 21) p c q = -1 ∨ (isCl (upd (ν 21) p c q) ∧ q < pg)
    by_cases z : q = p
    · rw [z, up_s]; exact Or.inr ⟨hc, hp⟩
    · rw [up_n z]; exact i2 q hq
  · show ν 22 a = 0 ∨ ((ν 22 a = 1 ∨ ν 22 a = 2 ∨ ν 22 a = 3) ∧ isCl (upd (ν 21) p c (a / 64)) ∧ a % bs (upd (ν 21) p c (a / 64)) = 0)
    rcases i3 a ha with z | ⟨z1, z2, z3⟩
    · exact Or.inl z
    · rw [ne _ z2]; exact Or.inr ⟨z1, z2, z3⟩
  · obtain ⟨b, b1, b2, b3, b4⟩ := i5 w hw z
    refine ⟨b, b1, b2, b3, ?_⟩
    show w < b + bs (upd (ν 21) p c (b / 64))
    rw [nk b b1 b2]; exact b4
  · obtain ⟨s1, s2, s3⟩ := i6 a ha
    show (ν 22 a = 1 → ∃ m n : Nat, ν 24 a = nI m ∧ ν 25 a = nI n ∧ 1 ≤ m + n ∧ m + n + 1 ≤ bs (upd (ν 21) p c (a / 64))) ∧ (ν 22 a = 2 → ∃ m n : Nat, ν 24 a = nI m ∧ ν 25 a = nI n ∧ 32 ≤ n ∧ n ≤ 512 ∧ m = (n + 31) / 32 ∧ m + 1 ≤ bs (upd (ν 21) p c (a / 64))) ∧ (ν 22 a = 3 → ν 24 a = 0 ∧ upd (ν 21) p c (a / 64) = 3)
    refine ⟨fun z => ?_, fun z => ?_, fun z => ?_⟩
    · rw [nk a ha (by rw [z]; decide)]; exact s1 z
    · rw [nk a ha (by rw [z]; decide)]; exact s2 z
    · rw [nk a ha (by rw [z]; decide)]; exact s3 z
  · rcases hIS with h | h | h | ⟨h1, h2, h3, pl, q1, q2, q3, q4, q5⟩
    · exact Or.inl h
    · exact Or.inr (Or.inl h)
    · exact Or.inr (Or.inr (Or.inl h))
    · refine Or.inr (Or.inr (Or.inr ⟨h1, h2, h3, pl, q1, q2, fun z => ?_, q4, fun z => q5 ?_⟩))
      · show isCl (upd (ν 21) p c (pl / 64)) ∧ pl % bs (upd (ν 21) p c (pl / 64)) = 0
        obtain ⟨y1, y2⟩ := q3 z
        rw [ne _ y1]; exact ⟨y1, y2⟩
      · have z' : nbp ((zp ν 21 p c) 21) (pl / 64) (pg - pl / 64) = none := by
          unfold nbk at z
          cases y : nbp ((zp ν 21 p c) 21) (pl / 64) (pg - pl / 64) with
          | none => rfl
          | some w => rw [y] at z; cases z
        unfold nbk
        rw [nbp_all _ _ (fun j j1 j2 => ?_)]
        · rfl
        · have y := nbp_none (ν := zp ν 21 p c) _ _ z' j j1 j2
          have y : upd (ν 21) p c j = -1 := y
          by_cases x : j = p
          · rw [x]; exact hn
          · rw [up_n x] at y; exact y
theorem RA_open {ν μ : zM} {pg p : Nat} {c : Int32} (h1 : I1 ν pg) (hR : RA ν μ pg) (hp : p < pg) (hn : ν 21 p = -1) (hc : isCl c) : RA (zp ν 21 p c) (zp (zp μ 8 p c) 2 8 (μ 2 8 - 1)) pg := by
  obtain ⟨⟨b1, b2, b3, b4, b5, b6, b7, b8, b9, b10, b11⟩, hP, hO, hS, hK, hN⟩ := hR
  refine ⟨⟨b1, b2, b3, b4, b5, b6, b7, fun q hq => ?_, b9, ?_, b11⟩, hP, hO, hS, hK, hN⟩
  · show upd (μ 8) p c q = upd (ν 21) p c q
    by_cases z : q = p
    · rw [z, up_s, up_s]
    · rw [up_n z, up_n z]; exact b8 q hq
  · show μ 2 8 - 1 = nI (fr (zp ν 21 p c) pg)
    rw [b10, fr_open hn (isCl_n hc) hp, nI_pm]
def sh (kd x y c : Int32) : Prop := (kd = 1 → ∃ m n : Nat, x = nI m ∧ y = nI n ∧ 1 ≤ m + n ∧ m + n + 1 ≤ bs c) ∧ (kd = 2 → ∃ m n : Nat, x = nI m ∧ y = nI n ∧ 32 ≤ n ∧ n ≤ 512 ∧ m = (n + 31) / 32 ∧ m + 1 ≤ bs c) ∧ (kd = 3 → x = 0 ∧ c = 3)
theorem J_new {ζ : zM} {pg e a : Nat} {S T : Nat → Prop} {kd x y c : Int32} (hJ : JJ ζ pg S T e) (ha : a < 64 * pg) (hk : ζ 22 a = 0) (hc : isCl c) (e21 : ζ 21 (a / 64) = c) (hm : a % bs c = 0) (hkd : kd = 1 ∨ kd = 2 ∨ kd = 3) (hsh : sh kd x y c) : JJ (g_new ζ a kd (tmk ζ a) x y) pg (fun b => S b ∨ b = a) (fun b => T b ∨ (b = a ∧ kd = 1)) e := by
  obtain ⟨hB, hQ, ⟨n, p1, p2, p3, p4, p5⟩, hIS, ⟨g1, g2, g3, g4, g5, g6, g7⟩, ⟨t1, t2, t3⟩⟩ := hJ
  have gp := hB.1.2.1
  have a96 : a < 4096 := by omega
  have hz := hB.zero a96 (by rw [e21]; exact hc) (by rw [e21]; exact hm) hk
  rw [e21] at hz
  have knz : kd ≠ 0 := by rcases hkd with z | z | z <;> rw [z] <;> decide
  obtain ⟨ν', hν⟩ : ∃ ν' : zM, ν' = g_new ζ a kd (tmk ζ a) x y := ⟨_, rfl⟩
  have e22 : ∀ b, b ≠ a → ν' 22 b = ζ 22 b := fun b hb => by rw [hν]; show upd (ζ 22) a kd b = _; rw [up_n hb]
  have e23 : ∀ b, b ≠ a → ν' 23 b = ζ 23 b := fun b hb => by rw [hν]; show upd (ζ 23) a _ b = _; rw [up_n hb]
  have e24 : ∀ b, b ≠ a → ν' 24 b = ζ 24 b := fun b hb => by rw [hν]; show upd (ζ 24) a _ b = _; rw [up_n hb]
  have e25 : ∀ b, b ≠ a → ν' 25 b = ζ 25 b := fun b hb => by rw [hν]; show upd (ζ 25) a _ b = _; rw [up_n hb]
  have a22 : ν' 22 a = kd := by rw [hν]; show upd (ζ 22) a kd a = _; rw [up_s]
  have a23 : ν' 23 a = tmk ζ a := by rw [hν]; show upd (ζ 23) a _ a = _; rw [up_s]
  have a24 : ν' 24 a = x := by rw [hν]; show upd (ζ 24) a _ a = _; rw [up_s]
  have a25 : ν' 25 a = y := by rw [hν]; show upd (ζ 25) a _ a = _; rw [up_s]
  have e20 : ν' 20 = ζ 20 := by rw [hν]; rfl
  have e21' : ν' 21 = ζ 21 := by rw [hν]; rfl
  have e19 : ν' 19 = ζ 19 := by rw [hν]; rfl
  have e26 : ν' 26 = ζ 26 := by rw [hν]; rfl
  have e27 : ν' 27 = ζ 27 := by rw [hν]; rfl
  have na : ∀ b, ζ 22 b ≠ 0 → b ≠ a := fun b hb z => by rw [z] at hb; exact hb hk
  have obn : ∀ b, ob ζ b → b ≠ a := fun b hb => na b hb.nz
  have obu : ∀ b, ob ζ b → ob ν' b := fun b hb => ⟨hb.1, by rw [e22 b (obn b hb)]; exact hb.2⟩
  have obd : ∀ b, b ≠ a → ob ν' b → ob ζ b := fun b hb h => ⟨h.1, by rw [← e22 b hb]; exact h.2⟩
  have pte : ∀ b, b ≠ a → ptn ν' b = ptn ζ b := fun b hb => by unfold ptn; rw [e24 b hb]
  have pta : kd = 1 ∨ kd = 2 → ptn ν' a + 1 ≤ bs c := fun z => by
    unfold ptn
    rw [a24]
    have hb := bs_le (c := c)
    rcases z with z | z
    · obtain ⟨m, n, s1, s2, s3, s4⟩ := hsh.1 z
      rw [s1, nN_n (by omega)]; omega
    · obtain ⟨m, n, s1, s2, s3, s4, s5, s6⟩ := hsh.2.1 z
      rw [s1, nN_n (by omega)]; omega
  have tm : tmk ζ a = 0 ∨ tmk ζ a = 1 := by
    unfold tmk
    split
    · exact Or.inr rfl
    · exact Or.inl rfl
  have m0 : ζ 23 a = 0 := by
    rcases hB.2.2.2.1 a a96 with z | z
    · exact z
    · exact absurd hk z.2
  rw [← hν]
  clear hν
  have hob12 : ob ν' a → kd = 1 ∨ kd = 2 := fun h => by
    have := h.2
    rw [a22] at this
    exact this
  obtain ⟨i1, i2, i3, i4, i5, i6⟩ := hB
  refine ⟨⟨?_, ?_, fun b hb => ?_, fun b hb => ?_, fun w hw q => ?_, fun b hb => ?_⟩, ?_, ?_, ?_, ⟨fun b hb => ?_, fun r hr => ?_, fun b hb hob i z1 z2 => ?_, fun k b k1 k2 k3 => ?_, fun b b1 b2 => ?_, fun hp b hb => ?_, fun hp b pl hb q1 q2 q3 => ?_⟩, ⟨fun b hb => ?_, fun r hr he => ?_, fun b hb hob i z1 z2 => ?_⟩⟩
  · unfold I1; rw [e19]; exact i1
  · unfold I2; rw [e21']; exact i2
  · rw [e21']
    by_cases z : b = a
    · subst z
      right
      rw [a22, e21]; exact ⟨hkd, hc, hm⟩
    · rw [e22 b z]; exact i3 b hb
  · by_cases z : b = a
    · subst z
      rw [a23, a22]
      exact tm.imp id (fun q => ⟨q, knz⟩)
    · rw [e22 b z, e23 b z]; exact i4 b hb
  · rw [e20] at q
    obtain ⟨b, b1, b2, b3, b4⟩ := i5 w hw q
    exact ⟨b, b1, by rw [e22 b (na b b2)]; exact b2, b3, by rw [e21']; exact b4⟩
  · rw [e21']
    by_cases z : b = a
    · subst z
      rw [a22, a24, a25, e21]; exact hsh
    · rw [e22 b z, e24 b z, e25 b z]; exact i6 b hb
  · unfold IQ; rw [e19]; exact hQ
  · refine ⟨n, by rw [e19]; exact p1, p2, fun i hi => ?_, fun i j hi hj q => p4 i j hi hj (by rw [e27] at q; exact q), fun q => p5 (by rw [e19] at q; exact q)⟩
    obtain ⟨b, b1, b2, b3⟩ := p3 i hi
    exact ⟨b, by rw [e27]; exact b1, obu b b2, by rw [e23 b (obn b b2)]; exact b3⟩
  · rcases hIS with ⟨h1, h2, h3⟩ | ⟨h1, h2, r, h3, h4⟩ | ⟨h1, h2, h3⟩ | ⟨h1, h2, h3, pl, q1, q2, q3, q4, q5⟩
    · refine Or.inl ⟨by rw [e19]; exact h1, by rw [e19]; exact h2, fun b hb => ?_⟩
      by_cases z : b = a
      · subst z
        rw [a23]
        unfold tmk
        rw [if_neg]
        rw [h1]
        rintro (q | q | q)
        · exact absurd q (by decide)
        · exact absurd q (by decide)
        · exact absurd q.1 (by decide)
      · rw [e23 b z]; exact h3 b hb
    · exact Or.inr (Or.inl ⟨by rw [e19]; exact h1, by rw [e19]; exact h2, r, h3, by rw [e19]; exact h4⟩)
    · refine Or.inr (Or.inr (Or.inl ⟨by rw [e19]; exact h1, by rw [e19]; exact h2, ?_⟩))
      rcases h3 with h3 | ⟨b, h, w1, w2, w3, w4, w5⟩
      · exact Or.inl (by rw [e19]; exact h3)
      · exact Or.inr ⟨b, h, by rw [e19]; exact w1, obu b w2, by rw [e23 b (obn b w2)]; exact w3, by rw [e19]; exact w4, by rw [pte b (obn b w2)]; exact w5⟩
    · refine Or.inr (Or.inr (Or.inr ⟨by rw [e19]; exact h1, by rw [e19]; exact h2, by rw [e19]; exact h3, pl, by rw [e19]; exact q1, q2, by rw [e21']; exact q3, fun b hb => ?_, by unfold nbk; rw [e21']; exact q5⟩))
      by_cases z : b = a
      · subst z
        rw [a23]
        unfold tmk
        rw [if_neg]
        rw [h1, q1]
        rintro (q | q | q)
        · exact absurd q (by decide)
        · exact absurd q (by decide)
        · exact q.2 (nI_lt hb (by omega))
      · rw [e23 b z]; exact q4 b hb
  · rcases hb with hb | rfl
    · obtain ⟨b1, b2⟩ := g1 b hb
      exact ⟨b1, by rw [e22 b (na b b2)]; exact b2⟩
    · exact ⟨a96, by rw [a22]; exact knz⟩
  · rw [e26]
    exact (g2 r hr).imp id (fun ⟨t, q1, q2, q3⟩ => ⟨t, q1, Or.inl q2, obu t q3⟩)
  · rw [e20]
    by_cases z : b = a
    · subst z
      have := pta (hob12 hob)
      exact Or.inl (hz i (by omega))
    · rcases hb with hb | hb
      · rw [pte b z] at z2
        rw [e22 b z]
        rcases g3 b hb (obd b z hob) i z1 z2 with w | ⟨t, w1, w2, w3, w4, w5⟩
        · exact Or.inl w
        · exact Or.inr ⟨t, w1, Or.inl w2, w3, fun q => obu t (w4 q), fun q => by rw [e22 t (na t (g1 t w2).2)]; exact w5 q⟩
      · exact absurd hb z
  · rw [e19] at k1
    rw [e27] at k2
    exact Or.inl (g4 k b k1 k2 k3)
  · rw [e19] at b2
    exact Or.inl (g5 b b1 b2)
  · rw [e19] at hp
    rcases hb with hb | rfl
    · have hb0 := na b (g1 b hb).2
      rcases g6 hp b hb with q | q
      · exact Or.inl (by rw [e23 b hb0]; exact q)
      · refine prot_step (ν := ζ) (ν' := ν') (fun u hu hs => Or.inl ?_) (fun b' u i hu w0 hob z1 z2 z3 => Or.inl ?_) (fun b' w0 => ?_) (fun b' u i hu w1 w0 hob z1 z2 z3 => ?_) q
        · rcases hs with ⟨s1, r, s2, s3, s4⟩ | ⟨k, b', i, s1, s2, s3, s4, s5, s6⟩ | ⟨b', i, s1, s2, s3, s4, s5⟩
          · exact Or.inl ⟨by rw [e19]; exact s1, r, s2, by rw [e19]; exact s3, by rw [e26]; exact s4⟩
          · have hne : b' ≠ a := na b' (g1 b' (g4 k b' s1 s3 s2)).2
            exact Or.inr (Or.inl ⟨k, b', i, by rw [e19]; exact s1, s2, by rw [e27]; exact s3, s4, by rw [pte b' hne]; exact s5, by rw [e20]; exact s6⟩)
          · have hne : b' ≠ a := na b' (g1 b' (g5 b' s1 s2)).2
            exact Or.inr (Or.inr ⟨b', i, s1, by rw [e19]; exact s2, by rw [e19]; exact s3, by rw [pte b' hne]; exact s4, by rw [e20]; exact s5⟩)
        · have hne := obn b' hob
          exact ⟨by rw [e23 b' hne]; exact w0, obu b' hob, by rw [pte b' hne]; exact z2, by rw [e20]; exact z3⟩
        · by_cases z : b' = a
          · subst z; rw [a23]; exact tm
          · rw [e23 b' z]; exact Or.inl w0
        · rw [e23 b' (obn b' hob), w0] at w1
          exact absurd w1 (by decide)
    · left
      rw [a23]
      unfold tmk
      exact if_pos (hp.imp id Or.inl)
  · rw [e19] at hp q1
    rcases hb with hb | rfl
    · rw [e23 b (na b (g1 b hb).2)]; exact g7 hp b pl hb q1 q2 q3
    · rw [a23]
      unfold tmk
      refine if_pos (Or.inr (Or.inr ⟨hp, ?_⟩))
      rw [q1, nI_ltI (by omega) (by omega)]; omega
  · exact hb.imp (t1 b) (fun q => q.1)
  · rw [e26]
    exact (t2 r hr he).imp id (fun ⟨t, q1, q2, q3⟩ => ⟨t, q1, Or.inl q2, q3⟩)
  · rw [e20]
    rcases hb with hb | ⟨rfl, hb⟩
    · have hne := na b (g1 b (t1 b hb)).2
      rw [pte b hne] at z2
      rw [e22 b hne]
      exact (t3 b hb (obd b hne hob) i z1 z2).imp id (fun ⟨t, q1, q2, q3⟩ => ⟨t, q1, Or.inl q2, q3⟩)
    · have := pta (hob12 hob)
      refine Or.inl ⟨hz i (by omega), ?_⟩
      rw [a22, hb]; decide
