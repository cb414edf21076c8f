/-! the invariant is kept: SWEEP -/
/-- blocks are apart -/
theorem blk_dis {ν : zM} {a b i : Nat} (ha : a % bs (ν 21 (a / 64)) = 0) (hac : isCl (ν 21 (a / 64))) (hb : b % bs (ν 21 (b / 64)) = 0) (hbc : isCl (ν 21 (b / 64))) (hi : i < bs (ν 21 (a / 64))) (h1 : b ≤ a + i) (h2 : a + i < b + bs (ν 21 (b / 64))) : a = b := by
  have p1 := blk_in hac ha
  have p2 := blk_in hbc hb
  have hpg : a / 64 = b / 64 := by omega
  rw [hpg] at ha hi
  rcases bs_v hbc with ⟨-, w⟩ | ⟨-, w⟩ | ⟨-, w⟩ | ⟨-, w⟩ <;> rw [w] at ha hb hi h2 <;> omega
theorem IB.al {ν : zM} {pg a : Nat} (hI : IB ν pg) (ha : a < 4096) (hk : ν 22 a ≠ 0) : isCl (ν 21 (a / 64)) ∧ a % bs (ν 21 (a / 64)) = 0 := by
  rcases hI.2.2.1 a ha with h | ⟨-, hc, hm⟩
  · exact absurd h hk
  · exact ⟨hc, hm⟩
theorem J_sw1 {ν : zM} {pg e b sz pl : Nat} {S T : Nat → Prop} (hJ : JJ ν pg S T e) (h3 : ν 19 13 = 3) (h17 : ν 19 17 = nI pl) (hpl : pl ≤ 64 * pg) (hal : pl % 64 ≠ 0 → isCl (ν 21 (pl / 64)) ∧ pl % bs (ν 21 (pl / 64)) = 0) (hmk : ∀ a, a < pl → ν 23 a = 0) (hb : nbk ν pl pg = some b) (hsz : sz = bs (ν 21 (b / 64))) : JS (zp (g_sw1 ν b sz) 19 17 (nI (b + sz))) pg S T e (b + sz) := by
  obtain ⟨hB, hQ, ⟨n, n1, n2, n3, n4, n5⟩, hIS, ⟨g1, g2, g3, g4, g5, g6, g7⟩, ⟨t1, t2, t3⟩⟩ := hJ
  obtain ⟨z1, z2, z3, z4, z5⟩ := nbk_some hB.1 hB.2.1 hpl hal hb
  have gp := hB.1.2.1
  have hs := blk_in z3 z4
  have hl := bs_le (c := ν 21 (b / 64))
  have h12 : ν 19 12 = nI 0 := by rw [n1, n5 (Or.inr h3)]
  have hh : ν 19 14 = nI 16 ∧ ν 19 15 = -1 := by
    rcases hIS with ⟨a1, -⟩ | ⟨a1, -⟩ | ⟨a1, -⟩ | ⟨-, a2, a3, -⟩
    · rw [h3] at a1; exact absurd a1 (by decide)
    · rw [h3] at a1; exact absurd a1 (by decide)
    · rw [h3] at a1; exact absurd a1 (by decide)
    · exact ⟨a2, a3⟩
  have pd : (b + bs (ν 21 (b / 64))) % 64 ≠ 0 → (b + bs (ν 21 (b / 64))) / 64 = b / 64 := fun q => by omega
  have pm : (b + bs (ν 21 (b / 64))) % bs (ν 21 (b / 64)) = 0 := by rw [Nat.add_mod_right]; exact z4
  -- the marks below the new place, but b's own
  have low : ∀ a, a < b + bs (ν 21 (b / 64)) → a ≠ b → a < 4096 → ν 23 a = 0 := fun a a1 a2 a3 => by
    rcases hB.2.2.2.1 a a3 with q | ⟨q1, q⟩
    · exact q
    · exfalso
      obtain ⟨ac, am⟩ := hB.al a3 q
      by_cases c1 : a < pl
      · rw [hmk a c1] at q1
        exact absurd q1 (by decide)
      · by_cases c2 : a < b
        · exact isCl_n ac (z5 a (by omega) c2 a3)
        · have := blk_dis (i := 0) am ac z4 z3 (by have := bs_le (c := ν 21 (a / 64)); omega) (by omega) (by omega)
          exact a2 this
  have mar : ∀ a, S a → b + bs (ν 21 (b / 64)) ≤ a → ν 23 a = 1 := fun a ha q => g7 h3 a pl ha h17 (by omega) (by omega)
  subst hsz
  unfold g_sw1
  by_cases hm : ν 23 b = 0
  · rw [if_neg (fun q => q hm)]
    have hmk' : ∀ a, a < b + bs (ν 21 (b / 64)) → ν 23 a = 0 := fun a ha => by
      by_cases e : a = b
      · rw [e]; exact hm
      · exact low a ha e (by omega)
    by_cases hk : ν 22 b = 0
    · rw [if_neg (fun q => q hk)]
      exact ⟨hB, hQ, h12, h3, hh.1, hh.2, rfl, by omega, fun q => by show isCl (ν 21 _) ∧ _ % bs (ν 21 _) = 0; rw [pd q]; exact ⟨z3, pm⟩, hmk', ⟨g1, g2, g3, g4, g5, g6, fun _ a pl' ha q q2 q3 => mar a ha (by
        have q : nI (b + bs (ν 21 (b / 64))) = nI pl' := q
        rw [nI_eq (by omega) (by omega)] at q; omega)⟩, t1, t2, t3⟩
    · rw [if_pos hk]
      have nS : ∀ a, S a → a ≠ b := fun a ha q => by
        have := g7 h3 a pl ha h17 (by omega) (by omega)
        rw [q, hm] at this
        exact absurd this (by decide)
      have k2 : ∀ a, a ≠ b → upd (ν 22) b 0 a = ν 22 a := fun a q => up_n q
      have wk : ∀ a i, S a → ob ν a → 1 ≤ i → i ≤ ptn ν a → wz (ν 20) b (bs (ν 21 (b / 64))) (a + i) = ν 20 (a + i) := fun a i ha hob i1 i2 => by
        refine wz_out _ _ ?_
        obtain ⟨ac, am⟩ := hB.al hob.1 hob.nz
        have p := (ob_ptn hB hob).2.2.2.2.2.2
        by_cases c : a + i < b ∨ b + bs (ν 21 (b / 64)) ≤ a + i
        · exact c
        · exact absurd (blk_dis (i := i) am ac z4 z3 (by omega) (by omega) (by omega)) (nS a ha)
      have ob' : ∀ ζ : zM, ζ 22 = upd (ν 22) b 0 → ∀ a, a ≠ b → (ob ζ a ↔ ob ν a) := fun ζ hζ a ha => by
        unfold ob
        rw [hζ, k2 a ha]
      have i5' : ∀ w, w < 4096 → wz (ν 20) b (bs (ν 21 (b / 64))) w ≠ 0 → ∃ a, a < 4096 ∧ upd (ν 22) b 0 a ≠ 0 ∧ a ≤ w ∧ w < a + bs (ν 21 (a / 64)) := fun w hw q => by
        by_cases c : b ≤ w ∧ w < b + bs (ν 21 (b / 64))
        · exact absurd (wz_in _ w c.1 c.2) q
        · rw [wz_out _ w (by omega)] at q
          obtain ⟨a, a1, a2, a3, a4⟩ := hB.2.2.2.2.1 w hw q
          have e : a ≠ b := fun e => c (by rw [← e]; exact ⟨a3, a4⟩)
          exact ⟨a, a1, by rw [k2 a e]; exact a2, a3, a4⟩
      have i3' : ∀ a, a < 4096 → upd (ν 22) b 0 a = 0 ∨ ((upd (ν 22) b 0 a = 1 ∨ upd (ν 22) b 0 a = 2 ∨ upd (ν 22) b 0 a = 3) ∧ isCl (ν 21 (a / 64)) ∧ a % bs (ν 21 (a / 64)) = 0) := fun a ha => by
        by_cases e : a = b
        · rw [e, up_s]; exact Or.inl rfl
        · rw [k2 a e]; exact hB.2.2.1 a ha
      have i4' : ∀ a, a < 4096 → ν 23 a = 0 ∨ (ν 23 a = 1 ∧ upd (ν 22) b 0 a ≠ 0) := fun a ha => by
        by_cases e : a = b
        · rw [e]; exact Or.inl hm
        · rw [k2 a e]; exact hB.2.2.2.1 a ha
      have ne0 : ∀ a x, upd (ν 22) b 0 a = x → x ≠ 0 → a ≠ b := fun a x q hx e => by rw [e, up_s] at q; exact hx q.symm
      refine ⟨⟨hB.1, hB.2.1, i3', i4', i5', fun a ha => ⟨fun q => ?_, fun q => ?_, fun q => ?_⟩⟩, hQ, h12, h3, hh.1, hh.2, rfl, by omega, fun q => by show isCl (ν 21 _) ∧ _ % bs (ν 21 _) = 0; rw [pd q]; exact ⟨z3, pm⟩, hmk', ⟨fun a ha => ⟨(g1 a ha).1, by show upd (ν 22) b 0 a ≠ 0; rw [k2 a (nS a ha)]; exact (g1 a ha).2⟩, fun r hr => ?_, fun a ha hob i i1 i2 => ?_, g4, g5, fun q => ?_, fun _ a pl' ha q q2 q3 => mar a ha (by
        have q : nI (b + bs (ν 21 (b / 64))) = nI pl' := q
        rw [nI_eq (by omega) (by omega)] at q; omega)⟩, t1, t2, fun a ha hob i i1 i2 => ?_⟩
      · have q : upd (ν 22) b 0 a = 1 := q
        have e := ne0 a 1 q (by decide)
        rw [k2 a e] at q
        exact (hB.2.2.2.2.2 a ha).1 q
      · have q : upd (ν 22) b 0 a = 2 := q
        have e := ne0 a 2 q (by decide)
        rw [k2 a e] at q
        exact (hB.2.2.2.2.2 a ha).2.1 q
      · have q : upd (ν 22) b 0 a = 3 := q
        have e := ne0 a 3 q (by decide)
        rw [k2 a e] at q
        exact (hB.2.2.2.2.2 a ha).2.2 q
      · rcases g2 r hr with w | ⟨t, w1, w2, w3⟩
        · exact Or.inl w
        · exact Or.inr ⟨t, w1, w2, (ob' _ rfl t (nS t w2)).mpr w3⟩
      · have hob' := (ob' _ rfl a (nS a ha)).mp hob
        have i2 : i ≤ ptn ν a := i2
        show wz (ν 20) b (bs (ν 21 (b / 64))) (a + i) = 0 ∨ ∃ t : Nat, wz (ν 20) b (bs (ν 21 (b / 64))) (a + i) = nI (t + 1) ∧ S t ∧ t < 4096 ∧ (upd (ν 22) b 0 a = 1 → _) ∧ (upd (ν 22) b 0 a = 2 → upd (ν 22) b 0 t = 3)
        rw [wk a i ha hob' i1 i2, k2 a (nS a ha)]
        rcases g3 a ha hob' i i1 i2 with w | ⟨t, w1, w2, w3, w4, w5⟩
        · exact Or.inl w
        · exact Or.inr ⟨t, w1, w2, w3, fun q => (ob' _ rfl t (nS t w2)).mpr (w4 q), fun q => by rw [k2 t (nS t w2)]; exact w5 q⟩
      · have q : ν 19 13 = 1 ∨ ν 19 13 = 2 := q
        rw [h3] at q
        rcases q with q | q <;> exact absurd q (by decide)
      · have hob' := (ob' _ rfl a (nS a (t1 a ha))).mp hob
        have i2 : i ≤ ptn ν a := i2
        show (wz (ν 20) b (bs (ν 21 (b / 64))) (a + i) = 0 ∧ upd (ν 22) b 0 a ≠ 2) ∨ ∃ t : Nat, wz (ν 20) b (bs (ν 21 (b / 64))) (a + i) = nI (t + 1) ∧ T t ∧ t < 4096
        rw [wk a i (t1 a ha) hob' i1 i2, k2 a (nS a (t1 a ha))]
        exact t3 a ha hob' i i1 i2
  · rw [if_pos hm]
    refine ⟨⟨hB.1, hB.2.1, hB.2.2.1, fun a ha => ?_, hB.2.2.2.2.1, hB.2.2.2.2.2⟩, hQ, h12, h3, hh.1, hh.2, rfl, by omega, fun q => by show isCl (ν 21 _) ∧ _ % bs (ν 21 _) = 0; rw [pd q]; exact ⟨z3, pm⟩, fun a ha => ?_, ⟨g1, g2, g3, g4, g5, fun q => ?_, fun _ a pl' ha q q2 q3 => ?_⟩, t1, t2, t3⟩
    · show upd (ν 23) b 0 a = 0 ∨ (upd (ν 23) b 0 a = 1 ∧ ν 22 a ≠ 0)
      by_cases e : a = b
      · rw [e, up_s]; exact Or.inl rfl
      · rw [up_n e]; exact hB.2.2.2.1 a ha
    · show upd (ν 23) b 0 a = 0
      by_cases e : a = b
      · rw [e, up_s]
      · rw [up_n e]; exact low a ha e (by omega)
    · have q : ν 19 13 = 1 ∨ ν 19 13 = 2 := q
      rw [h3] at q
      rcases q with q | q <;> exact absurd q (by decide)
    · have q : nI (b + bs (ν 21 (b / 64))) = nI pl' := q
      rw [nI_eq (by omega) (by omega)] at q
      show upd (ν 23) b 0 a = 1
      rw [up_n (by omega)]
      exact mar a ha (by omega)
theorem J_sw3 {ζ : zM} {pg e b sz : Nat} {S T : Nat → Prop} (h : JS ζ pg S T e (b + sz)) (hb : b < 4096) : JS (g_sw3 ζ b sz) pg S T e (b + sz) := by
  unfold g_sw3
  by_cases hc : (b + sz) % 64 = 0 ∧ hd ζ (b / 64) = 0
  · rw [if_pos hc]
    obtain ⟨⟨i1, i2, i3, i4, i5, i6⟩, hQ, h12, h13, h14, h15, h17, hpl, hal, hmk, hG, hT⟩ := h
    have hk0 : ∀ a, a / 64 = b / 64 → ζ 22 a = 0 := fun a q => by
      have := ct_0 64 hc.2 a (by omega) (by omega)
      exact Decidable.byContradiction (fun w => by rw [kb_t w] at this; cases this)
    have pg2 : ∀ a, ζ 22 a ≠ 0 → upd (ζ 21) (b / 64) (-1) (a / 64) = ζ 21 (a / 64) := fun a q => up_n (fun w => q (hk0 a w))
    refine ⟨⟨i1, fun p hp => ?_, fun a ha => ?_, i4, fun w hw q => ?_, fun a ha => ?_⟩, hQ, h12, h13, h14, h15, h17, hpl, fun q => absurd hc.1 q, hmk, hG, hT⟩
    · show upd (ζ 21) (b / 64) (-1) p = -1 ∨ (isCl (upd (ζ 21) (b / 64) (-1) p) ∧ p < pg)
      by_cases e : p = b / 64
      · rw [e, up_s]; exact Or.inl rfl
      · rw [up_n e]; exact i2 p hp
    · show ζ 22 a = 0 ∨ (_ ∧ isCl (upd (ζ 21) (b / 64) (-1) (a / 64)) ∧ a % bs (upd (ζ 21) (b / 64) (-1) (a / 64)) = 0)
      by_cases e : ζ 22 a = 0
      · exact Or.inl e
      · rw [pg2 a e]; exact i3 a ha
    · obtain ⟨a, a1, a2, a3, a4⟩ := i5 w hw q
      exact ⟨a, a1, a2, a3, by show w < a + bs (upd (ζ 21) (b / 64) (-1) (a / 64)); rw [pg2 a a2]; exact a4⟩
    · have key := i6 a ha
      refine ⟨fun q => ?_, fun q => ?_, fun q => ?_⟩
      · have q : ζ 22 a = 1 := q
        have w := key.1 q
        rw [← pg2 a (by rw [q]; decide)] at w
        exact w
      · have q : ζ 22 a = 2 := q
        have w := key.2.1 q
        rw [← pg2 a (by rw [q]; decide)] at w
        exact w
      · have q : ζ 22 a = 3 := q
        have w := key.2.2 q
        rw [← pg2 a (by rw [q]; decide)] at w
        exact w
  · rw [if_neg hc]; exact h
theorem J_sweep {ν : zM} {pg e b sz pl : Nat} {S T : Nat → Prop} (hJ : JJ ν pg S T e) (h3 : ν 19 13 = 3) (h17 : ν 19 17 = nI pl) (hpl : pl ≤ 64 * pg) (hal : pl % 64 ≠ 0 → isCl (ν 21 (pl / 64)) ∧ pl % bs (ν 21 (pl / 64)) = 0) (hmk : ∀ a, a < pl → ν 23 a = 0) (hb : nbk ν pl pg = some b) (hsz : sz = bs (ν 21 (b / 64))) : JJ (g_end (g_sweep ν b sz) pg) pg S T e := by
  have z := nbk_some hJ.1.1 hJ.1.2.1 hpl hal hb
  have gp := hJ.1.1.2.1
  exact J_end (J_sw3 (J_sw1 hJ h3 h17 hpl hal hmk hb hsz) (by omega))
