/-! a doing keeps what is not lost -/
def KS (ν ν' : zM) (S : Nat → Prop) : Prop := ∀ x, S x → ν' 22 x = ν 22 x ∧ ν' 24 x = ν 24 x ∧ ν' 25 x = ν 25 x ∧ ν' 21 (x / 64) = ν 21 (x / 64) ∧ ∀ i, i < bs (ν 21 (x / 64)) → ν' 20 (x + i) = ν 20 (x + i)
def C5 (ν ν' : zM) : Prop := ν' 20 = ν 20 ∧ ν' 21 = ν 21 ∧ ν' 22 = ν 22 ∧ ν' 24 = ν 24 ∧ ν' 25 = ν 25
theorem C5.rf {ν : zM} : C5 ν ν := ⟨rfl, rfl, rfl, rfl, rfl⟩
theorem C5.tr {a b c : zM} (h : C5 a b) (k : C5 b c) : C5 a c := ⟨k.1.trans h.1, k.2.1.trans h.2.1, k.2.2.1.trans h.2.2.1, k.2.2.2.1.trans h.2.2.2.1, k.2.2.2.2.trans h.2.2.2.2⟩
theorem C5.S {ν ν' : zM} {S : Nat → Prop} (h : C5 ν ν') : KS ν ν' S := fun x _ => ⟨by rw [h.2.2.1], by rw [h.2.2.2.1], by rw [h.2.2.2.2], by rw [h.2.1], fun i _ => by rw [h.1]⟩
theorem KS.tr {a b c : zM} {S : Nat → Prop} (h : KS a b S) (k : KS b c S) : KS a c S := fun x hx => by
  obtain ⟨h1, h2, h3, h4, h5⟩ := h x hx
  obtain ⟨k1, k2, k3, k4, k5⟩ := k x hx
  exact ⟨k1.trans h1, k2.trans h2, k3.trans h3, k4.trans h4, fun i hi => (k5 i (by rw [h4]; exact hi)).trans (h5 i hi)⟩
theorem C5_gr {ν : zM} {t : Nat} : C5 ν (g_gr ν t) := by
  unfold g_gr
  split <;> exact ⟨rfl, rfl, rfl, rfl, rfl⟩
theorem C5_grey {ν : zM} {x : Int32} : C5 ν (g_grey ν x) := by
  unfold g_grey
  split
  · exact C5.rf
  · exact C5_gr
theorem C5_end {ν : zM} {pg : Nat} : C5 ν (g_end ν pg) := by
  unfold g_end
  split <;> exact ⟨rfl, rfl, rfl, rfl, rfl⟩
theorem C5_roots {ν : zM} {r : Nat} : C5 ν (g_roots ν r) := by
  have h := C5_grey (ν := ν) (x := ν 26 r)
  unfold g_roots
  split
  · exact h.tr ⟨rfl, rfl, rfl, rfl, rfl⟩
  · exact h.tr ⟨rfl, rfl, rfl, rfl, rfl⟩
theorem C5_look {ν : zM} {a h : Nat} : C5 ν (g_look ν a h) := by
  unfold g_look
  split
  · exact ⟨rfl, rfl, rfl, rfl, rfl⟩
  · split
    · exact ⟨rfl, rfl, rfl, rfl, rfl⟩
    · exact C5.tr (b := zp ν 19 16 (nI (h + 1))) ⟨rfl, rfl, rfl, rfl, rfl⟩ C5_gr
theorem C5_mark {ν : zM} : C5 ν (g_mark ν) := by
  unfold g_mark
  split
  · exact C5_look
  · unfold g_mk
    split <;> exact ⟨rfl, rfl, rfl, rfl, rfl⟩
theorem C5_tick {ν : zM} {b : Int32} : C5 ν (g_tick ν b) := by
  unfold g_tick
  split <;> exact ⟨rfl, rfl, rfl, rfl, rfl⟩
theorem C5_before {ν : zM} {x : Int32} : C5 ν (g_before ν x) := by
  unfold g_before
  split
  · exact C5_grey
  · exact C5.rf
theorem KS_sweep {ν : zM} {pg e b pl : Nat} {S T : Nat → Prop} (hJ : JJ ν pg S T e) (h3 : ν 19 13 = 3) (h17 : ν 19 17 = nI pl) (hpl : pl ≤ b) (hb : b < 64 * pg) (bc : isCl (ν 21 (b / 64))) (bm : b % bs (ν 21 (b / 64)) = 0) : KS ν (g_sweep ν b (bs (ν 21 (b / 64)))) S := by
  obtain ⟨hB, hQ, hP, hIS, ⟨g1, g2, g3, g4, g5, g6, g7⟩, -⟩ := hJ
  have gp := hB.1.2.1
  intro x hx
  obtain ⟨x1, x2⟩ := g1 x hx
  obtain ⟨xc, xm⟩ := hB.al x1 x2
  have h1 : (g_sw1 ν b (bs (ν 21 (b / 64)))) 22 x = ν 22 x ∧ (g_sw1 ν b (bs (ν 21 (b / 64)))) 24 = ν 24 ∧ (g_sw1 ν b (bs (ν 21 (b / 64)))) 25 = ν 25 ∧ (g_sw1 ν b (bs (ν 21 (b / 64)))) 21 = ν 21 ∧ ∀ i, i < bs (ν 21 (x / 64)) → (g_sw1 ν b (bs (ν 21 (b / 64)))) 20 (x + i) = ν 20 (x + i) := by
    unfold g_sw1
    by_cases m : ν 23 b ≠ 0
    · rw [if_pos m]
      exact ⟨rfl, rfl, rfl, rfl, fun _ _ => rfl⟩
    · rw [if_neg m]
      by_cases n : ν 22 b ≠ 0
      · rw [if_pos n]
        have hxb : x ≠ b := fun q => by
          have := g7 h3 x pl hx h17 (by omega) (by omega)
          rw [q] at this
          exact m (by rw [this]; decide)
        refine ⟨?_, rfl, rfl, rfl, fun i hi => ?_⟩
        · show upd (ν 22) b 0 x = ν 22 x
          rw [up_n hxb]
        · show wz (ν 20) b (bs (ν 21 (b / 64))) (x + i) = ν 20 (x + i)
          refine wz_out _ _ ?_
          by_cases c1 : x + i < b
          · exact Or.inl c1
          · by_cases c2 : b + bs (ν 21 (b / 64)) ≤ x + i
            · exact Or.inr c2
            · exact absurd (blk_dis xm xc bm bc hi (by omega) (by omega)) hxb
      · rw [if_neg n]
        exact ⟨rfl, rfl, rfl, rfl, fun _ _ => rfl⟩
  obtain ⟨w1, w2, w3, w4, w5⟩ := h1
  unfold g_sweep g_sw3
  by_cases c : (b + bs (ν 21 (b / 64))) % 64 = 0 ∧ hd (zp (g_sw1 ν b (bs (ν 21 (b / 64)))) 19 17 (nI (b + bs (ν 21 (b / 64))))) (b / 64) = 0
  · rw [if_pos c]
    refine ⟨w1, by rw [← w2]; rfl, by rw [← w3]; rfl, ?_, w5⟩
    show upd ((g_sw1 ν b (bs (ν 21 (b / 64)))) 21) (b / 64) (-1) (x / 64) = ν 21 (x / 64)
    have : x / 64 ≠ b / 64 := fun q => by
      have z := ct_0 64 c.2 x (by omega) (by omega)
      have z : kb ((g_sw1 ν b (bs (ν 21 (b / 64)))) 22 x) = false := z
      rw [w1, kb_t x2] at z
      exact absurd z (by decide)
    rw [up_n this, w4]
  · rw [if_neg c]
    exact ⟨w1, by rw [← w2]; rfl, by rw [← w3]; rfl, congrFun w4 (x / 64), w5⟩
theorem KS_step {ν : zM} {pg e : Nat} {S T : Nat → Prop} (hJ : JJ ν pg S T e) (h0 : ν 19 13 ≠ 0) : KS ν (g_step ν pg) S := by
  have hT := J_tick (b := 0) (Or.inl rfl) hJ
  refine (C5_tick (b := 0)).S.tr ?_
  unfold g_step
  rcases hJ.part with q | ⟨q, -, r, hr, h14⟩ | q | q
  · exact absurd q h0
  · rw [if_pos q]
    exact C5_roots.S
  · rw [if_neg (by rw [q]; decide), if_pos q]
    exact (C5_mark.tr C5_end).S
  · rw [if_neg (by rw [q]; decide), if_neg (by rw [q]; decide)]
    obtain ⟨pl, b, w1, w2, w3, w4, w5, w6, w7, w8, w9, -⟩ := hJ.swp q
    obtain ⟨z1, -⟩ := nbk_some hJ.1.1 hJ.1.2.1 w2 w3 w5
    rw [w6]
    have e21 : (g_tick ν 0) 21 = ν 21 := (C5_tick (b := 0)).2.1
    have := KS_sweep (pl := pl) (b := b) hT (by rw [tick0]; exact q) (by rw [tick0]; exact w1) z1 w7 (by rw [e21]; exact w8) (by rw [e21]; exact w9)
    rw [e21] at this
    exact this.tr C5_end.S
theorem KS_steps {ν : zM} {pg e a c : Nat} {S T : Nat → Prop} (hJ : JJ ν pg S T e) (hK : IK ν a c) : ∀ j, a + c + j < 1000000000 → KS ν (g_steps ν pg j) S
  | 0, _ => C5.rf.S
  | j + 1, hb => by
    have ih := KS_steps hJ hK j (by omega)
    obtain ⟨h1, -⟩ := steps_inv hJ hK j (by omega)
    show KS ν (if (g_steps ν pg j) 19 13 = 0 then g_steps ν pg j else g_step (g_steps ν pg j) pg) S
    by_cases h0 : (g_steps ν pg j) 19 13 = 0
    · rw [if_pos h0]; exact ih
    · rw [if_neg h0]; exact ih.tr (KS_step h1 h0)
theorem KS_rounds {pg e a : Nat} {S T : Nat → Prop} : ∀ (m : Nat) (ν : zM) (c : Nat), QQ ν pg S T e a c m → a + c + 200 * m < 1000000000 → KS ν (g_rounds pg m ν) S
  | 0, ν, c, h, _ => C5.rf.S
  | m + 1, ν, c, h, hb => by
    unfold g_rounds
    by_cases hs : ν 19 13 = 0 ∨ 0 < (ν 19 18).toInt
    · rw [if_pos hs]; exact C5.rf.S
    · rw [if_neg hs]
      obtain ⟨c', h1, h2, h3⟩ := QQ_next h (by omega) (fun q => hs (Or.inl q)) (fun q => hs (Or.inr q))
      obtain ⟨q, cq, tr, q1, q2, q3, q4, q5, q6, q7, q8⟩ := h.1.2.1
      have ecq : nN (ν 19 2) = cq := by rw [q4]; exact nN_n (by omega)
      have k1 := KS_steps h.1 h.2.1 (nN (ν 19 2)) (by rw [ecq]; omega)
      refine KS.tr (b := zp (g_steps ν pg (nN (ν 19 2))) 19 18 (ν 19 18 + ν 19 1)) (k1.tr (C5.S ⟨rfl, rfl, rfl, rfl, rfl⟩)) ?_
      exact KS_rounds m _ c' h2 (by omega)
theorem KS_did {ν : zM} {pg e a c t : Nat} {S T : Nat → Prop} (hJ : JJ ν pg S T e) (hK : IK ν a c) (hC : CB ν) (h1 : 1 ≤ t) (h9 : t ≤ 9) (hb : a + c + 201 * t + 1 < 1000000000) : KS ν (g_did ν pg t) S := by
  have hq := pay_QQ hJ hK hC h1 h9 hb
  have kp : C5 ν (g_pay ν t) := by
    unfold g_pay
    split <;> exact ⟨rfl, rfl, rfl, rfl, rfl⟩
  have ka : C5 (g_rounds pg t (g_pay ν t)) (g_did ν pg t) := by
    unfold g_did g_after
    split <;> exact ⟨rfl, rfl, rfl, rfl, rfl⟩
  exact kp.S.tr ((KS_rounds t _ c hq (by omega)).tr ka.S)
theorem w_keep {e A t : Nat} {ν μ : zM} {pg : Nat} {S T : Nat → Prop} (h : WW e A ν μ pg S T) (h1 : 1 ≤ t) (h9 : t ≤ 9) (hA : A ≤ 600000) : KS ν (g_did ν pg t) S ∧ (g_did ν pg t) 26 = ν 26 := by
  obtain ⟨a, c, hJ, hR, hZ, hK, hC, ha, hc⟩ := h
  obtain ⟨S', T', c', w1, w2, w3, w4, w5⟩ := J_did hJ hK hC h1 h9 (by omega)
  exact ⟨KS_did hJ hK hC h1 h9 (by omega), w5.2.2.2.2⟩
