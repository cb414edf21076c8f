/-! one step of the collector -/
theorem tick0 {ν : zM} : g_tick ν 0 = zp (zp ν 28 (g_ix ν) 0) 19 23 (ν 19 23 + 1) := by unfold g_tick; rw [if_pos rfl]
theorem tick1 {ν : zM} : g_tick ν 1 = zp (zp ν 28 (g_ix ν) 1) 19 22 (ν 19 22 + 1) := by unfold g_tick; rw [if_neg (by decide)]
theorem RA_mu {ν μ μ' : zM} {pg : Nat} (h : ∀ q, q ≠ 10 → q ≠ 11 → μ' q = μ q) (hR : RB ν μ pg ∧ RP ν μ ∧ RO ν μ ∧ RS ν μ) : RB ν μ' pg ∧ RP ν μ' ∧ RO ν μ' ∧ RS ν μ' := by
  have e0 := h 0 (by decide) (by decide)
  have e1 := h 1 (by decide) (by decide)
  have e2 := h 2 (by decide) (by decide)
  have e3 := h 3 (by decide) (by decide)
  have e4 := h 4 (by decide) (by decide)
  have e5 := h 5 (by decide) (by decide)
  have e6 := h 6 (by decide) (by decide)
  have e7 := h 7 (by decide) (by decide)
  have e8 := h 8 (by decide) (by decide)
  have e9 := h 9 (by decide) (by decide)
  have e12 := h 12 (by decide) (by decide)
  have e13 := h 13 (by decide) (by decide)
  have e14 := h 14 (by decide) (by decide)
  unfold RB RP RO RS at hR ⊢
  rw [e0, e1, e2, e3, e4, e5, e6, e7, e8, e9, e12, e13, e14]
  exact hR
theorem k_ctick {ν μ : zM} {pg a c : Nat} {K : zM → Prop} (hR : RA ν μ pg) (hK : IK ν a c) (k : ∀ μ' : zM, RA (g_tick ν 0) μ' pg → μ' 1 8 = μ 1 8 → K μ') : f_Ck_collectorTick μ K := by
  obtain ⟨k1, k2, k3⟩ := hK
  obtain ⟨hB, hP, hO, hS, ⟨c1, c2, c3⟩, hN⟩ := hR
  have e1 : nN (ν 19 22) = a := by rw [k1]; exact nN_n (by omega)
  have e2 : nN (ν 19 23) = c := by rw [k2]; exact nN_n (by omega)
  rw [e1, e2] at hN
  have hi : g_ix ν = (a + c) % 2000 := by unfold g_ix; rw [e1, e2]
  unfold f_Ck_collectorTick
  refine k_keep (ν := ν) (t := a + c) (i := g_ix ν) (Or.inl rfl) k3 hN hi c3 (fun μ1 hf h3 h4 hN1 hr1 => ?_)
  intro μ2 e2'
  subst e2'
  obtain ⟨hB1, hP1, hO1, hS1⟩ := RA_mu hf ⟨hB, hP, hO, hS⟩
  refine k _ ?_ (by show μ1 1 8 = μ 1 8; rw [hf 1 (by decide) (by decide)])
  rw [tick0]
  refine ⟨hB1, hP1, hO1, hS1, ⟨by show μ1 10 3 = ν 19 22; rw [h3, c1], by show μ1 10 4 + 1 = ν 19 23 + 1; rw [h4, c2], hr1⟩, ?_⟩
  show RN (zp μ1 10 4 (μ1 10 4 + 1)) (nN (ν 19 22) + nN (ν 19 23 + 1))
  rw [e1, k2, nI_1, nN_n (by omega)]
  exact hN1
def nbb (ν : zM) (pg : Nat) : Nat := (nbk ν (nN (ν 19 17)) pg).getD 0
def g_step (ν : zM) (pg : Nat) : zM := if ν 19 13 = 1 then g_roots (g_tick ν 0) (nN (ν 19 14)) else if ν 19 13 = 2 then g_end (g_mark (g_tick ν 0)) pg else g_end (g_sweep (g_tick ν 0) (nbb ν pg) (bs (ν 21 (nbb ν pg / 64)))) pg
theorem J_tick {ν : zM} {pg e : Nat} {S T : Nat → Prop} {b : Int32} (hb : b = 0 ∨ b = 1) (hJ : JJ ν pg S T e) : JJ (g_tick ν b) pg S T e := by
  rcases hb with rfl | rfl
  · rw [tick0]; exact hJ
  · rw [tick1]; exact hJ
/-- SWEEP: the place and the next block -/
theorem JJ.swp {ν : zM} {pg e : Nat} {S T : Nat → Prop} (hJ : JJ ν pg S T e) (h3 : ν 19 13 = 3) : ∃ pl b : Nat, ν 19 17 = nI pl ∧ pl ≤ 64 * pg ∧ (pl % 64 ≠ 0 → isCl (ν 21 (pl / 64)) ∧ pl % bs (ν 21 (pl / 64)) = 0) ∧ (∀ a, a < pl → ν 23 a = 0) ∧ nbk ν pl pg = some b ∧ nbb ν pg = b ∧ b < 64 * pg ∧ isCl (ν 21 (b / 64)) ∧ b % bs (ν 21 (b / 64)) = 0 ∧ ν 19 15 = -1 := by
  have gp := hJ.1.1.2.1
  rcases hJ.2.2.2.1 with ⟨a1, -⟩ | ⟨a1, -⟩ | ⟨a1, -⟩ | ⟨-, -, a3, pl, q1, q2, q3, q4, q5⟩
  · rw [h3] at a1; exact absurd a1 (by decide)
  · rw [h3] at a1; exact absurd a1 (by decide)
  · rw [h3] at a1; exact absurd a1 (by decide)
  · cases hb : nbk ν pl pg with
    | none => exact absurd hb q5
    | some b =>
      obtain ⟨z1, z2, z3, z4, z5⟩ := nbk_some hJ.1.1 hJ.1.2.1 q2 q3 hb
      exact ⟨pl, b, q1, q2, q3, q4, hb, by unfold nbb; rw [q1, nN_n (by omega), hb]; rfl, z2, z3, z4, a3⟩
theorem JJ.part {ν : zM} {pg e : Nat} {S T : Nat → Prop} (hJ : JJ ν pg S T e) : ν 19 13 = 0 ∨ (ν 19 13 = 1 ∧ ν 19 15 = -1 ∧ ∃ r : Nat, r < 16 ∧ ν 19 14 = nI r) ∨ ν 19 13 = 2 ∨ ν 19 13 = 3 := by
  rcases hJ.2.2.2.1 with ⟨a, -⟩ | a | ⟨a, -⟩ | ⟨a, -⟩
  · exact Or.inl a
  · exact Or.inr (Or.inl a)
  · exact Or.inr (Or.inr (Or.inl a))
  · exact Or.inr (Or.inr (Or.inr a))
theorem J_step {ν : zM} {pg e : Nat} {S T : Nat → Prop} (hJ : JJ ν pg S T e) (h0 : ν 19 13 ≠ 0) : JJ (g_step ν pg) pg S T e := by
  have hT := J_tick (b := 0) (Or.inl rfl) hJ
  unfold g_step
  rcases hJ.part with q | ⟨q, -, r, hr, h14⟩ | q | q
  · exact absurd q h0
  · rw [if_pos q, h14, nN_n (by omega)]
    exact J_roots hT (by rw [tick0]; exact q) hr (by rw [tick0]; exact h14)
  · rw [if_neg (by rw [q]; decide), if_pos q]
    exact J_mark hT (by rw [tick0]; exact q)
  · rw [if_neg (by rw [q]; decide), if_neg (by rw [q]; decide)]
    obtain ⟨pl, b, w1, w2, w3, w4, w5, w6, w7, w8, w9, -⟩ := hJ.swp q
    rw [w6]
    exact J_sweep (pl := pl) hT (by rw [tick0]; exact q) (by rw [tick0]; exact w1) w2 (by rw [tick0]; exact w3) (by rw [tick0]; exact w4) (by rw [tick0]; exact w5) (by rw [tick0]; rfl)
theorem look_keep {ν : zM} {a h : Nat} : (g_look ν a h) 19 0 = ν 19 0 := by
  unfold g_look g_gr
  split
  · rfl
  · split
    · rfl
    · split <;> rfl
theorem mark_keep {ν : zM} (h2 : ν 19 13 = 2) : (g_mark ν) 19 0 = ν 19 0 ∧ ((g_mark ν) 19 13 = 3 → (g_mark ν) 19 17 = nI 0) := by
  unfold g_mark
  split
  · exact ⟨look_keep, fun q => by rw [look_part, h2] at q; exact absurd q (by decide)⟩
  · unfold g_mk
    split
    · exact ⟨rfl, fun _ => rfl⟩
    · refine ⟨rfl, fun q => ?_⟩
      have q : ν 19 13 = 3 := q
      rw [h2] at q; exact absurd q (by decide)
theorem sw1_keep {ν : zM} {b sz : Nat} : (g_sw1 ν b sz) 19 0 = ν 19 0 := by
  unfold g_sw1
  split
  · rfl
  · split <;> rfl
theorem sweep_keep {ν : zM} {b sz : Nat} : (g_sweep ν b sz) 19 0 = ν 19 0 ∧ (g_sweep ν b sz) 19 17 = nI (b + sz) := by
  unfold g_sweep g_sw3
  split
  · exact ⟨sw1_keep, rfl⟩
  · exact ⟨sw1_keep, rfl⟩
theorem m_step {ν : zM} {pg e a c : Nat} {S T : Nat → Prop} {K : zM → Prop} (hJ : JJ ν pg S T e) (hK : IK ν a c) (h0 : ν 19 13 ≠ 0) (k : K (g_step ν pg)) : f_Mo_step ν K := by
  have hT := J_tick (b := 0) (Or.inl rfl) hJ
  unfold f_Mo_step
  refine m_tick (Or.inl rfl) hK ?_
  have e13 : (g_tick ν 0) 19 13 = ν 19 13 := by rw [tick0]; rfl
  have e14 : (g_tick ν 0) 19 14 = ν 19 14 := by rw [tick0]; rfl
  have e17 : (g_tick ν 0) 19 17 = ν 19 17 := by rw [tick0]; rfl
  have e21 : (g_tick ν 0) 21 = ν 21 := by rw [tick0]; rfl
  have enb : ∀ pl, nbk (g_tick ν 0) pl pg = nbk ν pl pg := fun pl => by unfold nbk; rw [e21]
  obtain ⟨n, hn, hpb, hnn, -⟩ := IP.pb hT.1 hT.2.2.1
  have hle := hpb.1
  unfold g_step at k
  rcases hJ.part with q | ⟨q, -, r, hr, h14⟩ | q | q
  · exact absurd q h0
  · rw [if_pos q, h14, nN_n (by omega)] at k
    refine bn_f (by rw [e13]; exact q) ?_
    have hx := hT.root hr
    have key := m_roots (K := fun ζ => (¬ (ζ 19 13) = (3 : Int32) → K ζ) ∧ ((ζ 19 13) = (3 : Int32) → f_Mo_nextBlock ζ (fun r7 μ6 => (¬ r7 = (-1 : Int32) → K μ6) ∧ (r7 = (-1 : Int32) → ∀ μ9 : zM, μ9 = zp μ6 19 13 (0 : Int32) → ∀ μ10 : zM, μ10 = zp μ9 19 19 ((μ9 19 19) + (1 : Int32)) → K μ10)))) (by rw [e13]; exact q) hr (by rw [e14]; exact h14) (hx.imp id (fun ⟨t, t1, _, t3⟩ => ⟨t, t1, t3.1⟩)) hn (by omega) ?_
    · exact key
    · have p3 : (g_roots (g_tick ν 0) r) 19 13 ≠ 3 := by
        unfold g_roots
        split
        · exact (show ¬ (2 : Int32) = 3 by decide)
        · show (g_grey (g_tick ν 0) _) 19 13 ≠ 3
          rw [gr_part.1, e13, q]; decide
      exact bn_t p3 k
  · rw [if_neg (by rw [q]; decide), if_pos q] at k
    refine bn_t (by rw [e13, q]; decide) (bn_f (by rw [e13]; exact q) ?_)
    refine m_mark hT.1 (hT.hnd (by rw [e13]; exact q)) hn hle ?_
    have mk := mark_keep (ν := g_tick ν 0) (by rw [e13]; exact q)
    refine m_end (pg := pg) ⟨hT.1.1.1, hT.1.1.2.1, by rw [mk.1]; exact hT.1.1.2.2⟩ (fun h3 => ⟨0, mk.2 h3, by omega⟩) k
  · rw [if_neg (by rw [q]; decide), if_neg (by rw [q]; decide)] at k
    refine bn_t (by rw [e13, q]; decide) (bn_t (by rw [e13, q]; decide) ?_)
    obtain ⟨pl, b, w1, w2, w3, w4, w5, w6, w7, w8, w9, w10⟩ := hJ.swp q
    have gp := hJ.1.1.2.1
    rw [w6] at k
    have hb1 := blk_in w8 w9
    have hb2 := bs_le (c := ν 21 (b / 64))
    refine m_sweep (pl := pl) (b := b) (sz := bs (ν 21 (b / 64))) hT.1.1 (by rw [e17]; exact w1) w2 (by rw [enb]; exact w5) (by omega) (by rw [e21]; exact w8) (by rw [e21]) (by rw [e21]; exact w9) ?_
    refine m_end (pg := pg) ⟨hT.1.1.1, gp, by rw [sweep_keep.1]; exact hT.1.1.2.2⟩ (fun _ => ⟨b + bs (ν 21 (b / 64)), sweep_keep.2, by omega⟩) k
theorem k_step {ν μ : zM} {pg e a c : Nat} {S T : Nat → Prop} {K : zM → Prop} (hJ : JJ ν pg S T e) (hR : RA ν μ pg) (hK : IK ν a c) (h0 : ν 19 13 ≠ 0) (k : ∀ μ' : zM, RA (g_step ν pg) μ' pg → ((g_step ν pg) 19 13 ≠ 0 → μ' 1 8 = μ 1 8) → K μ') : f_Co_step μ K := by
  have hT := J_tick (b := 0) (Or.inl rfl) hJ
  unfold f_Co_step
  refine k_ctick hR hK (fun μ1 hR1 h8 => ?_)
  have e13 : (g_tick ν 0) 19 13 = ν 19 13 := by rw [tick0]; rfl
  have e14 : (g_tick ν 0) 19 14 = ν 19 14 := by rw [tick0]; rfl
  have e15 : (g_tick ν 0) 19 15 = ν 19 15 := by rw [tick0]; rfl
  have e17 : (g_tick ν 0) 19 17 = ν 19 17 := by rw [tick0]; rfl
  have e21 : (g_tick ν 0) 21 = ν 21 := by rw [tick0]; rfl
  have enb : ∀ pl, nbk (g_tick ν 0) pl pg = nbk ν pl pg := fun pl => by unfold nbk; rw [e21]
  have em : μ1 1 7 = ν 19 13 := by rw [hR1.2.2.2.1.2.2.2.1, e13]
  obtain ⟨n, hn, hpb, hnn, hbt⟩ := IP.pb hT.1 hT.2.2.1
  unfold g_step at k
  rw [em]
  rcases hJ.part with q | ⟨q, h15, r, hr, h14⟩ | q | q
  · exact absurd q h0
  · rw [if_pos q, h14, nN_n (by omega)] at k
    rw [q]
    refine ⟨fun _ => ?_, fun h => absurd h (by decide), fun h => absurd h (by decide), fun h => absurd (by decide) h⟩
    exact k_roots hT.1 hR1 (by rw [e13]; exact q) (by rw [e15]; exact h15) hr (by rw [e14]; exact h14) ((hT.root hr).imp id (fun ⟨t, t1, _, t3⟩ => ⟨t, t1, t3⟩)) hn hpb (fun μ' r1 r2 => k μ' r1 (fun _ => r2.trans h8))
  · rw [if_neg (by rw [q]; decide), if_pos q] at k
    rw [q]
    refine ⟨fun h => absurd h (by decide), fun _ => ?_, fun h => absurd h (by decide), fun _ h => absurd (by decide) h⟩
    exact k_mark hT.1 hR1 (by rw [e13]; exact q) (hT.hnd (by rw [e13]; exact q)) hn hpb hbt (fun μ' r1 r2 => k μ' r1 (fun z => (r2 z).trans h8))
  · rw [if_neg (by rw [q]; decide), if_neg (by rw [q]; decide)] at k
    rw [q]
    refine ⟨fun h => absurd h (by decide), fun h => absurd h (by decide), fun _ => ?_, fun _ _ h => absurd (by decide) h⟩
    obtain ⟨pl, b, w1, w2, w3, w4, w5, w6, w7, w8, w9, w10⟩ := hJ.swp q
    rw [w6] at k
    exact k_sweep (pl := pl) (b := b) (sz := bs (ν 21 (b / 64))) hT.1 hR1 (by rw [e13]; exact q) (by rw [e15]; exact w10) (by rw [e17]; exact w1) w2 (by rw [enb]; exact w5) w7 (by rw [e21]; exact w8) (by rw [e21]) (by rw [e21]; exact w9) (fun μ' r1 r2 => k μ' r1 (fun z => (r2 z).trans h8))
