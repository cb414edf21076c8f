/-! reachable and whole: the class's walk -/
noncomputable def rb (ν : zM) (a : Nat) : Bool := @decide (rch ν a) (Classical.propDecidable _)
theorem rb_t {ν : zM} {a : Nat} (h : rch ν a) : rb ν a = true := @decide_eq_true _ (Classical.propDecidable _) h
theorem rb_f {ν : zM} {a : Nat} (h : ¬ rch ν a) : rb ν a = false := @decide_eq_false _ (Classical.propDecidable _) h
section WALK
variable {ν μ : zM} {pg e : Nat} {S T : Nat → Prop}
theorem rch_k (hJ : JJ ν pg S T e) {a : Nat} (h : rch ν a) : S a ∧ a < 4096 ∧ ν 22 a ≠ 0 ∧ a % 4 = 0 ∧ a < 64 * pg := by
  have hS := rch_S hJ.2.2.2.2.1.2.1 hJ.2.2.2.2.1.2.2.1 h
  obtain ⟨h1, h2⟩ := hJ.2.2.2.2.1.1 a hS
  obtain ⟨h3, h4, -⟩ := I3.al hJ.1.1 hJ.1.2.1 hJ.1.2.2.1 h1 h2
  exact ⟨hS, h1, h2, h3, h4⟩
theorem tgt (hJ : JJ ν pg S T e) {a j : Nat} (h : rch ν a) (hob : ob ν a) (j1 : 1 ≤ j) (j2 : j ≤ ptn ν a) : (ν 20 (a + j) = 0 ∧ ν 20 (a + j) - 1 = -1) ∨ ∃ t : Nat, t < 4096 ∧ ν 20 (a + j) = nI (t + 1) ∧ ν 20 (a + j) - 1 = nI t ∧ rch ν t ∧ (ν 22 a = 1 → ob ν t) ∧ (ν 22 a = 2 → ν 22 t = 3) := by
  rcases hJ.2.2.2.2.1.2.2.1 a (rch_k hJ h).1 hob j j1 j2 with z | ⟨t, z1, z2, z3, z4, z5⟩
  · rw [z]; exact Or.inl ⟨rfl, by decide⟩
  · exact Or.inr ⟨t, z3, z1, by rw [z1, nI_pm], rch_p h hob j1 j2 z3 z1, z4, z5⟩
def sc (μ' : zM) : Nat := ct (fun s => kb (μ' 16 s)) 0 1024
def clW (ν μ' : zM) (z : Nat) (X : Nat → Nat → Prop) : Prop := ∀ s, s < 1024 → μ' 16 s = 1 → ob ν (4 * s) → (∃ i, i < z ∧ μ' 18 i = nI (4 * s)) ∨ ∀ j t, 1 ≤ j → j ≤ ptn ν (4 * s) → t < 4096 → ν 20 (4 * s + j) = nI (t + 1) → μ' 16 (t / 4) = 1 ∨ X (4 * s) j
def CW (ν μ μ' : zM) (n R : Nat) (X : Nat → Nat → Prop) : Prop := (∀ q, q < 15 → μ' q = μ q) ∧ μ' 15 3 = 1 ∧ (∀ s, s < 1024 → μ' 16 s = 0 ∨ (μ' 16 s = 1 ∧ rch ν (4 * s))) ∧ μ' 15 2 = nI (sc μ') ∧ (∀ r t, r < R → t < 4096 → ν 26 r = nI t → μ' 16 (t / 4) = 1) ∧
  ∃ z : Nat, μ' 17 1 = nI z ∧ n + z ≤ sc μ' ∧ (∀ i, i < z → ∃ a, μ' 18 i = nI a ∧ ob ν a ∧ rch ν a ∧ μ' 16 (a / 4) = 1) ∧ clW ν μ' z X
theorem k_come {μ' : zM} {n R : Nat} {X : Nat → Nat → Prop} {x lf : Int32} {K : zM → Prop} (hJ : JJ ν pg S T e) (hR : RA ν μ pg) (hW : CW ν μ μ' n R X) (hx : x = -1 ∨ ∃ t : Nat, x = nI t ∧ rch ν t ∧ ((lf = 0 ∧ ob ν t) ∨ (lf = 1 ∧ ν 22 t = 3))) (k : ∀ μ'' : zM, CW ν μ μ'' n R X → (∀ t : Nat, t < 4096 → x = nI t → μ'' 16 (t / 4) = 1) → (∀ s, μ' 16 s = 1 → μ'' 16 s = 1) → K μ'') : f_Wa_comeTo μ' x lf K := by
  unfold f_Wa_comeTo
  rcases hx with rfl | ⟨t, rfl, hrt, hlf⟩
  · exact bn_f rfl (k μ' hW (fun t ht q => absurd q.symm (nI_m1 (by omega))) (fun _ q => q))
  · obtain ⟨hSt, t1, t2, t3, t4⟩ := rch_k hJ hrt
    have gp := hJ.1.1.2.1
    obtain ⟨w1, w2, w3, w4, w5, z, w6, w7, w8, w9⟩ := id hW
    have t44 : 4 * (t / 4) = t := by omega
    refine bn_t (nI_m1 (by omega)) ?_
    refine k_kind (pg := pg) (by rw [w1 2 (by decide)]; exact hR.1.1) gp t4 ?_
    rw [w1 4 (by decide), hR.1.2.2.2.1 _ (by omega), t44]
    refine br_f t2 ?_
    have fin : ∀ lf' : Int32, (lf' = 0 ∧ ob ν t) ∨ (lf' = 1 ∧ ν 22 t = 3) → lf' = lf → ∀ x8 : Int32, x8 = nI t / (4 : Int32) → ((x8 < 0 → (K μ')) ∧ (¬ x8 < 0 → (((1024 : Int32) ≤ x8 → (K μ')) ∧ (¬ (1024 : Int32) ≤ x8 → (vp_in x8 1024 ∧ (((μ' 16 x8.toNatClampNeg) = 0 → (vp_in x8 1024 ∧ ∀ μ14 : zM, μ14 = zp μ' 16 x8.toNatClampNeg (vp_nar .byte (1 : Int32)) → (∀ μ15 : zM, μ15 = zp μ14 15 2 ((μ14 15 2) + (1 : Int32)) → ((¬ lf = 0 → (K μ15)) ∧ (lf = 0 → (f_Pi_push_17 μ15 (nI t) (fun μ17 => (K μ17)))))))) ∧ (¬ (μ' 16 x8.toNatClampNeg) = 0 → (K μ')))))))) := by
      intro lf' hl he x8 e8
      rw [nI_d4 (by omega)] at e8
      subst e8
      refine br_f (nI_pos (by omega)) (br_f (nI_ge (b := 1024) (by omega) (by decide)) ⟨vp_in_nI (by omega) (by decide), ?_⟩)
      rw [nI_clamp (by omega), nb1]
      refine ⟨fun q => ⟨vp_in_nI (by omega) (by decide), fun μ14 e14 μ15 e15 => ?_⟩, fun q => ?_⟩
      · subst e14 e15
        have hs1 : ct (fun s => kb (upd (μ' 16) (t / 4) 1 s)) 0 1024 = sc μ' + 1 := ct_one (f := fun s => kb (upd (μ' 16) (t / 4) 1 s)) (g := fun s => kb (μ' 16 s)) (x := t / 4) 1024 (fun i _ _ h => by rw [up_n h]) (kb_t (by rw [up_s]; decide)) (kb_f q) (by omega) (by omega)
        have hle : sc μ' + 1 ≤ 1024 := by rw [← hs1]; exact ct_le 1024
        have mono : ∀ s, μ' 16 s = 1 → upd (μ' 16) (t / 4) 1 s = 1 := fun s hs => by
          by_cases c : s = t / 4
          · rw [c, up_s]
          · rw [up_n c]; exact hs
        have seenT : ∀ u : Nat, u < 4096 → nI t = nI u → upd (μ' 16) (t / 4) 1 (u / 4) = 1 := fun u hu q => by
          rw [nI_eq (by omega) (by omega)] at q
          rw [q, up_s]
        have f3 : ∀ s, s < 1024 → upd (μ' 16) (t / 4) 1 s = 0 ∨ (upd (μ' 16) (t / 4) 1 s = 1 ∧ rch ν (4 * s)) := fun s hs => by
          by_cases c : s = t / 4
          · rw [c, up_s, t44]; exact Or.inr ⟨rfl, hrt⟩
          · rw [up_n c]; exact w3 s hs
        have f4 : μ' 15 2 + 1 = nI (ct (fun s => kb (upd (μ' 16) (t / 4) 1 s)) 0 1024) := by rw [hs1, w4, nI_1]
        refine ⟨fun l0 => ?_, fun l0 => ?_⟩
        · have h3 : ν 22 t = 3 := by
            rcases hl with ⟨z1, -⟩ | ⟨-, z2⟩
            · rw [he] at z1; exact absurd z1 l0
            · exact z2
          refine k _ ⟨fun q' hq' => ?_, w2, f3, f4, fun r u r1 r2 r3 => mono _ (w5 r u r1 r2 r3), z, w6, ?_, fun i hi => ?_, fun s hs hs1' hob => ?_⟩ seenT mono
          · rw [zp_n (by omega), zp_n (by omega)]; exact w1 q' hq'
          · show n + z ≤ ct (fun s => kb (upd (μ' 16) (t / 4) 1 s)) 0 1024
            rw [hs1]; omega
          · obtain ⟨a, a1, a2, a3, a4⟩ := w8 i hi
            exact ⟨a, a1, a2, a3, mono _ a4⟩
          · by_cases c : s = t / 4
            · rw [c, t44] at hob
              have := hob.2
              rw [h3] at this
              rcases this with y | y <;> exact absurd y (by decide)
            · have hs2 : μ' 16 s = 1 := by
                have hs1' : upd (μ' 16) (t / 4) 1 s = 1 := hs1'
                rw [up_n c] at hs1'; exact hs1'
              refine (w9 s hs hs2 hob).imp id (fun y j u j1 j2 u1 u2 => (y j u j1 j2 u1 u2).imp (mono _) id)
        · have hobt : ob ν t := by
            rcases hl with ⟨-, z1⟩ | ⟨z2, -⟩
            · exact z1
            · rw [he, l0] at z2; exact absurd z2 (by decide)
          unfold f_Pi_push_17
          have ez : (zp (zp μ' 16 (t / 4) 1) 15 2 (μ' 15 2 + 1)) 17 1 = nI z := w6
          rw [show (zp (zp μ' 16 (t / 4) 1) 15 2 ((zp μ' 16 (t / 4) 1) 15 2 + 1)) 17 1 = nI z from w6]
          refine br_f (nI_pos (by omega)) (br_f (nI_ge (b := 1024) (by omega) (by decide)) ⟨vp_in_nI (by omega) (by decide), fun μ4 e4 μ5 e5 => ?_⟩)
          rw [nI_clamp (by omega)] at e4
          subst e4 e5
          refine k _ ⟨fun q' hq' => ?_, w2, f3, f4, fun r u r1 r2 r3 => mono _ (w5 r u r1 r2 r3), z + 1, ?_, ?_, fun i hi => ?_, fun s hs hs1' hob => ?_⟩ seenT mono
          · rw [zp_n (by omega), zp_n (by omega), zp_n (by omega), zp_n (by omega)]; exact w1 q' hq'
          · show μ' 17 1 + 1 = nI (z + 1)
            rw [w6, nI_1]
          · show n + (z + 1) ≤ ct (fun s => kb (upd (μ' 16) (t / 4) 1 s)) 0 1024
            rw [hs1]; omega
          · by_cases c : i = z
            · exact ⟨t, by show upd (μ' 18) z (nI t) i = nI t; rw [c, up_s], hobt, hrt, by show upd (μ' 16) (t / 4) 1 (t / 4) = 1; exact up_s⟩
            · obtain ⟨a, a1, a2, a3, a4⟩ := w8 i (by omega)
              exact ⟨a, by show upd (μ' 18) z (nI t) i = nI a; rw [up_n c]; exact a1, a2, a3, mono _ a4⟩
          · by_cases c : s = t / 4
            · refine Or.inl ⟨z, by omega, ?_⟩
              show upd (μ' 18) z (nI t) z = nI (4 * s)
              rw [up_s, c, t44]
            · have hs2 : μ' 16 s = 1 := by
                have hs1' : upd (μ' 16) (t / 4) 1 s = 1 := hs1'
                rw [up_n c] at hs1'; exact hs1'
              rcases w9 s hs hs2 hob with ⟨i, i1, i2⟩ | y
              · exact Or.inl ⟨i, by omega, by show upd (μ' 18) z (nI t) i = _; rw [up_n (by omega)]; exact i2⟩
              · exact Or.inr (fun j u j1 j2 u1 u2 => (y j u j1 j2 u1 u2).imp (mono _) id)
      · refine k μ' hW (fun u hu q' => ?_) (fun _ q => q)
        rw [nI_eq (by omega) (by omega)] at q'
        rw [← q']
        exact (w3 (t / 4) (by omega)).elim (fun z => absurd z q) (fun z => z.1)
    rcases hlf with ⟨h1, h2⟩ | ⟨h1, h2⟩
    · refine bn_t (by rcases h2.2 with z | z <;> rw [z] <;> decide) (br_t h1 (fin lf (Or.inl ⟨h1, h2⟩) rfl))
    · exact bn_f h2 (br_t h1 (fin lf (Or.inr ⟨h1, h2⟩) rfl))
theorem CW.X {μ' : zM} {n R : Nat} {X X' : Nat → Nat → Prop} (hW : CW ν μ μ' n R X) (h : ∀ a j t, X a j → 1 ≤ j → j ≤ ptn ν a → t < 4096 → ν 20 (a + j) = nI (t + 1) → μ' 16 (t / 4) = 1 ∨ X' a j) : CW ν μ μ' n R X' := by
  obtain ⟨w1, w2, w3, w4, w5, z, w6, w7, w8, w9⟩ := hW
  refine ⟨w1, w2, w3, w4, w5, z, w6, w7, w8, fun s hs hs1 hob => (w9 s hs hs1 hob).imp id (fun y j t j1 j2 t1 t2 => ?_)⟩
  exact (y j t j1 j2 t1 t2).elim Or.inl (fun q => h _ j t q j1 j2 t1 t2)
theorem k_partsL {a n R : Nat} {lf : Int32} {K : zM → Prop} (hJ : JJ ν pg S T e) (hR : RA ν μ pg) (hra : rch ν a) (hob : ob ν a) (hlf : (lf = 0 ∧ ν 22 a = 1) ∨ (lf = 1 ∧ ν 22 a = 2)) (k : ∀ μ'' : zM, CW ν μ μ'' n R (fun _ _ => False) → K μ'') : ∀ (m j : Nat) (μ' : zM), j + m = ptn ν a → CW ν μ μ' n R (fun a' j' => a' = a ∧ j < j') → F_Wa_comeToPartsOf_25 K (m + 1) (nI a) lf (nI (ptn ν a)) (nI j) μ'
  | 0, j, μ', h, hW => by
    have p31 := (ob_ptn hJ.1 hob).2.1
    refine br_t (nI_le (by omega) (by omega)) (k μ' (hW.X (fun a' j' t q j1 j2 => ?_)))
    obtain ⟨q1, q2⟩ := q
    rw [q1] at j2
    omega
  | m + 1, j, μ', h, hW => by
    obtain ⟨p24, p31, p64, p4, p96, pa, pbs⟩ := ob_ptn hJ.1 hob
    have gp := hJ.1.1.2.1
    have w1 := hW.1
    refine br_f (nI_ge (by omega) (by omega)) ?_
    rw [nI_1, nI_add, show a + 1 + j = a + (j + 1) by omega]
    refine k_ptrAt (pg := pg) (by rw [w1 2 (by decide)]; exact hR.1.1) gp (by omega) ?_
    rw [w1 3 (by decide), hR.1.2.2.1 _ (by omega)]
    have hx := tgt hJ hra hob (j := j + 1) (by omega) (by omega)
    refine k_come hJ hR hW ?_ (fun μ'' hW'' hsee _ => ?_)
    · rcases hx with ⟨-, z⟩ | ⟨t, t1, t2, t3, t4, t5, t6⟩
      · exact Or.inl z
      · refine Or.inr ⟨t, t3, t4, ?_⟩
        rcases hlf with ⟨l1, l2⟩ | ⟨l1, l2⟩
        · exact Or.inl ⟨l1, t5 l2⟩
        · exact Or.inr ⟨l1, t6 l2⟩
    · intro x10 e10
      rw [nI_1] at e10
      subst e10
      refine k_partsL hJ hR hra hob hlf k m (j + 1) μ'' (by omega) (hW''.X (fun a' j' t q j1 j2 t1 t2 => ?_))
      obtain ⟨q1, q2⟩ := q
      by_cases c : j' = j + 1
      · left
        rw [q1, c] at t2
        exact hsee t t1 (by rw [t2, nI_pm])
      · exact Or.inr ⟨q1, by omega⟩
theorem k_parts {a n R : Nat} {μ' : zM} {K : zM → Prop} (hJ : JJ ν pg S T e) (hR : RA ν μ pg) (hra : rch ν a) (hob : ob ν a) (hW : CW ν μ μ' n R (fun a' _ => a' = a)) (k : ∀ μ'' : zM, CW ν μ μ'' n R (fun _ _ => False) → K μ'') : f_Wa_comeToPartsOf μ' (nI a) K := by
  obtain ⟨p24, p31, p64, p4, p96, pa, pbs⟩ := ob_ptn hJ.1 hob
  have gp := hJ.1.1.2.1
  have w1 := hW.1
  have b1 : μ' 2 7 = nI pg := by rw [w1 2 (by decide)]; exact hR.1.1
  have a44 : 4 * (a / 4) = a := by omega
  have e6 : μ' 6 (a / 4) = nI (ptn ν a) := by rw [w1 6 (by decide), hR.1.2.2.2.2.2.1 _ (by omega) (by rw [a44]; exact hob.nz), a44]; exact p24
  have hW0 : CW ν μ μ' n R (fun a' j' => a' = a ∧ 0 < j') := hW.X (fun a' j' t q j1 _ _ _ => Or.inr ⟨q, by omega⟩)
  unfold f_Wa_comeToPartsOf
  refine k_kind b1 gp pa ?_
  rw [w1 4 (by decide), hR.1.2.2.2.1 _ (by omega), a44]
  refine ⟨fun q => ?_, fun q => ?_⟩
  · refine k_ptrs b1 gp pa ?_
    rw [e6]
    exact ⟨ptn ν a + 1, k_partsL hJ hR hra hob (Or.inl ⟨rfl, hob.2.elim id (fun z => absurd z q)⟩) k (ptn ν a) 0 μ' (by omega) hW0⟩
  · refine k_ptrs b1 gp pa ?_
    rw [e6]
    exact ⟨ptn ν a + 1, k_partsL hJ hR hra hob (Or.inr ⟨rfl, q⟩) k (ptn ν a) 0 μ' (by omega) hW0⟩
theorem k_goL {R : Nat} {K : zM → Prop} (hJ : JJ ν pg S T e) (hR : RA ν μ pg) (k : ∀ (μ'' : zM) (n : Nat), CW ν μ μ'' n R (fun _ _ => False) → μ'' 17 1 = nI 0 → K μ'') : ∀ (m n : Nat) (μ' : zM), n + m = 1024 → CW ν μ μ' n R (fun _ _ => False) → F_Wa_goFrom_63 K (m + 1) (nI n) μ'
  | 0, n, μ', h, hW => by
    obtain ⟨w1, w2, w3, w4, w5, z, w6, w7, w8, w9⟩ := id hW
    have hle : sc μ' ≤ 1024 := ct_le 1024
    have hz : z = 0 := by omega
    exact br_t (nI_le (a := 1024) (by omega) (by omega)) (k μ' n hW (by rw [w6, hz]))
  | m + 1, n, μ', h, hW => by
    obtain ⟨w1, w2, w3, w4, w5, z, w6, w7, w8, w9⟩ := id hW
    have hle : sc μ' ≤ 1024 := ct_le 1024
    refine br_f (nI_ge (b := 1024) (by omega) (by decide)) ?_
    rw [w6]
    refine ⟨fun q => ?_, fun q => ?_⟩
    · rw [show (0 : Int32) = nI 0 from rfl, nI_leI (by omega) (by decide)] at q
      exact k μ' n hW (by rw [w6, show z = 0 by omega])
    · have q' := q
      rw [show (0 : Int32) = nI 0 from rfl, nI_leI (by omega) (by decide)] at q'
      obtain ⟨y, hy⟩ : ∃ y, z = y + 1 := ⟨z - 1, by omega⟩
      subst hy
      unfold f_Pi_pop_17
      rw [w6]
      refine br_f q (br_t (nI_le (b := 1024) (by omega) (by decide)) ?_)
      rw [nI_pm]
      intro μ3 e3
      subst e3
      refine ⟨by show vp_in (nI y) 1024; exact vp_in_nI (by omega) (by decide), ?_⟩
      show f_Wa_comeToPartsOf (zp μ' 17 1 (nI y)) (μ' 18 (nI y).toNatClampNeg) _
      rw [nI_clamp (by omega)]
      obtain ⟨a, a1, a2, a3, a4⟩ := w8 y (by omega)
      rw [a1]
      refine k_parts (n := n + 1) (R := R) hJ hR a3 a2 ⟨fun q' hq' => ?_, w2, w3, w4, w5, y, ?_, ?_, fun i hi => w8 i (by omega), fun s hs hs1 hob => ?_⟩ (fun μ'' hW'' => ?_)
      · rw [zp_n (by omega)]; exact w1 q' hq'
      · show upd (μ' 17) 1 (nI y) 1 = nI y
        exact up_s
      · show n + 1 + y ≤ sc μ'
        omega
      · rcases w9 s hs hs1 hob with ⟨i, i1, i2⟩ | z
        · by_cases c : i = y
          · right
            intro j t _ _ _ _
            right
            rw [c, a1] at i2
            have := a2.1
            rw [nI_eq (by omega) (by omega)] at i2
            exact i2.symm
          · exact Or.inl ⟨i, by omega, i2⟩
        · exact Or.inr (fun j t j1 j2 t1 t2 => (z j t j1 j2 t1 t2).imp id (fun f => f.elim))
      · intro x11 e11
        rw [nI_1] at e11
        subst e11
        exact k_goL hJ hR k m (n + 1) μ'' (by omega) hW''
theorem k_rtsL {K : zM → Prop} (hJ : JJ ν pg S T e) (hR : RA ν μ pg) (k : ∀ μ'' : zM, CW ν μ μ'' 0 16 (fun _ _ => False) → ∃ n : Nat, F_Wa_goFrom_63 K n (0 : Int32) μ'') : ∀ (m r : Nat) (μ' : zM), r + m = 16 → CW ν μ μ' 0 r (fun _ _ => False) → F_Wa_goFrom_34 K (m + 1) (16 : Int32) (nI r) μ'
  | 0, r, μ', h, hW => by
    have : r = 16 := by omega
    subst this
    exact br_t (nI_le (a := 16) (b := 16) (by omega) (by decide)) (k μ' hW)
  | m + 1, r, μ', h, hW => by
    refine br_f (nI_ge (b := 16) (by omega) (by decide)) ⟨vp_in_nI (by omega) (by decide), ?_⟩
    rw [nI_clamp (by omega), hW.1 14 (by decide), hR.2.2.1 r (by omega)]
    intro x13 e13
    subst e13
    refine k_come hJ hR hW ?_ (fun μ'' hW'' hsee _ => ?_)
    · rcases hJ.root (r := r) (by omega) with z | ⟨t, z1, z2, z3⟩
      · exact Or.inl z
      · exact Or.inr ⟨t, z1, rch_r (by omega) z3.1 z1, Or.inl ⟨rfl, z3⟩⟩
    · intro x15 e15
      rw [nI_1] at e15
      subst e15
      refine k_rtsL hJ hR k m (r + 1) μ'' (by omega) ?_
      obtain ⟨w1, w2, w3, w4, w5, w6⟩ := hW''
      refine ⟨w1, w2, w3, w4, fun r' t r1 r2 r3 => ?_, w6⟩
      by_cases c : r' = r
      · rw [c] at r3
        exact hsee t r2 r3
      · exact w5 r' t (by omega) r2 r3
theorem CW.fin {μ' : zM} {n : Nat} (hJ : JJ ν pg S T e) (hW : CW ν μ μ' n 16 (fun _ _ => False)) (h0 : μ' 17 1 = nI 0) : μ' 15 2 = nI (ct (rb ν) 0 4096) := by
  obtain ⟨w1, w2, w3, w4, w5, z, w6, w7, w8, w9⟩ := hW
  have hle : sc μ' ≤ 1024 := ct_le 1024
  have hz : z = 0 := by
    rw [h0, nI_eq (by decide) (by omega)] at w6
    omega
  subst hz
  have all : ∀ x, rch ν x → μ' 16 (x / 4) = 1 := fun x hx => by
    refine hx (fun y => μ' 16 (y / 4) = 1) (fun r t hr ht q => w5 r t hr ht q) (fun a i t ht ha hob i1 i2 q => ?_)
    obtain ⟨-, -, -, a4, -⟩ := ob_ptn hJ.1 hob
    have a44 : 4 * (a / 4) = a := by omega
    have := hob.1
    rcases w9 (a / 4) (by omega) ha (by rw [a44]; exact hob) with ⟨i', i3, -⟩ | y
    · omega
    · rw [a44] at y
      exact (y i t i1 i2 ht q).elim id (fun f => f.elim)
  have hsum : sc μ' = ct (rb ν) 0 4096 := ?_
  · rw [w4, hsum]
  have e1 : ct (rb ν) 0 (4 * 1024) = ct (fun s => rb ν (0 + 4 * s)) 0 1024 := ct_blk (f := rb ν) (lo := 0) (sz := 4) (by omega) 1024 (fun i j _ j1 j2 => rb_f (fun q => by
    have := (rch_k hJ q).2.2.2.1
    omega))
  rw [show (4096 : Nat) = 4 * 1024 by decide, e1]
  refine ct_same (f := fun s => kb (μ' 16 s)) (g := fun s => rb ν (0 + 4 * s)) 1024 (fun s _ hs => ?_)
  show kb (μ' 16 s) = rb ν (0 + 4 * s)
  rw [Nat.zero_add]
  rcases w3 s (by omega) with q | ⟨q1, q2⟩
  · rw [kb_f q, rb_f]
    intro y
    have := all _ y
    rw [show 4 * s / 4 = s by omega, q] at this
    exact absurd this (by decide)
  · rw [kb_t (by rw [q1]; decide), rb_t q2]
theorem fill16L {K : zM → Prop} {μ : zM} (k : ∀ f : Nat → Int32, (∀ s, s < 1024 → f s = 0) → K (zs μ 16 f)) : ∀ (m j : Nat) (f : Nat → Int32), j + m = 1024 → (∀ s, s < j → f s = 0) → F_Ar_fillB_16_5 K (m + 1) 0 (nI j) (1024 : Int32) (zs μ 16 f)
  | 0, j, f, h, hf => by
    have : j = 1024 := by omega
    subst this
    exact br_t (nI_le (a := 1024) (b := 1024) (by omega) (by decide)) (k f hf)
  | m + 1, j, f, h, hf => by
    refine br_f (nI_ge (b := 1024) (by omega) (by decide)) ⟨vp_in_nI (by omega) (by decide), ?_⟩
    rw [nI_clamp (by omega), nb0]
    intro μ3 e3 x4 e4
    rw [nI_1] at e4
    have e : μ3 = zs μ 16 (upd f j 0) := by
      rw [e3]
      show zs (zs μ 16 f) 16 (upd ((zs μ 16 f) 16) j 0) = _
      rw [zs_zs, zs_s]
    subst e4
    rw [e]
    refine fill16L k m (j + 1) (upd f j 0) (by omega) (fun s hs => ?_)
    by_cases c : s = j
    · rw [c, up_s]
    · rw [up_n c]; exact hf s (by omega)
theorem k_go {K : zM → Prop} (hJ : JJ ν pg S T e) (hR : RA ν μ pg) (k : ∀ μ' : zM, (∀ q, q < 15 → μ' q = μ q) → μ' 15 3 = 1 → μ' 15 2 = nI (ct (rb ν) 0 4096) → K μ') : f_Wa_goFrom μ K := by
  unfold f_Wa_goFrom
  refine ⟨1024 + 1, ?_⟩
  have := fill16L (μ := μ) (K := (fun μ1 => (f_Pi_clearAll_17 μ1 (fun μ2 => (∀ μ3 : zM, μ3 = zp μ2 15 2 (0 : Int32) → (∀ μ4 : zM, μ4 = zp μ3 15 3 (1 : Int32) → (∃ n : Nat, F_Wa_goFrom_34 K n (16 : Int32) (0 : Int32) μ4))))))) (fun f hf => ?_) 1024 0 (μ 16) (by omega) (fun s hs => by omega)
  · rw [zs_id] at this
    exact this
  · unfold f_Pi_clearAll_17
    refine nm_e (nm_e (nm_e ⟨17, ?_⟩))
    refine k_rtsL hJ hR (fun μ'' hW'' => ⟨1025, k_goL hJ hR (fun μ3 n hW3 h0 => k μ3 hW3.1 hW3.2.1 (hW3.fin hJ h0)) 1024 0 μ'' (by omega) hW''⟩) 16 0 _ (by omega) ?_
    have hsc : ct (fun s => kb (f s)) 0 1024 = 0 := ct_z 1024 (fun i _ hi => kb_f (hf i (by omega)))
    refine ⟨fun q hq => ?_, rfl, fun s hs => Or.inl (hf s hs), ?_, fun r t hr => by omega, 0, rfl, by omega, fun i hi => by omega, fun s hs h1 => ?_⟩
    · rw [zp_n (by omega), zp_n (by omega), zp_n (by omega), zs_n (by omega)]
    · show (0 : Int32) = nI (ct (fun s => kb (f s)) 0 1024)
      rw [hsc]; rfl
    · have h1 : f s = 1 := h1
      rw [hf s hs] at h1
      exact absurd h1 (by decide)
end WALK
