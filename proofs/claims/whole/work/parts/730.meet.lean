/-! reachable and whole: the model's rounds -/
def mc (ν' : zM) : Nat := ct (fun a => kb (ν' 29 a)) 0 4096
def MW (ν ν' : zM) : Prop := (∀ q, q ≠ 19 → q ≠ 29 → ν' q = ν q) ∧ (∀ j, j ≠ 26 → j ≠ 27 → ν' 19 j = ν 19 j) ∧ ν' 19 27 = 1 ∧ (∀ a, a < 4096 → ν' 29 a = 0 ∨ (ν' 29 a = 1 ∧ rch ν a)) ∧ ν' 19 26 = nI (mc ν')
def UP (ν1 ν2 : zM) : Prop := ∀ a, ν1 29 a = 1 → ν2 29 a = 1
theorem mc_le {ν' : zM} : mc ν' ≤ 4096 := ct_le _
section MEET
variable {ν : zM} {pg e : Nat} {S T : Nat → Prop}
theorem m_meet1 {ν' : zM} {x lf : Int32} {K : zM → Prop} (hJ : JJ ν pg S T e) (hW : MW ν ν') (hx : x = -1 ∨ ∃ t : Nat, x = nI t ∧ rch ν t ∧ ((lf = 0 ∧ ob ν t) ∨ (lf = 1 ∧ ν 22 t = 3))) (k : ∀ ν'' : zM, MW ν ν'' → UP ν' ν'' → (∀ t : Nat, t < 4096 → x = nI t → ν'' 29 t = 1) → K ν'') : f_Mo_meetOne ν' x lf K := by
  unfold f_Mo_meetOne
  rcases hx with rfl | ⟨t, rfl, hrt, hlf⟩
  · exact br_f (by decide) (k ν' hW (fun _ q => q) (fun t ht q => absurd q.symm (nI_m1 (by omega))))
  · obtain ⟨hSt, t1, t2, t3, t4⟩ := rch_k hJ hrt
    obtain ⟨w1, w2, w3, w4, w5⟩ := id hW
    have hv : vp_in (nI t) 4096 := vp_in_nI t1 (by decide)
    have hcl : (nI t).toNatClampNeg = t := nI_clamp (by omega)
    have e22 : ν' 22 = ν 22 := w1 22 (by decide) (by decide)
    have fin : ∀ μ12 : zM, μ12 = zp ν' 19 27 (1 : Int32) → (vp_in (nI t) 4096 ∧ ((¬ (μ12 29 t) = 0 → (K μ12)) ∧ ((μ12 29 t) = 0 → (vp_in (nI t) 4096 ∧ ∀ μ16 : zM, μ16 = zp μ12 29 t (1 : Int32) → (∀ μ17 : zM, μ17 = zp μ16 19 26 ((μ16 19 26) + (1 : Int32)) → (K μ17)))))) := by
      intro μ12 e12
      rw [zp_id w3] at e12
      subst e12
      refine ⟨hv, fun q => ?_, fun q => ⟨hv, nm_e (nm_e ?_)⟩⟩
      · refine k _ hW (fun _ q => q) (fun u hu q' => ?_)
        rw [nI_eq (by omega) (by omega)] at q'
        rw [← q']
        exact (w4 t t1).elim (fun z => absurd z q) (fun z => z.1)
      · have hs1 : ct (fun a => kb (upd (μ12 29) t 1 a)) 0 4096 = mc μ12 + 1 := ct_one (f := fun a => kb (upd (μ12 29) t 1 a)) (g := fun a => kb (μ12 29 a)) (x := t) _ (fun i _ _ h => by rw [up_n h]) (kb_t (by rw [up_s]; decide)) (kb_f q) (by omega) (by omega)
        refine k _ ⟨fun q' q1 q2 => ?_, fun j j1 j2 => ?_, w3, fun a ha => ?_, ?_⟩ (fun a ha => ?_) (fun u hu q' => ?_)
        · rw [zp_n q1, zp_n q2]; exact w1 q' q1 q2
        · show upd (μ12 19) 26 _ j = ν 19 j
          rw [up_n j1]; exact w2 j j1 j2
        · show upd (μ12 29) t 1 a = 0 ∨ (upd (μ12 29) t 1 a = 1 ∧ rch ν a)
          by_cases c : a = t
          · rw [c, up_s]; exact Or.inr ⟨rfl, hrt⟩
          · rw [up_n c]; exact w4 a ha
        · show μ12 19 26 + 1 = nI (ct (fun a => kb (upd (μ12 29) t 1 a)) 0 4096)
          rw [hs1, w5, nI_1]
        · show upd (μ12 29) t 1 a = 1
          by_cases c : a = t
          · rw [c, up_s]
          · rw [up_n c]; exact ha
        · show upd (μ12 29) t 1 u = 1
          rw [nI_eq (by omega) (by omega)] at q'
          rw [q', up_s]
    rw [hcl, nz1, e22]
    refine br_t (nI_pos' (by omega)) (br_f (by rw [w3]; decide) ?_)
    rcases hlf with ⟨h1, h2⟩ | ⟨h1, h2⟩
    · refine br_t h1 ⟨hv, fun _ => fin, fun n1 => ⟨hv, fun n2 => ?_, fun _ => fin⟩⟩
      exact absurd (h2.2.elim (fun z => absurd z n1) id) n2
    · refine br_f (by rw [h1]; decide) ⟨hv, fun n1 => absurd h2 n1, fun _ => fin⟩
def hnd1 (ν ν0 ν' : zM) (b j0 : Nat) : Prop := ν0 29 b = 1 → ob ν b → ∀ j t, 1 ≤ j → j < j0 → j ≤ ptn ν b → t < 4096 → ν 20 (b + j) = nI (t + 1) → ν' 29 t = 1
def HN (ν ν0 ν' : zM) (a : Nat) : Prop := ∀ b, b < a → hnd1 ν ν0 ν' b 100
theorem hnd1.up {ν0 ν' ν'' : zM} {b j0 : Nat} (h : hnd1 ν ν0 ν' b j0) (u : UP ν' ν'') : hnd1 ν ν0 ν'' b j0 := fun z1 z2 j t j1 j2 j3 t1 t2 => u t (h z1 z2 j t j1 j2 j3 t1 t2)
theorem HN.up {ν0 ν' ν'' : zM} {a : Nat} (h : HN ν ν0 ν' a) (u : UP ν' ν'') : HN ν ν0 ν'' a := fun b hb => (h b hb).up u
theorem HN.s {ν0 ν' : zM} {a : Nat} (h : HN ν ν0 ν' a) (q : hnd1 ν ν0 ν' a 100) : HN ν ν0 ν' (a + 1) := fun b hb => by
  by_cases c : b = a
  · rw [c]; exact q
  · exact h b (by omega)
theorem m_84L {ν0 : zM} {a : Nat} {x2 : Int32} {K : zM → Prop} {C9 : Int32 → zM → Prop} {C0 : Int32 → Int32 → zM → Prop} (hJ : JJ ν pg S T e) (ha : a < 4096) (c0 : ∀ ν'' : zM, MW ν ν'' → UP ν0 ν'' → HN ν ν0 ν'' (a + 1) → C0 x2 (nI (a + 1)) ν'') : ∀ (m j : Nat) (ν' : zM), j + m = 33 → 1 ≤ j → MW ν ν' → UP ν0 ν' → HN ν ν0 ν' a → hnd1 ν ν0 ν' a j → F_Mo_meet_84 K C9 C0 (m + 1) x2 (nI a) (nI j) ν' := by
  intro m
  induction m with
  | zero =>
    intro j ν' h j1 hW hU hH hh
    have hj : j = 33 := by omega
    subst hj
    obtain ⟨w1, w2, w3, w4, w5⟩ := id hW
    have hv : vp_in (nI a) 4096 := vp_in_nI ha (by decide)
    have hcl : (nI a).toNatClampNeg = a := nI_clamp (by omega)
    have nx : hnd1 ν ν0 ν' a 100 → ∀ x11 : Int32, x11 = nI a + 1 → C0 x2 x11 ν' := fun q x11 e11 => by
      rw [nI_1] at e11
      subst e11
      exact c0 ν' hW hU (hH.s q)
    refine ⟨hv, ?_⟩
    rw [hcl, w1 22 (by decide) (by decide), w1 24 (by decide) (by decide)]
    refine ⟨fun q => nx (fun z _ => ?_), fun q => ⟨hv, fun q2 => nx (fun _ z => ?_), fun q2 => ⟨hv, fun q3 => nx (fun z1 z2 j t k1 k2 k3 => ?_), fun q3 => ?_⟩⟩⟩
    · have := hU a z
      rw [q] at this
      exact absurd this (by decide)
    · have := z.2
      rw [q2] at this
      rcases this with y | y <;> exact absurd y (by decide)
    · exact hh z1 z2 j t k1 (by have := (ob_ptn hJ.1 z2).2.1; omega) k3
    · exfalso
      have hra : rch ν a := (w4 a ha).elim (fun z => absurd z q) (fun z => z.2)
      obtain ⟨-, -, k2, -⟩ := rch_k hJ hra
      have hob : ob ν a := ⟨ha, by
        rcases hJ.1.2.2.1 a ha with z | ⟨z, -⟩
        · exact absurd z k2
        · rcases z with z | z | z
          · exact Or.inl z
          · exact Or.inr z
          · exact absurd z q2⟩
      obtain ⟨p24, p31, -⟩ := ob_ptn hJ.1 hob
      rw [p24, nI_ltI (by omega) (by omega)] at q3
      omega
  | succ m ih =>
    intro j ν' h j1 hW hU hH hh
    obtain ⟨w1, w2, w3, w4, w5⟩ := id hW
    have hv : vp_in (nI a) 4096 := vp_in_nI ha (by decide)
    have hcl : (nI a).toNatClampNeg = a := nI_clamp (by omega)
    have nx : hnd1 ν ν0 ν' a 100 → ∀ x11 : Int32, x11 = nI a + 1 → C0 x2 x11 ν' := fun q x11 e11 => by
      rw [nI_1] at e11
      subst e11
      exact c0 ν' hW hU (hH.s q)
    refine ⟨hv, ?_⟩
    rw [hcl, w1 22 (by decide) (by decide), w1 24 (by decide) (by decide)]
    refine ⟨fun q => nx (fun z _ => ?_), fun q => ⟨hv, fun q2 => nx (fun _ z => ?_), fun q2 => ⟨hv, ?_⟩⟩⟩
    · have := hU a z
      rw [q] at this
      exact absurd this (by decide)
    · have := z.2
      rw [q2] at this
      rcases this with y | y <;> exact absurd y (by decide)
    · have hra : rch ν a := (w4 a ha).elim (fun z => absurd z q) (fun z => z.2)
      obtain ⟨-, -, k2, -⟩ := rch_k hJ hra
      have hob : ob ν a := ⟨ha, by
        rcases hJ.1.2.2.1 a ha with z | ⟨z, -⟩
        · exact absurd z k2
        · rcases z with z | z | z
          · exact Or.inl z
          · exact Or.inr z
          · exact absurd z q2⟩
      obtain ⟨p24, p31, p64, p4, p96, pa, pbs⟩ := ob_ptn hJ.1 hob
      refine ⟨fun q3 => nx (fun z1 z2 j' t k1 k2 k3 => ?_), fun q3 => ?_⟩
      · rw [p24, nI_ltI (by omega) (by omega)] at q3
        exact hh z1 z2 j' t k1 (by omega) k3
      · rw [p24, nI_ltI (by omega) (by omega)] at q3
        rw [nI_add]
        refine ⟨vp_in_nI (by omega) (by decide), hv, ?_⟩
        rw [nI_clamp (by omega), w1 20 (by decide) (by decide)]
        have hx := tgt hJ hra hob (j := j) j1 (by omega)
        have go : ∀ ν'' : zM, MW ν ν'' → UP ν' ν'' → (∀ t : Nat, t < 4096 → ν 20 (a + j) - 1 = nI t → ν'' 29 t = 1) → ∀ x22 : Int32, x22 = nI j + 1 → F_Mo_meet_84 K C9 C0 (m + 1) x2 (nI a) x22 ν'' := fun ν'' hW'' hU'' hs x22 e22 => by
          rw [nI_1] at e22
          subst e22
          refine ih (j + 1) ν'' (by omega) (by omega) hW'' (fun b hb => hU'' b (hU b hb)) (hH.up hU'') (fun z1 z2 j' t k1 k2 k3 t1 t2 => ?_)
          by_cases c : j' = j
          · rw [c] at t2
            exact hs t t1 (by rw [t2, nI_pm])
          · exact hU'' t (hh z1 z2 j' t k1 (by omega) k3 t1 t2)
        refine ⟨fun q4 => ?_, fun q4 => ?_⟩
        · refine m_meet1 hJ hW ?_ go
          rcases hx with ⟨-, z⟩ | ⟨t, t1, t2, t3, t4, t5, t6⟩
          · exact Or.inl z
          · exact Or.inr ⟨t, t3, t4, Or.inl ⟨rfl, t5 (hob.2.elim id (fun z => absurd z q4))⟩⟩
        · refine m_meet1 hJ hW ?_ go
          rcases hx with ⟨-, z⟩ | ⟨t, t1, t2, t3, t4, t5, t6⟩
          · exact Or.inl z
          · exact Or.inr ⟨t, t3, t4, Or.inr ⟨rfl, t6 q4⟩⟩
theorem m_70L {ν0 : zM} {n0 : Nat} {K : zM → Prop} {C9 : Int32 → zM → Prop} (hJ : JJ ν pg S T e) (hn0 : n0 ≤ 4096) (c9 : ∀ ν'' : zM, MW ν ν'' → UP ν0 ν'' → HN ν ν0 ν'' (64 * pg) → (mc ν'' ≤ n0 → C9 0 ν'') ∧ (¬ mc ν'' ≤ n0 → C9 1 ν'')) : ∀ (m a : Nat) (ν' : zM), a + m = 64 * pg → MW ν ν' → UP ν0 ν' → HN ν ν0 ν' a → F_Mo_meet_70 K C9 (m + 1) (nI n0) (nI a) ν'
  | 0, a, ν', h, hW, hU, hH => by
    have gp := hJ.1.1.2.1
    have : a = 64 * pg := by omega
    subst this
    have e19 : ν' 19 0 = nI pg := by rw [hW.2.1 0 (by decide) (by decide)]; exact hJ.1.1.2.2
    have hm := mc_le (ν' := ν')
    obtain ⟨c1, c2⟩ := c9 ν' hW hU hH
    refine br_t (by rw [e19, nI_64m]; exact nI_le (by omega) (by omega)) ?_
    rw [hW.2.2.2.2, nI_leI (by omega) (by omega)]
    exact ⟨c1, c2⟩
  | m + 1, a, ν', h, hW, hU, hH => by
    have gp := hJ.1.1.2.1
    have e19 : ν' 19 0 = nI pg := by rw [hW.2.1 0 (by decide) (by decide)]; exact hJ.1.1.2.2
    refine br_f (by rw [e19, nI_64m]; exact nI_ge (by omega) (by omega)) ?_
    refine ⟨33, m_84L (ν0 := ν0) hJ (by omega) (fun ν'' hW'' hU'' hH'' => ?_) 32 1 ν' (by omega) (by omega) hW hU hH (fun _ _ j t j1 j2 => by omega)⟩
    exact m_70L hJ hn0 c9 m (a + 1) ν'' (by omega) hW'' hU'' hH''
def RT (ν ν' : zM) (R : Nat) : Prop := ∀ r t, r < R → t < 4096 → ν 26 r = nI t → ν' 29 t = 1
theorem ct_mono {f g : Nat → Bool} {lo : Nat} : ∀ n, (∀ i, lo ≤ i → i < lo + n → f i = true → g i = true) → ct f lo n ≤ ct g lo n
  | 0, _ => Nat.le_refl _
  | n + 1, h => by
    rw [ct_c, ct_c]
    have := ct_mono n (fun i i1 i2 => h i i1 (by omega))
    have h2 := h (lo + n) (by omega) (by omega)
    split
    · rename_i q
      rw [if_pos (h2 q)]; omega
    · omega
theorem ct_eq {f g : Nat → Bool} {lo : Nat} : ∀ n, (∀ i, lo ≤ i → i < lo + n → f i = true → g i = true) → ct g lo n ≤ ct f lo n → ∀ i, lo ≤ i → i < lo + n → g i = true → f i = true
  | 0, _, _, i, i1, i2, _ => by omega
  | n + 1, h, hc, i, i1, i2, hg => by
    rw [ct_c, ct_c] at hc
    have hm := ct_mono (f := f) (g := g) (lo := lo) n (fun i i1 i2 => h i i1 (by omega))
    have h2 := h (lo + n) (by omega) (by omega)
    by_cases q : f (lo + n) = true
    · rw [if_pos q, if_pos (h2 q)] at hc
      by_cases c : i = lo + n
      · rw [c]; exact q
      · exact ct_eq n (fun i i1 i2 => h i i1 (by omega)) (by omega) i i1 (by omega) hg
    · rw [if_neg q] at hc
      have hng : ¬ g (lo + n) = true := fun z => by
        rw [if_pos z] at hc; omega
      rw [if_neg hng] at hc
      by_cases c : i = lo + n
      · rw [c] at hg; exact absurd hg hng
      · exact ct_eq n (fun i i1 i2 => h i i1 (by omega)) (by omega) i i1 (by omega) hg
theorem MW.fin {ν0 ν' : zM} (hJ : JJ ν pg S T e) (hW : MW ν ν') (hU : UP ν0 ν') (hR : RT ν ν0 16) (h01 : ∀ a, a < 4096 → ν0 29 a = 0 ∨ ν0 29 a = 1) (hH : HN ν ν0 ν' (64 * pg)) (hc : mc ν' ≤ mc ν0) : ν' 19 26 = nI (ct (rb ν) 0 4096) := by
  obtain ⟨w1, w2, w3, w4, w5⟩ := id hW
  have same : ∀ a, a < 4096 → ν' 29 a = 1 → ν0 29 a = 1 := fun a ha q => by
    have := ct_eq (f := fun a => kb (ν0 29 a)) (g := fun a => kb (ν' 29 a)) (lo := 0) 4096 (fun i _ hi z => ?_) hc a (by omega) (by omega) (kb_t (by rw [q]; decide))
    · exact (h01 a ha).elim (fun z => absurd z (kb_i.mp this)) id
    · exact kb_t (by rw [hU i ((h01 i (by omega)).elim (fun y => absurd y (kb_i.mp z)) id)]; decide)
  have all : ∀ x, rch ν x → ν' 29 x = 1 := fun x hx => by
    refine hx (fun y => ν' 29 y = 1) (fun r t hr ht q => hU t (hR r t hr ht q)) (fun a i t ht ha hob i1 i2 q => ?_)
    obtain ⟨p24, p31, p64, p4, p96, pa, pbs⟩ := ob_ptn hJ.1 hob
    exact hH a pa (same a hob.1 ha) hob i t i1 (by omega) i2 ht q
  have hsum : mc ν' = ct (rb ν) 0 4096 := ?_
  · rw [w5, hsum]
  refine ct_same (f := fun a => kb (ν' 29 a)) (g := rb ν) 4096 (fun a _ ha => ?_)
  rcases w4 a (by omega) with q | ⟨q1, q2⟩
  · show kb (ν' 29 a) = _
    rw [kb_f q, rb_f]
    intro y
    have := all _ y
    rw [q] at this
    exact absurd this (by decide)
  · show kb (ν' 29 a) = _
    rw [kb_t (by rw [q1]; decide), rb_t q2]
theorem m_59L {K : zM → Prop} {N : Nat} (hN : N = 4096) (hJ : JJ ν pg S T e) (k : ∀ ν'' : zM, MW ν ν'' → ν'' 19 26 = nI (ct (rb ν) 0 4096) → K ν'') (m : Nat) : ∀ ν' : zM, N ≤ mc ν' + m → MW ν ν' → RT ν ν' 16 → F_Mo_meet_59 K (m + 2) 1 ν' := by
  induction m with
  | zero =>
    intro ν' h hW hR
    have hm := mc_le (ν' := ν')
    refine br_f (by decide) ?_
    rw [hW.2.2.2.2]
    intro x6 e6
    subst e6
    refine ⟨64 * pg + 1, m_70L (ν0 := ν') hJ hm (fun ν'' hW'' hU'' hH'' => ⟨fun q => ?_, fun q => ?_⟩) (64 * pg) 0 ν' (by omega) hW (fun _ q => q) (fun b hb => by omega)⟩
    · exact br_t rfl (k ν'' hW'' (hW''.fin hJ hU'' hR (fun a ha => (hW.2.2.2.1 a ha).imp id (fun z => z.1)) hH'' q))
    · have := mc_le (ν' := ν'')
      omega
  | succ m ih =>
    intro ν' h hW hR
    have hm := mc_le (ν' := ν')
    refine br_f (by decide) ?_
    rw [hW.2.2.2.2]
    intro x6 e6
    subst e6
    refine ⟨64 * pg + 1, m_70L (ν0 := ν') hJ hm (fun ν'' hW'' hU'' hH'' => ⟨fun q => ?_, fun q => ?_⟩) (64 * pg) 0 ν' (by omega) hW (fun _ q => q) (fun b hb => by omega)⟩
    · exact br_t rfl (k ν'' hW'' (hW''.fin hJ hU'' hR (fun a ha => (hW.2.2.2.1 a ha).imp id (fun z => z.1)) hH'' q))
    · exact ih ν'' (by omega) hW'' (fun r t r1 t1 t2 => hU'' t (hR r t r1 t1 t2))
theorem m_34L {K : zM → Prop} (hJ : JJ ν pg S T e) (k : ∀ ν'' : zM, MW ν ν'' → RT ν ν'' 16 → ∃ n : Nat, F_Mo_meet_59 K n 1 ν'') : ∀ (m r : Nat) (ν' : zM), r + m = 16 → MW ν ν' → RT ν ν' r → F_Mo_meet_34 K (m + 1) (nI r) ν'
  | 0, r, ν', h, hW, hR => by
    have : r = 16 := by omega
    subst this
    exact br_t (nI_le (a := 16) (b := 16) (by omega) (by decide)) (k ν' hW hR)
  | m + 1, r, ν', h, hW, hR => by
    refine br_f (nI_ge (b := 16) (by omega) (by decide)) ⟨vp_in_nI (by omega) (by decide), ?_⟩
    rw [nI_clamp (by omega), hW.1 26 (by decide) (by decide)]
    refine m_meet1 hJ hW ?_ (fun ν'' hW'' hU'' hs => ?_)
    · rcases hJ.root (r := r) (by omega) with z | ⟨t, z1, z2, z3⟩
      · exact Or.inl z
      · exact Or.inr ⟨t, z1, rch_r (by omega) z3.1 z1, Or.inl ⟨rfl, z3⟩⟩
    · intro x27 e27
      rw [nI_1] at e27
      subst e27
      refine m_34L hJ k m (r + 1) ν'' (by omega) hW'' (fun r' t r1 t1 t2 => ?_)
      by_cases c : r' = r
      · rw [c] at t2; exact hs t t1 t2
      · exact hU'' t (hR r' t (by omega) t1 t2)
theorem m_2L {K : zM → Prop} (k : ∀ f : Nat → Int32, (∀ s, s < 4096 → f s = 0) → ∃ n : Nat, F_Mo_meet_34 K n (0 : Int32) (zp (zp (zs ν 29 f) 19 26 0) 19 27 1)) : ∀ (m j : Nat) (f : Nat → Int32), j + m = 4096 → (∀ s, s < j → f s = 0) → F_Mo_meet_2 K (m + 1) (nI j) (zs ν 29 f)
  | 0, j, f, h, hf => by
    have : j = 4096 := by omega
    subst this
    exact br_t (nI_le (a := 4096) (b := 4096) (by omega) (by decide)) (nm_e (nm_e (k f hf)))
  | m + 1, j, f, h, hf => by
    refine br_f (nI_ge (b := 4096) (by omega) (by decide)) ⟨vp_in_nI (by omega) (by decide), ?_⟩
    rw [nI_clamp (by omega), nz0]
    intro μ3 e3 x4 e4
    rw [nI_1] at e4
    have e : μ3 = zs ν 29 (upd f j 0) := by
      rw [e3]
      show zs (zs ν 29 f) 29 (upd ((zs ν 29 f) 29) j 0) = _
      rw [zs_zs, zs_s]
    subst e4
    rw [e]
    refine m_2L k m (j + 1) (upd f j 0) (by omega) (fun s hs => ?_)
    by_cases c : s = j
    · rw [c, up_s]
    · rw [up_n c]; exact hf s (by omega)
theorem m_meet {K : zM → Prop} (hJ : JJ ν pg S T e) (k : ∀ ν' : zM, MW ν ν' → ν' 19 26 = nI (ct (rb ν) 0 4096) → K ν') : f_Mo_meet ν K := by
  unfold f_Mo_meet
  refine ⟨4096 + 1, ?_⟩
  have := m_2L (ν := ν) (K := K) (fun f hf => ⟨17, ?_⟩) 4096 0 (ν 29) (by omega) (fun s hs => by omega)
  · rw [zs_id] at this
    exact this
  · refine m_34L hJ (fun ν'' hW'' hR'' => ⟨4096 + 2, m_59L rfl hJ k 4096 ν'' (by omega) hW'' hR''⟩) 16 0 _ (by omega) ?_ (fun r t hr => by omega)
    have hsc : ct (fun s => kb (f s)) 0 4096 = 0 := ct_z 4096 (fun i _ hi => kb_f (hf i (by omega)))
    refine ⟨fun q q1 q2 => ?_, fun j j1 j2 => ?_, rfl, fun s hs => Or.inl (hf s hs), ?_⟩
    · rw [zp_n q1, zp_n q1, zs_n q2]
    · show upd (upd (ν 19) 26 0) 27 1 j = ν 19 j
      rw [up_n j2, up_n j1]
    · show (0 : Int32) = nI (ct (fun s => kb (f s)) 0 4096)
      rw [hsc]; rfl
end MEET
theorem mu_eq {μ μ' : zM} (h : ∀ q, q < 15 → μ' q = μ q) {ν : zM} {pg : Nat} (hR : RA ν μ pg) : RA ν μ' pg ∧ μ' 1 = μ 1 := by
  obtain ⟨⟨b1, b2, b3, b4, b5, b6, b7, b8, b9, b10, b11⟩, hP, hO, hS, hK, hN⟩ := hR
  refine ⟨⟨⟨?_, ?_, ?_, ?_, ?_, ?_, ?_, ?_, ?_, ?_, ?_⟩, ?_, ?_, ?_, ?_, ?_⟩, h 1 (by decide)⟩
  · rw [h 2 (by decide)]; exact b1
  · rw [h 2 (by decide)]; exact b2
  · rw [h 3 (by decide)]; exact b3
  · rw [h 4 (by decide)]; exact b4
  · rw [h 5 (by decide)]; exact b5
  · rw [h 6 (by decide)]; exact b6
  · rw [h 7 (by decide)]; exact b7
  · rw [h 8 (by decide)]; exact b8
  · rw [h 9 (by decide)]; exact b9
  · rw [h 2 (by decide)]; exact b10
  · rw [h 2 (by decide)]; exact b11
  · unfold RP; rw [h 12 (by decide), h 13 (by decide)]; exact hP
  · unfold RO; rw [h 14 (by decide)]; exact hO
  · unfold RS; rw [h 1 (by decide), h 0 (by decide)]; exact hS
  · unfold RK; rw [h 10 (by decide), h 11 (by decide)]; exact hK
  · unfold RN; rw [h 10 (by decide)]; exact hN
theorem nu_eq {ν ν' : zM} (h1 : ∀ q, q ≠ 19 → q ≠ 29 → ν' q = ν q) (h2 : ∀ j, j ≠ 26 → j ≠ 27 → ν' 19 j = ν 19 j) : ν' = zp (zp (zs ν 29 (ν' 29)) 19 26 (ν' 19 26)) 19 27 (ν' 19 27) := by
  funext q
  by_cases c : q = 19
  · subst c
    funext j
    show ν' 19 j = upd (upd (ν 19) 26 (ν' 19 26)) 27 (ν' 19 27) j
    by_cases c7 : j = 27
    · rw [c7, up_s]
    · rw [up_n c7]
      by_cases c6 : j = 26
      · rw [c6, up_s]
      · rw [up_n c6]; exact h2 j c6 c7
  · rw [zp_n c, zp_n c]
    by_cases c9 : q = 29
    · subst c9; rw [zs_s]
    · rw [zs_n c9]; exact h1 q c c9
theorem ZZ_walk {k : Nat} {ν μ ν' μ' : zM} (h : ZZ k ν μ) (hm : ∀ q, q < 15 → μ' q = μ q) (hW : MW ν ν') : ZZ (k + 1) ν' μ' := by
  obtain ⟨pg, S, T, a, c, hJ, hR, hZ, hK, hC, ha, hc⟩ := h
  obtain ⟨hR', h1⟩ := mu_eq hm hR
  have e := nu_eq hW.1 hW.2.1
  generalize ν' 29 = f at e
  generalize ν' 19 26 = x at e
  generalize ν' 19 27 = y at e
  subst e
  refine ⟨pg, S, T, a, c, hJ, hR', ?_, hK, hC, by omega, hc⟩
  intro q
  rw [h1]; exact hZ q
section REACH
variable {k : Nat} {ν μ : zM}
theorem p_reachable (h : ZZ k ν μ) : PP k (f_Bh_reachable μ) (f_Mo_reachable ν) := by
  intro G kk
  obtain ⟨pg, S, T, a, c, hJ, hR, -⟩ := id h
  unfold f_Bh_reachable
  refine k_go hJ hR (fun μ' m1 m2 m3 => ?_)
  rw [m3]
  refine kk _ μ' (fun Km km => ?_)
  unfold f_Mo_reachable
  refine m_meet hJ (fun ν' w1 w2 => ?_)
  rw [w2]
  exact km ν' (ZZ_walk h m1 w1)
theorem p_whole (h : ZZ k ν μ) : PP k (f_Bh_whole μ) (f_Mo_whole ν) := by
  intro G kk
  obtain ⟨pg, S, T, a, c, hJ, hR, -⟩ := id h
  unfold f_Bh_whole
  refine k_go hJ hR (fun μ' m1 m2 m3 => ?_)
  rw [m2]
  refine ⟨Or.inr rfl, kk _ μ' (fun Km km => ?_)⟩
  unfold f_Mo_whole
  refine m_meet hJ (fun ν' w1 w2 => ?_)
  rw [w1.2.2.1]
  exact ⟨Or.inr rfl, km ν' (ZZ_walk h m1 w1)⟩
end REACH
