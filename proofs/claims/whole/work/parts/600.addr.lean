/-! the addresses of numbers and pointers, class and model -/
theorem ti_l (n : Nat) (h : n < 2147483648) : (nI n).toInt = n := ti_n h
theorem k_rootN {μ : zM} {x : Int32} {K : Int32 → zM → Prop} (k1 : ∀ r : Nat, r < 16 → x = nI r → K (μ 14 r) μ) (k0 : (x.toInt < 0 ∨ 16 ≤ x.toInt) → K (-1) μ) : f_Bh_rootOrNone μ x K := by
  unfold f_Bh_rootOrNone
  refine k_isRootA (fun r hr e => br_f (by decide) ?_) (fun h => br_t rfl (k0 h))
  rw [e, nI_clamp (by omega)]
  exact ⟨vp_in_nI hr (by decide), k1 r hr e⟩
theorem nI_d32 {a : Nat} (h : a < 2147483648) : nI a / (32 : Int32) = nI (a / 32) := pk_div (d := 32) h (by decide) (by decide)
theorem nI_r32 {a : Nat} (h : a < 2147483648) : nI a - nI a / (32 : Int32) * (32 : Int32) = nI (a % 32) := pk_rem (d := 32) h (by decide) (by decide)
/-- what a number's address is good for -/
def okN (ν : zM) (pg w : Nat) : Prop := w < 64 * pg ∧ w < 4096 ∧ (∃ b, b < 4096 ∧ ν 22 b ≠ 0 ∧ b ≤ w ∧ w < b + bs (ν 21 (b / 64))) ∧ ∀ a i, ob ν a → 1 ≤ i → i ≤ ptn ν a → a + i ≠ w
theorem numAt {ν μ : zM} {pg : Nat} {S T : Nat → Prop} (hJ : JJ ν pg S T 16) (hR : RA ν μ pg) (x i : Int32) : ∃ res : Option Nat, (∀ K : Int32 → zM → Prop, K (oI res) μ → f_Bh_numberAddress μ x i K) ∧ (∀ K : Int32 → zM → Prop, K (oI res) ν → f_Mo_numberAt ν x i K) ∧ ∀ w, res = some w → okN ν pg w := by
  have hB := hJ.1
  have g2 := hB.1.2.1
  by_cases hx : 0 ≤ x.toInt ∧ x.toInt < 16
  · obtain ⟨r, hr, er⟩ : ∃ r : Nat, r < 16 ∧ x = nI r := ⟨x.toInt.toNat, by omega, ti_of (by omega)⟩
    have hc : (nI r).toNatClampNeg = r := nI_clamp (by omega)
    have kr : ∀ K : Int32 → zM → Prop, K (ν 26 r) μ → f_Bh_rootOrNone μ x K := fun K k => k_rootN (fun r' hr' e => by
      rw [er, nI_eq (by omega) (by omega)] at e
      rw [← e, hR.2.2.1 r hr]; exact k) (fun h => by omega)
    have mr : ∀ K : Int32 → zM → Prop, ((∀ x13 : Int32, x13 = ν 26 r → (x13 = (-1 : Int32) → K (-1) ν) ∧ (¬ x13 = (-1 : Int32) → ((i < 0 → (K (-1 : Int32) ν)) ∧ (¬ i < 0 → (vp_in x13 4096 ∧ ((i < (ν 25 x13.toNatClampNeg) → (vp_in x13 4096 ∧ ((¬ (ν 22 x13.toNatClampNeg) = (2 : Int32) → (vp_in x13 4096 ∧ (K (((x13 + (1 : Int32)) + (ν 24 x13.toNatClampNeg)) + i) ν))) ∧ ((ν 22 x13.toNatClampNeg) = (2 : Int32) → (vp_in ((x13 + (1 : Int32)) + (i / (32 : Int32))) 4096 ∧ (K (((ν 20 ((x13 + (1 : Int32)) + (i / (32 : Int32))).toNatClampNeg) - (1 : Int32)) + (i - i / (32 : Int32) * (32 : Int32))) ν)))))) ∧ (¬ i < (ν 25 x13.toNatClampNeg) → (K (-1 : Int32) ν))))))))) → f_Mo_numberAt ν x i K := fun K k => by
      unfold f_Mo_numberAt
      refine m_isRootA (fun r' hr' e => br_f (by decide) ?_) (fun h => by omega)
      rw [er, hc]
      exact ⟨vp_in_nI hr (by decide), k⟩
    rcases hJ.root hr with hn | ⟨a, ha, hSa, hoa⟩
    · refine ⟨none, fun K k => ?_, fun K k => mr K (fun x13 e => ?_), fun w q => by cases q⟩
      · unfold f_Bh_numberAddress
        refine kr _ ?_
        rw [hn]
        exact br_t rfl k
      · rw [e, hn]
        exact br_t rfl k
    · have ha1 := hoa.1
      obtain ⟨p24, p31, p64, p4, p96, pa, pbs⟩ := ob_ptn hB hoa
      obtain ⟨hac, ham⟩ := hB.al ha1 hoa.nz
      have a44 : 4 * (a / 4) = a := by omega
      have hca : (nI a).toNatClampNeg = a := nI_clamp (by omega)
      obtain ⟨nn, en, enb, hno⟩ : ∃ nn : Nat, ν 25 a = nI nn ∧ nn ≤ 512 ∧ ((ν 22 a = 1 → ptn ν a + nn + 1 ≤ bs (ν 21 (a / 64))) ∧ (ν 22 a = 2 → nn ≤ 32 * ptn ν a)) := by
        rcases hoa.2 with e | e
        · obtain ⟨m, n, q1, q2, q3, q4⟩ := (hB.2.2.2.2.2 a ha1).1 e
          have hm : ptn ν a = m := by unfold ptn; rw [q1]; exact nN_n (by have := bs_le (c := ν 21 (a / 64)); omega)
          have := bs_le (c := ν 21 (a / 64))
          exact ⟨n, q2, by omega, fun _ => by omega, fun z => by rw [e] at z; exact absurd z (by decide)⟩
        · obtain ⟨m, n, q1, q2, q3, q4, q5, q6⟩ := (hB.2.2.2.2.2 a ha1).2.1 e
          have hm : ptn ν a = m := by unfold ptn; rw [q1]; exact nN_n (by have := bs_le (c := ν 21 (a / 64)); omega)
          exact ⟨n, q2, by omega, fun z => by rw [e] at z; exact absurd z (by decide), fun _ => by omega⟩
      have e7 : μ 7 (a / 4) = nI nn := by rw [hR.1.2.2.2.2.2.2.1 _ (by omega) (by rw [a44]; exact hoa.2), a44, en]
      have e6 : μ 6 (a / 4) = nI (ptn ν a) := by rw [hR.1.2.2.2.2.2.1 _ (by omega) (by rw [a44]; exact hoa.nz), a44]; exact p24
      have e4 : μ 4 (a / 4) = ν 22 a := by rw [hR.1.2.2.2.1 _ (by omega), a44]
      have b1 := hR.1.1
      by_cases hi : 0 ≤ i.toInt ∧ i.toInt < nn
      · obtain ⟨j, hj, ej⟩ : ∃ j : Nat, j < nn ∧ i = nI j := ⟨i.toInt.toNat, by omega, ti_of (by omega)⟩
        subst ej
        rcases hoa.2 with e | e
        · -- an object
          have hle := hno.1 e
          have hbi := blk_in hac ham
          refine ⟨some (a + 1 + ptn ν a + j), fun K k => ?_, fun K k => mr K (fun x13 ex => ?_), fun w q => ?_⟩
          · unfold f_Bh_numberAddress
            refine kr _ ?_
            rw [ha]
            refine br_f (nI_m1 (by omega)) (br_f (nI_pos (by omega)) ?_)
            refine k_nums b1 g2 pa ?_
            rw [e7]
            refine br_t (nI_lt hj (by omega)) ?_
            refine k_kind b1 g2 pa ?_
            rw [e4, e]
            refine br_f (by decide) ?_
            refine k_ptrs b1 g2 pa ?_
            rw [e6, show (1 : Int32) = nI 1 from rfl, nI_add, nI_add, nI_add]
            exact k
          · rw [ex, ha, hca, en, e]
            refine br_f (nI_m1 (by omega)) (br_f (nI_pos (by omega)) ⟨vp_in_nI ha1 (by decide), ?_⟩)
            refine br_t (nI_lt hj (by omega)) ⟨vp_in_nI ha1 (by decide), ?_⟩
            refine bn_t (by decide) ⟨vp_in_nI ha1 (by decide), ?_⟩
            rw [p24, show (1 : Int32) = nI 1 from rfl, nI_add, nI_add, nI_add]
            exact k
          · have q : a + 1 + ptn ν a + j = w := by cases q; rfl
            subst q
            refine ⟨by omega, by omega, ⟨a, ha1, hoa.nz, by omega, by omega⟩, fun a' i' hob i1 i2 z => ?_⟩
            obtain ⟨c1, c2⟩ := hB.al hob.1 hob.nz
            have c3 := (ob_ptn hB hob).2.2.2.2.2.2
            have := blk_dis (i := i') c2 c1 ham hac (by omega) (by omega) (by omega)
            subst this
            omega
        · -- an array
          have hle := hno.2 e
          have hTa : T a := by
            rcases hJ.2.2.2.2.2.2.1 r hr (by omega) with z | ⟨t, z1, z2, z3⟩
            · rw [ha] at z; exact absurd z (nI_m1 (by omega))
            · rw [ha, nI_eq (by omega) (by omega)] at z1
              rw [z1]; exact z2
          obtain ⟨t, w1, w2, w3, w4, w5⟩ : ∃ t : Nat, ν 20 (a + (j / 32 + 1)) = nI (t + 1) ∧ S t ∧ t < 4096 ∧ (ν 22 a = 1 → ob ν t) ∧ (ν 22 a = 2 → ν 22 t = 3) := by
            rcases hJ.2.2.2.2.1.2.2.1 a hSa hoa (j / 32 + 1) (by omega) (by omega) with z | z
            · rcases hJ.2.2.2.2.2.2.2 a hTa hoa (j / 32 + 1) (by omega) (by omega) with y | ⟨t, y1, -, y3⟩
              · exact absurd e y.2
              · rw [z] at y1; exact absurd y1.symm (nI_nz (by omega))
            · exact z
          have kt := w5 e
          have tz : ν 22 t ≠ 0 := by rw [kt]; decide
          obtain ⟨tc, tm⟩ := hB.al w3 tz
          obtain ⟨t4, t64, -⟩ := I3.al hB.1 hB.2.1 hB.2.2.1 w3 tz
          have tb := blk_in tc tm
          have t3 := ((hB.2.2.2.2.2 t w3).2.2 kt).2
          have b32 : bs (ν 21 (t / 64)) = 32 := by rw [t3]; rfl
          refine ⟨some (t + j % 32), fun K k => ?_, fun K k => mr K (fun x13 ex => ?_), fun w q => ?_⟩
          · unfold f_Bh_numberAddress
            refine kr _ ?_
            rw [ha]
            refine br_f (nI_m1 (by omega)) (br_f (nI_pos (by omega)) ?_)
            refine k_nums b1 g2 pa ?_
            rw [e7]
            refine br_t (nI_lt hj (by omega)) ?_
            refine k_kind b1 g2 pa ?_
            rw [e4, e]
            refine br_t rfl ?_
            rw [nI_r32 (by omega), nI_d32 (by omega), show (1 : Int32) = nI 1 from rfl, nI_add, nI_add, show a + 1 + j / 32 = a + (j / 32 + 1) by omega]
            refine k_ptrAt b1 g2 (by omega) ?_
            rw [hR.1.2.2.1 _ (by omega), w1, nI_pm]
            refine bn_t (nI_m1 (by omega)) ?_
            rw [nI_add]
            exact k
          · rw [ex, ha, hca, en, e]
            refine br_f (nI_m1 (by omega)) (br_f (nI_pos (by omega)) ⟨vp_in_nI ha1 (by decide), ?_⟩)
            refine br_t (nI_lt hj (by omega)) ⟨vp_in_nI ha1 (by decide), ?_⟩
            rw [nI_r32 (by omega), nI_d32 (by omega), show (1 : Int32) = nI 1 from rfl, nI_add, nI_add, show a + 1 + j / 32 = a + (j / 32 + 1) by omega, nI_clamp (by omega), w1]
            refine bn_f rfl ⟨vp_in_nI (by omega) (by decide), ?_⟩
            rw [← show (1 : Int32) = nI 1 from rfl, nI_pm, nI_add]
            exact k
          · have q : t + j % 32 = w := by cases q; rfl
            subst q
            refine ⟨by omega, by omega, ⟨t, w3, tz, by omega, by rw [b32]; omega⟩, fun a' i' hob i1 i2 z => ?_⟩
            obtain ⟨c1, c2⟩ := hB.al hob.1 hob.nz
            have c3 := (ob_ptn hB hob).2.2.2.2.2.2
            have := blk_dis (i := i') c2 c1 tm tc (by omega) (by omega) (by rw [b32]; omega)
            subst this
            rcases hob.2 with y | y <;> rw [kt] at y <;> exact absurd y (by decide)
      · -- no such number
        refine ⟨none, fun K k => ?_, fun K k => mr K (fun x13 ex => ?_), fun w q => by cases q⟩
        · unfold f_Bh_numberAddress
          refine kr _ ?_
          rw [ha]
          refine br_f (nI_m1 (by omega)) (bl (fun _ => k) (fun h => ?_))
          rw [ti_0] at h
          refine k_nums b1 g2 pa ?_
          rw [e7]
          refine bl (fun h2 => ?_) (fun _ => k)
          rw [ti_n (by omega)] at h2
          exact absurd ⟨h, h2⟩ hi
        · rw [ex, ha, hca, en]
          refine br_f (nI_m1 (by omega)) (bl (fun _ => k) (fun h => ⟨vp_in_nI ha1 (by decide), ?_⟩))
          rw [ti_0] at h
          refine bl (fun h2 => ?_) (fun _ => k)
          rw [ti_n (by omega)] at h2
          exact absurd ⟨h, h2⟩ hi
  · refine ⟨none, fun K k => ?_, fun K k => ?_, fun w q => by cases q⟩
    · unfold f_Bh_numberAddress
      exact k_rootN (fun r hr e => absurd (by rw [e, ti_n (by omega)]; omega) hx) (fun _ => br_t rfl k)
    · unfold f_Mo_numberAt
      exact m_isRootA (fun r hr e => absurd (by rw [e, ti_n (by omega)]; omega) hx) (fun _ => br_t rfl (br_t rfl k))

/-- a pointer's address, class and model alike -/
def okP (ν : zM) (S T : Nat → Prop) (w : Nat) : Prop := ∃ a i, ob ν a ∧ ν 22 a = 1 ∧ S a ∧ T a ∧ i < ptn ν a ∧ w = a + (i + 1)
theorem ptrAt {ν μ : zM} {pg : Nat} {S T : Nat → Prop} (hJ : JJ ν pg S T 16) (hR : RA ν μ pg) (x i : Int32) : ∃ res : Option Nat, (∀ K : Int32 → zM → Prop, K (oI res) μ → f_Bh_pointerAddress μ x i K) ∧ (∀ K : Int32 → zM → Prop, K (oI res) ν → f_Mo_pointerAt ν x i K) ∧ ∀ w, res = some w → okP ν S T w := by
  have hB := hJ.1
  have g2 := hB.1.2.1
  by_cases hx : 0 ≤ x.toInt ∧ x.toInt < 16
  · obtain ⟨r, hr, er⟩ : ∃ r : Nat, r < 16 ∧ x = nI r := ⟨x.toInt.toNat, by omega, ti_of (by omega)⟩
    have hc : (nI r).toNatClampNeg = r := nI_clamp (by omega)
    have kr : ∀ K : Int32 → zM → Prop, K (ν 26 r) μ → f_Bh_rootOrNone μ x K := fun K k => k_rootN (fun r' hr' e => by
      rw [er, nI_eq (by omega) (by omega)] at e
      rw [← e, hR.2.2.1 r hr]; exact k) (fun h => by omega)
    have mr : ∀ K : Int32 → zM → Prop, ((∀ x11 : Int32, x11 = ν 26 r → (x11 = (-1 : Int32) → (K (-1 : Int32) ν)) ∧ (¬ x11 = (-1 : Int32) → (vp_in x11 4096 ∧ (((ν 22 x11.toNatClampNeg) = (2 : Int32) → (K (-1 : Int32) ν)) ∧ (¬ (ν 22 x11.toNatClampNeg) = (2 : Int32) → ((i < 0 → (K (-1 : Int32) ν)) ∧ (¬ i < 0 → (vp_in x11 4096 ∧ ((i < (ν 24 x11.toNatClampNeg) → (K ((x11 + (1 : Int32)) + i) ν)) ∧ (¬ i < (ν 24 x11.toNatClampNeg) → (K (-1 : Int32) ν)))))))))))) → f_Mo_pointerAt ν x i K := fun K k => by
      unfold f_Mo_pointerAt
      refine m_isRootA (fun r' hr' e => br_f (by decide) ?_) (fun h => by omega)
      rw [er, hc]
      exact ⟨vp_in_nI hr (by decide), k⟩
    rcases hJ.root hr with hn | ⟨a, ha, hSa, hoa⟩
    · refine ⟨none, fun K k => ?_, fun K k => mr K (fun x13 e => ?_), fun w q => by cases q⟩
      · unfold f_Bh_pointerAddress
        refine kr _ ?_
        rw [hn]
        exact br_t rfl k
      · rw [e, hn]
        exact br_t rfl k
    · have ha1 := hoa.1
      obtain ⟨p24, p31, p64, p4, p96, pa, pbs⟩ := ob_ptn hB hoa
      have a44 : 4 * (a / 4) = a := by omega
      have hca : (nI a).toNatClampNeg = a := nI_clamp (by omega)
      have e6 : μ 6 (a / 4) = nI (ptn ν a) := by rw [hR.1.2.2.2.2.2.1 _ (by omega) (by rw [a44]; exact hoa.nz), a44]; exact p24
      have e4 : μ 4 (a / 4) = ν 22 a := by rw [hR.1.2.2.2.1 _ (by omega), a44]
      have b1 := hR.1.1
      rcases hoa.2 with e | e
      · by_cases hi : 0 ≤ i.toInt ∧ i.toInt < ptn ν a
        · obtain ⟨j, hj, ej⟩ : ∃ j : Nat, j < ptn ν a ∧ i = nI j := ⟨i.toInt.toNat, by omega, ti_of (by omega)⟩
          subst ej
          have hTa : T a := by
            rcases hJ.2.2.2.2.2.2.1 r hr (by omega) with z | ⟨t, z1, z2, z3⟩
            · rw [ha] at z; exact absurd z (nI_m1 (by omega))
            · rw [ha, nI_eq (by omega) (by omega)] at z1
              rw [z1]; exact z2
          refine ⟨some (a + 1 + j), fun K k => ?_, fun K k => mr K (fun x13 ex => ?_), fun w q => ?_⟩
          · unfold f_Bh_pointerAddress
            refine kr _ ?_
            rw [ha]
            refine br_f (nI_m1 (by omega)) ?_
            refine k_kind b1 g2 pa ?_
            rw [e4, e]
            refine br_t rfl (br_f (nI_pos (by omega)) ?_)
            refine k_ptrs b1 g2 pa ?_
            rw [e6]
            refine br_f (nI_ge hj (by omega)) ?_
            rw [show (1 : Int32) = nI 1 from rfl, nI_add, nI_add]
            exact k
          · rw [ex, ha, hca, e]
            refine br_f (nI_m1 (by omega)) ⟨vp_in_nI ha1 (by decide), ?_⟩
            refine br_f (by decide) (br_f (nI_pos (by omega)) ⟨vp_in_nI ha1 (by decide), ?_⟩)
            rw [p24]
            refine br_t (nI_lt hj (by omega)) ?_
            rw [show (1 : Int32) = nI 1 from rfl, nI_add, nI_add]
            exact k
          · have q : a + 1 + j = w := by cases q; rfl
            exact ⟨a, j, hoa, e, hSa, hTa, hj, by omega⟩
        · refine ⟨none, fun K k => ?_, fun K k => mr K (fun x13 ex => ?_), fun w q => by cases q⟩
          · unfold f_Bh_pointerAddress
            refine kr _ ?_
            rw [ha]
            refine br_f (nI_m1 (by omega)) ?_
            refine k_kind b1 g2 pa ?_
            rw [e4, e]
            refine br_t rfl (bl (fun _ => k) (fun h => ?_))
            rw [ti_0] at h
            refine k_ptrs b1 g2 pa ?_
            rw [e6]
            refine bg (fun _ => k) (fun h2 => ?_)
            rw [ti_n (by omega)] at h2
            exact absurd ⟨h, h2⟩ hi
          · rw [ex, ha, hca, e]
            refine br_f (nI_m1 (by omega)) ⟨vp_in_nI ha1 (by decide), ?_⟩
            refine br_f (by decide) (bl (fun _ => k) (fun h => ⟨vp_in_nI ha1 (by decide), ?_⟩))
            rw [ti_0] at h
            rw [p24]
            refine bl (fun h2 => ?_) (fun _ => k)
            rw [ti_n (by omega)] at h2
            exact absurd ⟨h, h2⟩ hi
      · refine ⟨none, fun K k => ?_, fun K k => mr K (fun x13 ex => ?_), fun w q => by cases q⟩
        · unfold f_Bh_pointerAddress
          refine kr _ ?_
          rw [ha]
          refine br_f (nI_m1 (by omega)) ?_
          refine k_kind b1 g2 pa ?_
          rw [e4, e]
          exact br_f (by decide) k
        · rw [ex, ha, hca, e]
          refine br_f (nI_m1 (by omega)) ⟨vp_in_nI ha1 (by decide), ?_⟩
          exact br_t rfl k
  · refine ⟨none, fun K k => ?_, fun K k => ?_, fun w q => by cases q⟩
    · unfold f_Bh_pointerAddress
      exact k_rootN (fun r hr e => absurd (by rw [e, ti_n (by omega)]; omega) hx) (fun _ => br_t rfl k)
    · unfold f_Mo_pointerAt
      exact m_isRootA (fun r hr e => absurd (by rw [e, ti_n (by omega)]; omega) hx) (fun _ => br_t rfl (br_t rfl k))
