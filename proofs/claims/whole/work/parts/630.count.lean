/-! count and page -/
theorem ha_s {ν : zM} {j : Nat} : ha ν (j + 1) = ha ν j + hd ν j := by
  unfold ha hd
  rw [show 64 * (j + 1) = 64 * j + 64 by omega, ct_add 64, Nat.zero_add]
theorem m_cntL {ν : zM} {pg : Nat} {K : Int32 → zM → Prop} (h1 : I1 ν pg) (k : K (nI (ha ν pg)) ν) : ∀ (m j : Nat), j + m = pg → F_Mo_count_123 K (m + 1) (nI (ha ν j)) (nI j) ν
  | 0, j, h => by
    have g2 := h1.2.1
    have : j = pg := by omega
    subst this
    refine br_t ?_ k
    rw [h1.2.2]; exact nI_le (Nat.le_refl _) (by omega)
  | m + 1, j, h => by
    have g2 := h1.2.1
    refine br_f (by rw [h1.2.2]; exact nI_ge (by omega) (by omega)) ?_
    refine m_hold (by omega) ?_
    intro x15 e15 x16 e16
    rw [nI_add, ← ha_s] at e15
    rw [nI_1] at e16
    subst e15 e16
    exact m_cntL h1 k m (j + 1) (by omega)
def mk (ν : zM) : Nat → Bool := fun a => kb (ν 22 a) && kb (ν 23 a)
theorem ct_c {f : Nat → Bool} {lo n : Nat} : ct f lo (n + 1) = ct f lo n + if f (lo + n) = true then 1 else 0 := rfl
theorem mk_4 {ν : zM} {pg a : Nat} (hB : IB ν pg) (ha : a < 4096) (h4 : a % 4 ≠ 0) : mk ν a = false := by
  unfold mk
  have : ν 22 a = 0 := Decidable.byContradiction (fun q => h4 (I3.al hB.1 hB.2.1 hB.2.2.1 ha q).1)
  rw [kb_f this]; rfl
theorem mk_v {ν : zM} {pg a : Nat} (hB : IB ν pg) (ha : a < 4096) : (if mk ν a = true then 1 else 0) = nN (ν 23 a) ∧ ν 23 a = nI (nN (ν 23 a)) := by
  unfold mk
  rcases hB.2.2.2.1 a ha with h | ⟨h1, h2⟩
  · rw [h, kb_f rfl, Bool.and_false]; decide
  · rw [h1, kb_t h2]; decide
theorem mk_s {ν : zM} {pg p s : Nat} (hB : IB ν pg) (hp : p < 64) (hs : s < 16) : ct (mk ν) (64 * p) (4 * (s + 1)) = ct (mk ν) (64 * p) (4 * s) + nN (ν 23 (4 * (16 * p + s))) := by
  rw [show 4 * (s + 1) = 4 * s + 1 + 1 + 1 + 1 by omega, ct_c, ct_c, ct_c, ct_c, mk_4 hB (a := 64 * p + (4 * s + 1)) (by omega) (by omega), mk_4 hB (a := 64 * p + (4 * s + 1 + 1)) (by omega) (by omega), mk_4 hB (a := 64 * p + (4 * s + 1 + 1 + 1)) (by omega) (by omega), (mk_v hB (a := 64 * p + 4 * s) (by omega)).1, show 64 * p + 4 * s = 4 * (16 * p + s) by omega]
  rfl
theorem nI_m16 {a : Nat} : nI a * (16 : Int32) = nI (a * 16) := pk_mul a 16
theorem k_mkL {ν μ : zM} {pg p : Nat} {K : Int32 → zM → Prop} (hB : IB ν pg) (hp : p < 64) (hR : RA ν μ pg) (k : K (nI (ct (mk ν) (64 * p) 64)) μ) : ∀ (m s : Nat), s + m = 16 → F_Bk_markedIn_17 K (m + 1) (nI p) (nI (ct (mk ν) (64 * p) (4 * s))) (nI (16 * p + s)) μ
  | 0, s, h => by
    have : s = 16 := by omega
    subst this
    refine br_t ?_ k
    rw [show (1 : Int32) = nI 1 from rfl, nI_add, nI_m16]; exact nI_le (by omega) (by omega)
  | m + 1, s, h => by
    refine br_f (by rw [show (1 : Int32) = nI 1 from rfl, nI_add, nI_m16]; exact nI_ge (by omega) (by omega)) ⟨vp_in_nI (by omega) (by decide), ?_⟩
    rw [nI_clamp (by omega), hR.1.2.2.2.2.1 _ (by omega), (mk_v hB (a := 4 * (16 * p + s)) (by omega)).2, nI_add, ← mk_s hB hp (by omega)]
    intro x7 e7 x8 e8
    rw [nI_1] at e8
    subst e7 e8
    exact k_mkL hB hp hR k m (s + 1) (by omega)
theorem m_pgL {ν : zM} {p : Nat} {w : Int32} {f : Nat → Bool} {K : Int32 → zM → Prop} (hp : p < 64) (hf : ∀ a, (ν 22 a = 0 → f a = false) ∧ (ν 22 a ≠ 0 → (w = 1 → f a = true) ∧ (w ≠ 1 → (ν 23 a = 0 → f a = false) ∧ (ν 23 a ≠ 0 → f a = true)))) (k : K (nI (ct f (64 * p) 64)) ν) : ∀ (m j : Nat), j + m = 64 → F_Mo_page_42 K (m + 1) (nI p) w (nI (ct f (64 * p) j)) (nI (64 * p + j)) ν
  | 0, j, h => by
    have : j = 64 := by omega
    subst this
    refine br_t ?_ k
    rw [show (1 : Int32) = nI 1 from rfl, nI_add, nI_64m]; exact nI_le (by omega) (by omega)
  | m + 1, j, h => by
    have hle := ct_le (f := f) (lo := 64 * p) j
    obtain ⟨f0, f1⟩ := hf (64 * p + j)
    have ih := m_pgL hp hf k m (j + 1) (by omega)
    have go0 : f (64 * p + j) = false → ∀ x5 : Int32, x5 = nI (ct f (64 * p) j) + 0 → ∀ x6 : Int32, x6 = nI (64 * p + j) + 1 → F_Mo_page_42 K (m + 1) (nI p) w x5 x6 ν := fun e x5 e5 x6 e6 => by
      rw [ct_c, if_neg (by rw [e]; decide)] at ih
      rw [show (0 : Int32) = nI 0 from rfl, nI_add] at e5
      rw [nI_1, show 64 * p + j + 1 = 64 * p + (j + 1) by omega] at e6
      subst e5 e6
      exact ih
    have go1 : f (64 * p + j) = true → ∀ x5 : Int32, x5 = nI (ct f (64 * p) j) + 1 → ∀ x6 : Int32, x6 = nI (64 * p + j) + 1 → F_Mo_page_42 K (m + 1) (nI p) w x5 x6 ν := fun e x5 e5 x6 e6 => by
      rw [ct_c, if_pos e] at ih
      rw [show (1 : Int32) = nI 1 from rfl, nI_add] at e5
      rw [nI_1, show 64 * p + j + 1 = 64 * p + (j + 1) by omega] at e6
      subst e5 e6
      exact ih
    refine br_f (by rw [show (1 : Int32) = nI 1 from rfl, nI_add, nI_64m]; exact nI_ge (by omega) (by omega)) ⟨vp_in_nI (by omega) (by decide), ?_⟩
    rw [nI_clamp (by omega)]
    refine ⟨fun e => go0 (f0 e), fun e => ⟨fun e2 => go1 ((f1 e).1 e2), fun e2 => ⟨vp_in_nI (by omega) (by decide), fun e3 => go0 (((f1 e).2 e2).1 e3), fun e3 => go1 (((f1 e).2 e2).2 e3)⟩⟩⟩
section COUNT
variable {k : Nat} {ν μ : zM}
theorem p_page (h : ZZ k ν μ) (a1 a2 : Int32) : PP k (f_Bh_page μ a1 a2) (f_Mo_page ν a1 a2) := by
  refine look_PP h ?_
  obtain ⟨pg, S, T, a, c, hJ, hR, -⟩ := id h
  have hB := hJ.1
  have g2 := hB.1.2.1
  have g3 := hB.1.2.2
  have b1 := hR.1.1
  have eg : (ν 19 0).toInt = (pg : Int) := by rw [g3, ti_n (by omega)]
  have e2 : (2 : Int32).toInt = 2 := by decide
  by_cases hw : 0 ≤ a2.toInt ∧ a2.toInt ≤ 2
  · by_cases hx : 0 ≤ a1.toInt ∧ a1.toInt < pg
    · obtain ⟨p, hp, ep⟩ : ∃ p : Nat, p < pg ∧ a1 = nI p := ⟨a1.toInt.toNat, by omega, ti_of (by omega)⟩
      subst ep
      have hcp : (nI p).toNatClampNeg = p := nI_clamp (by omega)
      have md : ∀ K : Int32 → zM → Prop, ((¬ a2 = 0 → (∀ x6 : Int32, x6 = ((64 : Int32) * nI p) → (∃ n : Nat, F_Mo_page_42 K n (nI p) a2 (0 : Int32) x6 ν))) ∧ (a2 = 0 → (vp_in (nI p) 64 ∧ (K (ν 21 (nI p).toNatClampNeg) ν)))) → f_Mo_page ν (nI p) a2 K := fun K k => by
        unfold f_Mo_page
        refine br_f (nI_pos (by omega)) (br_f (by rw [ti_le, eg]; omega) (br_f (by rw [ti_lt, ti_0]; omega) (br_t (by rw [ti_le, e2]; omega) k)))
      by_cases w0 : a2.toInt = 0
      · have w0' : a2 = 0 := by rw [ti_eq, ti_0]; exact w0
        refine ⟨ν 21 p, fun G g => ⟨fun _ => ?_, fun _ => by omega, fun _ => by omega, fun _ _ _ => by omega⟩, fun G g => md G (bn_f w0' ⟨vp_in_nI (by omega) (by decide), ?_⟩)⟩
        · refine k_class b1 g2 hp ?_
          rw [hR.1.2.2.2.2.2.2.2.1 p (by omega)]; exact g
        · rw [hcp]; exact g
      have w0' : ¬ a2 = 0 := by rw [ti_eq, ti_0]; exact w0
      by_cases w1 : a2.toInt = 1
      · have w1' : a2 = 1 := by rw [ti_eq]; exact w1
        refine ⟨nI (hd ν p), fun G g => ⟨fun _ => by omega, fun _ => ?_, fun _ => by omega, fun _ _ _ => by omega⟩, fun G g => md G (bn_t w0' ?_)⟩
        · unfold f_Bk_heldIn
          refine k_page b1 g2 hp (br_f (by decide) ⟨vp_in_nI (by omega) (by decide), ?_⟩)
          rw [hcp, hR.1.2.2.2.2.2.2.2.2.1 p (by omega)]; exact g
        · intro x6 e6
          rw [nI_64m] at e6
          subst e6
          exact ⟨65, m_pgL (f := fun a => kb (ν 22 a)) (by omega) (fun a => ⟨fun q => kb_f q, fun q => ⟨fun _ => kb_t q, fun q2 => absurd w1' q2⟩⟩) g 64 0 (by omega)⟩
      · have w1' : ¬ a2 = 1 := by rw [ti_eq]; exact w1
        refine ⟨nI (ct (mk ν) (64 * p) 64), fun G g => ⟨fun _ => by omega, fun _ => by omega, fun _ => ?_, fun _ _ _ => by omega⟩, fun G g => md G (bn_t w0' ?_)⟩
        · unfold f_Bk_markedIn
          refine k_page b1 g2 hp (bn_t (by decide) ?_)
          intro x4 e4
          rw [nI_m16, Nat.mul_comm] at e4
          subst e4
          exact ⟨17, k_mkL hB (by omega) hR g 16 0 (by omega)⟩
        · intro x6 e6
          rw [nI_64m] at e6
          subst e6
          exact ⟨65, m_pgL (f := mk ν) (by omega) (fun a => ⟨fun q => by unfold mk; rw [kb_f q]; rfl, fun q => ⟨fun q2 => absurd q2 w1', fun _ => ⟨fun q3 => by unfold mk; rw [kb_f q3, Bool.and_false], fun q3 => by unfold mk; rw [kb_t q, kb_t q3]; rfl⟩⟩⟩) g 64 0 (by omega)⟩
    · refine ⟨-1, fun G g => ⟨fun _ => ?_, fun _ => ?_, fun _ => ?_, fun _ _ _ => g⟩, fun G g => ?_⟩
      · exact k_pageA b1 g2 (fun n hn e => absurd (by rw [e, ti_n (by omega)]; omega) hx) (fun _ => br_t rfl g)
      · exact k_pageA b1 g2 (fun n hn e => absurd (by rw [e, ti_n (by omega)]; omega) hx) (fun _ => br_t rfl g)
      · exact k_pageA b1 g2 (fun n hn e => absurd (by rw [e, ti_n (by omega)]; omega) hx) (fun _ => bn_f rfl g)
      · unfold f_Mo_page
        refine bl (fun _ => g) (fun z => bg (fun _ => g) (fun z2 => ?_))
        rw [ti_0] at z
        rw [eg] at z2
        omega
  · refine ⟨-1, fun G g => ⟨fun _ => by omega, fun _ => by omega, fun _ => by omega, fun _ _ _ => g⟩, fun G g => ?_⟩
    unfold f_Mo_page
    refine bl (fun _ => g) (fun z => bg (fun _ => g) (fun z2 => bl (fun _ => g) (fun z3 => bg (fun z4 => ?_) (fun _ => g))))
    rw [ti_0] at z3
    rw [e2] at z4
    omega
theorem p_count (h : ZZ k ν μ) (a1 : Int32) : PP k (f_Bh_count μ a1) (f_Mo_count ν a1) := by
  refine look_PP h ?_
  obtain ⟨pg, S, T, a, c, hJ, hR, hZ, hK, hC, -⟩ := id h
  have hB := hJ.1
  have g2 := hB.1.2.1
  obtain ⟨⟨b1, b2, b3, b4, b5, b6, b7, b8, b9, b10, b11⟩, hP, hO, ⟨s1, s2, s3, s4, s5, s6, s7, s8, s9, s10, s11, s12⟩, ⟨k1, k2, k3⟩, hN⟩ := id hR
  -- one answer serves both
  have key : ∀ R : Int32, (a1.toInt = 0 → R = ν 19 22 + ν 19 23) → (a1.toInt = 1 → R = ν 19 22) → (a1.toInt = 2 → R = ν 19 23) → (a1.toInt = 3 → R = ν 19 13) → (a1.toInt = 4 → R = ν 19 19) → (a1.toInt = 5 → R = μ 1 8) → (a1.toInt = 6 → R = nI (fr ν pg)) → (a1.toInt = 7 → R = nI (ha ν pg)) → (a1.toInt = 8 → R = ν 19 12) → (a1.toInt = 9 → R = ν 19 20) → (a1.toInt = 10 → R = ν 19 21) → (a1.toInt = 11 → R = ν 19 15) → (a1.toInt = 12 → (ν 19 13 ≠ 3 → R = -1) ∧ (ν 19 13 = 3 → R = oI (nbk ν (nN (ν 19 17)) pg))) →
      (¬ a1.toInt = 0 → ¬ a1.toInt = 1 → ¬ a1.toInt = 2 → ¬ a1.toInt = 3 → ¬ a1.toInt = 4 → ¬ a1.toInt = 5 → ¬ a1.toInt = 6 → ¬ a1.toInt = 7 → ¬ a1.toInt = 8 → ¬ a1.toInt = 9 → ¬ a1.toInt = 10 → ¬ a1.toInt = 11 → ¬ a1.toInt = 12 → R = -1) →
      ∃ r : Int32, (∀ G : Int32 → zM → Prop, G r μ → f_Bh_count μ a1 G) ∧ (∀ K : Int32 → zM → Prop, K r ν → f_Mo_count ν a1 K) := by
    intro R q0 q1 q2 q3 q4 q5 q6 q7 q8 q9 q10 q11 q12 q13
    refine ⟨R, fun G g => ?_, fun G g => ?_⟩
    · refine ⟨fun z => ?_, fun z => ?_, fun z => ?_, fun z => ?_, fun z => ?_, fun z => ?_, fun z => ?_, fun z0 z1 z2 z6 z7 z9 z10 => ⟨fun z => ?_, fun z => ?_, fun z => ?_, fun z => ?_, fun z => ?_, fun z => ⟨fun w => ?_, fun w => ?_⟩, fun z3 z4 z5 z8 z11 z12 => ?_⟩⟩
      · rw [k1, k2, ← q0 z]; exact g
      · rw [k1, ← q1 z]; exact g
      · rw [k2, ← q2 z]; exact g
      · rw [b10, ← q6 z]; exact g
      · rw [b11, ← q7 z]; exact g
      · rw [b2, ← q9 z]; exact g
      · rw [s7, ← q10 z]; exact g
      · rw [s4, ← q3 z]; exact g
      · rw [s6, ← q4 z]; exact g
      · rw [← q5 z]; exact g
      · rw [hP.1, ← q8 z]; exact g
      · rw [s5, ← q11 z]; exact g
      · rw [s4] at w
        rw [← (q12 z).1 w]; exact g
      · rw [s4] at w
        obtain ⟨pl, b, y1, y2, -⟩ := hJ.swp w
        rw [s11 w, y1]
        refine k_bf b1 g2 b8 y2 ?_
        rw [y1, nN_n (by omega)] at q12
        rw [← (q12 z).2 w]; exact g
      · rw [← q13 z0 z1 z2 z3 z4 z5 z6 z7 z8 z9 z10 z11 z12]; exact g
    · refine ⟨fun z => ?_, fun z => ?_, fun z => ?_, fun z => ?_, fun z => ?_, fun z => ⟨fun w => ?_, fun w => ?_⟩, fun z => ?_, fun z => ?_, fun z => ⟨fun w => ?_, fun w => ?_⟩, fun z => ?_, fun z => ?_, fun z => ⟨fun w => ?_, fun w => ?_⟩, fun z => ⟨fun w => ?_, fun w => ?_⟩, fun z0 z1 z2 z3 z4 z5 z6 z7 z8 z9 z10 z11 z12 => ?_⟩
      · rw [← q0 z]; exact g
      · rw [← q1 z]; exact g
      · rw [← q2 z]; exact g
      · rw [← q3 z]; exact g
      · rw [← q4 z]; exact g
      · rw [← hZ w, ← q5 z]; exact g
      · rw [q5 z, (s8 w).1] at g; exact g
      · refine m_free hB.1 ?_
        rw [← q6 z]; exact g
      · refine ⟨pg + 1, m_cntL hB.1 ?_ pg 0 (by omega)⟩
        rw [← q7 z]; exact g
      · rw [← q8 z]; exact g
      · obtain ⟨n, y1, y2, y3, y4, y5⟩ := hJ.2.2.1
        rw [q8 z, y1, y5 (Or.inl w)] at g; exact g
      · rw [← q9 z]; exact g
      · rw [← q10 z]; exact g
      · have : ν 19 15 = -1 := by
          rcases hJ.2.2.2.1 with ⟨-, y, -⟩ | ⟨-, y, -⟩ | ⟨y, -⟩ | ⟨-, -, y, -⟩
          · exact y
          · exact y
          · exact absurd y w
          · exact y
        rw [q11 z, this] at g; exact g
      · rw [← q11 z]; exact g
      · rw [← (q12 z).1 w]; exact g
      · obtain ⟨pl, b, y1, y2, -⟩ := hJ.swp w
        refine m_nb hB.1 y1 y2 ?_
        rw [y1, nN_n (by omega)] at q12
        rw [← (q12 z).2 w]; exact g
      · rw [← q13 z0 z1 z2 z3 z4 z5 z6 z7 z8 z9 z10 z11 z12]; exact g
  have none : ∀ R : Int32, (13 ≤ a1.toInt ∨ a1.toInt < 0) → R = -1 → ∃ r : Int32, (∀ G : Int32 → zM → Prop, G r μ → f_Bh_count μ a1 G) ∧ (∀ K : Int32 → zM → Prop, K r ν → f_Mo_count ν a1 K) := fun R hR e => key R (by omega) (by omega) (by omega) (by omega) (by omega) (by omega) (by omega) (by omega) (by omega) (by omega) (by omega) (by omega) (by omega) (fun _ _ _ _ _ _ _ _ _ _ _ _ _ => e)
  by_cases c0 : a1.toInt = 0
  · exact key (ν 19 22 + ν 19 23) (fun _ => rfl) (by omega) (by omega) (by omega) (by omega) (by omega) (by omega) (by omega) (by omega) (by omega) (by omega) (by omega) (by omega) (by omega)
  by_cases c1 : a1.toInt = 1
  · exact key (ν 19 22) (by omega) (fun _ => rfl) (by omega) (by omega) (by omega) (by omega) (by omega) (by omega) (by omega) (by omega) (by omega) (by omega) (by omega) (by omega)
  by_cases c2 : a1.toInt = 2
  · exact key (ν 19 23) (by omega) (by omega) (fun _ => rfl) (by omega) (by omega) (by omega) (by omega) (by omega) (by omega) (by omega) (by omega) (by omega) (by omega) (by omega)
  by_cases c3 : a1.toInt = 3
  · exact key (ν 19 13) (by omega) (by omega) (by omega) (fun _ => rfl) (by omega) (by omega) (by omega) (by omega) (by omega) (by omega) (by omega) (by omega) (by omega) (by omega)
  by_cases c4 : a1.toInt = 4
  · exact key (ν 19 19) (by omega) (by omega) (by omega) (by omega) (fun _ => rfl) (by omega) (by omega) (by omega) (by omega) (by omega) (by omega) (by omega) (by omega) (by omega)
  by_cases c5 : a1.toInt = 5
  · exact key (μ 1 8) (by omega) (by omega) (by omega) (by omega) (by omega) (fun _ => rfl) (by omega) (by omega) (by omega) (by omega) (by omega) (by omega) (by omega) (by omega)
  by_cases c6 : a1.toInt = 6
  · exact key (nI (fr ν pg)) (by omega) (by omega) (by omega) (by omega) (by omega) (by omega) (fun _ => rfl) (by omega) (by omega) (by omega) (by omega) (by omega) (by omega) (by omega)
  by_cases c7 : a1.toInt = 7
  · exact key (nI (ha ν pg)) (by omega) (by omega) (by omega) (by omega) (by omega) (by omega) (by omega) (fun _ => rfl) (by omega) (by omega) (by omega) (by omega) (by omega) (by omega)
  by_cases c8 : a1.toInt = 8
  · exact key (ν 19 12) (by omega) (by omega) (by omega) (by omega) (by omega) (by omega) (by omega) (by omega) (fun _ => rfl) (by omega) (by omega) (by omega) (by omega) (by omega)
  by_cases c9 : a1.toInt = 9
  · exact key (ν 19 20) (by omega) (by omega) (by omega) (by omega) (by omega) (by omega) (by omega) (by omega) (by omega) (fun _ => rfl) (by omega) (by omega) (by omega) (by omega)
  by_cases c10 : a1.toInt = 10
  · exact key (ν 19 21) (by omega) (by omega) (by omega) (by omega) (by omega) (by omega) (by omega) (by omega) (by omega) (by omega) (fun _ => rfl) (by omega) (by omega) (by omega)
  by_cases c11 : a1.toInt = 11
  · exact key (ν 19 15) (by omega) (by omega) (by omega) (by omega) (by omega) (by omega) (by omega) (by omega) (by omega) (by omega) (by omega) (fun _ => rfl) (by omega) (by omega)
  by_cases c12 : a1.toInt = 12
  · by_cases w : ν 19 13 = 3
    · exact key (oI (nbk ν (nN (ν 19 17)) pg)) (by omega) (by omega) (by omega) (by omega) (by omega) (by omega) (by omega) (by omega) (by omega) (by omega) (by omega) (by omega) (fun _ => ⟨fun q => absurd w q, fun _ => rfl⟩) (by omega)
    · exact key (-1) (by omega) (by omega) (by omega) (by omega) (by omega) (by omega) (by omega) (by omega) (by omega) (by omega) (by omega) (by omega) (fun _ => ⟨fun _ => rfl, fun q => absurd q w⟩) (by omega)
  exact none (-1) (by omega) rfl
end COUNT
