/-! the class takes a block -/
def k_new (μ : zM) (a : Nat) (kd x y : Int32) : zM := zp (zp (zp (zp (zp μ 4 (a / 4) kd) 6 (a / 4) x) 7 (a / 4) y) 9 (a / 64) (μ 9 (a / 64) + 1)) 2 9 (μ 2 9 + 1)
theorem nb_kd {kd : Int32} (h : kd = 1 ∨ kd = 2 ∨ kd = 3) : vp_nar .byte kd.toInt8.toInt32 = kd := by
  rcases h with rfl | rfl | rfl <;> decide
theorem RA_new {ζ μ : zM} {pg a : Nat} {kd m x y y' : Int32} (hB : IB ζ pg) (hR : RA ζ μ pg) (hal : a < 64 * pg) (a4 : a % 4 = 0) (hk : ζ 22 a = 0) (hkd : kd = 1 ∨ kd = 2 ∨ kd = 3) (hy : kd ≠ 3 → y' = y) {μ' : zM} (hμ : (m = 1 ∧ μ' = zp (k_new μ a kd x y') 5 (a / 4) 1) ∨ (m = 0 ∧ μ' = k_new μ a kd x y')) : RA (g_new ζ a kd m x y) μ' pg := by
  have gp := hB.1.2.1
  have knz : kd ≠ 0 := by rcases hkd with z | z | z <;> rw [z] <;> decide
  obtain ⟨⟨b1, b2, b3, b4, b5, b6, b7, b8, b9, b10, b11⟩, hP, hO, hS, hK, hN⟩ := hR
  have m0 : ζ 23 a = 0 := by
    rcases hB.2.2.2.1 a (by omega) with z | z
    · exact z
    · exact absurd hk z.2
  have h5 : ∀ s, s < 1024 → μ' 5 s = upd (ζ 23) a m (4 * s) := fun s hs => by
    rcases hμ with ⟨rfl, rfl⟩ | ⟨rfl, rfl⟩
    · exact r_mark b5 a4 s hs
    · show μ 5 s = _
      rw [b5 s hs]
      by_cases z : 4 * s = a
      · rw [z, up_s, m0]
      · rw [up_n z]
  have hq : ∀ q, q ≠ 5 → μ' q = (k_new μ a kd x y') q := fun q hq => by
    rcases hμ with ⟨rfl, rfl⟩ | ⟨rfl, rfl⟩
    · rw [zp_n hq]
    · rfl
  have q1 := hq 1 (by decide)
  have q2 := hq 2 (by decide)
  have q3 := hq 3 (by decide)
  have q4 := hq 4 (by decide)
  have q6 := hq 6 (by decide)
  have q7 := hq 7 (by decide)
  have q8 := hq 8 (by decide)
  have q9 := hq 9 (by decide)
  have q0 := hq 0 (by decide)
  have q10 := hq 10 (by decide)
  have q11 := hq 11 (by decide)
  have q12 := hq 12 (by decide)
  have q13 := hq 13 (by decide)
  have q14 := hq 14 (by decide)
  clear hμ hq
  have e4 : ∀ s, s < 1024 → upd (ζ 22) a kd (4 * s) = upd (μ 4) (a / 4) kd s := fun s hs => (r_mark b4 a4 s hs).symm
  refine ⟨⟨?_, ?_, fun w hw => ?_, fun s hs => ?_, h5, fun s hs => ?_, fun s hs => ?_, fun p hp => ?_, fun p hp => ?_, ?_, ?_⟩, ?_, ?_, ?_, ?_, ?_⟩
  · rw [q2]; exact b1
  · rw [q2]; exact b2
  · rw [q3]; exact b3 w hw
  · rw [q4]; exact r_mark b4 a4 s hs
  · rw [q6]
    show upd (ζ 22) a kd (4 * s) ≠ 0 → upd (μ 6) (a / 4) x s = upd (ζ 24) a x (4 * s)
    by_cases z : s = a / 4
    · rw [z, up_s, show 4 * (a / 4) = a by omega, up_s]; exact fun _ => up_s.symm
    · rw [up_n z, up_n (by omega), up_n (by omega)]; exact b6 s hs
  · rw [q7]
    show upd (ζ 22) a kd (4 * s) = 1 ∨ upd (ζ 22) a kd (4 * s) = 2 → upd (μ 7) (a / 4) y' s = upd (ζ 25) a y (4 * s)
    by_cases z : s = a / 4
    · rw [z, up_s, show 4 * (a / 4) = a by omega, up_s, up_s]
      intro w
      refine hy (fun v => ?_)
      rw [v] at w
      rcases w with w | w <;> exact absurd w (by decide)
    · rw [up_n z, up_n (by omega), up_n (by omega)]; exact b7 s hs
  · rw [q8]; exact b8 p hp
  · rw [q9]
    show upd (μ 9) (a / 64) (μ 9 (a / 64) + 1) p = nI (hd (zp ζ 22 a kd) p)
    rw [hd_take hk knz]
    by_cases z : p = a / 64
    · rw [z, up_s, if_pos rfl, b9 _ (by omega), nI_1]
    · rw [up_n z, if_neg z]; exact b9 p hp
  · rw [q2]; exact b10
  · rw [q2]
    show μ 2 9 + 1 = nI (ha (zp ζ 22 a kd) pg)
    rw [ha_take hk knz hal, b11, nI_1]
  · unfold RP; rw [q12, q13]; exact hP
  · unfold RO; rw [q14]; exact hO
  · unfold RS; rw [q1, q0]; exact hS
  · unfold RK; rw [q10, q11]; exact hK
  · unfold RN; rw [q10]; exact hN
theorem k_hold {ζ μ μζ : zM} {pg p a : Nat} {c kd x y : Int32} {K : Int32 → zM → Prop} (hB : IB ζ pg) (hR : RA ζ μζ pg) (hc : isCl c) (hp : p < pg) (e21 : ζ 21 p = c) (hkd : kd = 1 ∨ kd = 2 ∨ kd = 3) (hf : fv (ζ 22) (bs c) (64 * p) (rm c) = some a) (hap : a / 64 = p)
    (pwr : ∀ K' : Int32 → zM → Prop, K' (nI p) μζ → f_Bk_pageWithRoom μ c K') (k : K (nI a) (k_new μζ a kd x y)) : f_Bk_hold μ c kd x y K := by
  have gp := hB.1.2.1
  unfold f_Bk_hold
  refine pwr _ ?_
  refine k_fv (ν := ζ) hR.1.1 gp hp (by rw [hR.1.2.2.2.2.2.2.2.1 p (by omega)]; exact e21) hR.1.2.2.2.1 hc hf ?_
  refine k_ins hR.1.1 gp (by omega) (bn_t (by decide) ?_)
  rw [nI_d4 (by omega), nI_d64 (by omega), nb_kd hkd, nI_clamp (by omega)]
  intro x8 e8
  subst e8
  rw [nI_clamp (by omega)]
  refine ⟨vp_in_nI (by omega) (by decide), nm_e ⟨vp_in_nI (by omega) (by decide), nm_e ⟨vp_in_nI (by omega) (by decide), nm_e ⟨vp_in_nI (by omega) (by decide), vp_in_nI (by omega) (by decide), nm_e (nm_e k)⟩⟩⟩⟩
theorem k_markT {ζ μ : zM} {pg a : Nat} {K : zM → Prop} (b1 : μ 2 7 = nI pg) (hp : pg ≤ 64) (ha : a < 64 * pg) (h7 : μ 1 7 = ζ 19 13) (h12 : ζ 19 13 = 3 → μ 1 12 = ζ 19 17) (k1 : tmk ζ a = 1 → K (zp μ 5 (a / 4) 1)) (k0 : tmk ζ a = 0 → K μ) : f_Co_markTaken μ (nI a) K := by
  unfold f_Co_markTaken
  rw [h7]
  have s1 : tmk ζ a = 1 → f_Bk_setMark μ (nI a) 1 K := fun q => k_setMark (Or.inr rfl) b1 hp ha (k1 q)
  unfold tmk at s1 k0
  have d1 : ¬ (3 : Int32) = 1 := by decide
  have d2 : ¬ (3 : Int32) = 2 := by decide
  refine ⟨fun q3 => ⟨fun q => s1 (if_pos (Or.inl q)), fun q1 => ⟨fun q => s1 (if_pos (Or.inr (Or.inl q))), fun q2 => br_t rfl (k0 (if_neg ?_))⟩⟩, fun q3 => ?_⟩
  · rintro (z | z | z)
    · exact q1 z
    · exact q2 z
    · exact q3 z.1
  · rw [h12 q3, q3]
    refine ⟨fun w => br_f d1 (br_f d2 (br_t rfl (k0 (if_neg ?_)))), fun w => br_f d1 (br_f d2 (br_f (by decide) (s1 (if_pos (Or.inr (Or.inr ⟨q3, w⟩))))))⟩
    rw [q3]
    rintro (z | z | z)
    · exact d1 z
    · exact d2 z
    · exact z.2 w
theorem tm_or {ζ : zM} {a : Nat} : tmk ζ a = 1 ∨ tmk ζ a = 0 := by
  unfold tmk
  split
  · exact Or.inl rfl
  · exact Or.inr rfl
/-- a block is taken, or none is to be had: class and model -/
theorem w_take {e A pg : Nat} {ν μ : zM} {S T : Nat → Prop} {c kd x y y' : Int32} (hW : WW e A ν μ pg S T) (hc : isCl c) (hkd : kd = 1 ∨ kd = 2 ∨ kd = 3) (hsh : sh kd x y c) (hy : kd ≠ 3 → y' = y) :
    (∃ (ζ μ' : zM) (a : Nat), a < 4096 ∧ (ζ 22 a = 0 ∧ ∀ i, i < bs c → ζ 20 (a + i) = 0) ∧ (∀ q, q ≠ 21 → ζ q = ν q) ∧ (∀ b, S b → ζ 21 (b / 64) = ν 21 (b / 64)) ∧ WW e A (g_new ζ a kd (tmk ζ a) x y) μ' pg (fun b => S b ∨ b = a) (fun b => T b ∨ (b = a ∧ kd = 1)) ∧ (∀ G : Int32 → zM → Prop, G (nI a) μ' → f_Bh_takeBlock μ c kd x y' G) ∧ (∀ K : Int32 → zM → Prop, K (nI a) (g_new ζ a kd (tmk ζ a) 0 0) → f_Mo_take ν c kd K)) ∨
    (∃ μ' : zM, WW e A (zp ν 19 21 (ν 19 21 + 1)) μ' pg S T ∧ (∀ G : Int32 → zM → Prop, G (-1) μ' → f_Bh_takeBlock μ c kd x y' G) ∧ (∀ K : Int32 → zM → Prop, K (-1) (zp ν 19 21 (ν 19 21 + 1)) → f_Mo_take ν c kd K)) := by
  obtain ⟨av, cv, hJ, hR, hZ, hK, hC, ha, hcc⟩ := hW
  have hB := hJ.1
  have gp := hB.1.2.1
  obtain ⟨r1, -, r3, -⟩ := rm_v hc
  have hb := bs_le (c := c)
  have b4 : ∀ a : Nat, a % bs c = 0 → a % 4 = 0 := fun a h => by
    rcases bs_v hc with ⟨-, w⟩ | ⟨-, w⟩ | ⟨-, w⟩ | ⟨-, w⟩ <;> rw [w] at h <;> omega
  -- one road for a block that is found
  have found : ∀ (ζ μζ : zM) (p a : Nat), JJ ζ pg S T e → RA ζ μζ pg → μζ 1 = μ 1 → p < pg → ζ 21 p = c → fv (ζ 22) (bs c) (64 * p) (rm c) = some a → ζ 22 a = 0 → a / 64 = p → a % bs c = 0 → (∀ q, q ≠ 21 → ζ q = ν q) → (∀ b, S b → ζ 21 (b / 64) = ν 21 (b / 64)) → (∀ K' : Int32 → zM → Prop, K' (nI p) μζ → f_Bk_pageWithRoom μ c K') → (∀ K : Int32 → zM → Prop, K (nI a) (g_new ζ a kd (tmk ζ a) 0 0) → f_Mo_take ν c kd K) → (∃ (ζ μ' : zM) (a : Nat), a < 4096 ∧ (ζ 22 a = 0 ∧ ∀ i, i < bs c → ζ 20 (a + i) = 0) ∧ (∀ q, q ≠ 21 → ζ q = ν q) ∧ (∀ b, S b → ζ 21 (b / 64) = ν 21 (b / 64)) ∧ WW e A (g_new ζ a kd (tmk ζ a) x y) μ' pg (fun b => S b ∨ b = a) (fun b => T b ∨ (b = a ∧ kd = 1)) ∧ (∀ G : Int32 → zM → Prop, G (nI a) μ' → f_Bh_takeBlock μ c kd x y' G) ∧ (∀ K : Int32 → zM → Prop, K (nI a) (g_new ζ a kd (tmk ζ a) 0 0) → f_Mo_take ν c kd K)) := by
    intro ζ μζ p a hJζ hRζ m1 hp e21 hf hk hap ham hq h21 pwr mk
    have ha64 : a < 64 * pg := by omega
    have z19 := hq 19 (by decide)
    have hz0 := hJζ.1.zero (a := a) (by omega) (by rw [hap, e21]; exact hc) (by rw [hap, e21]; exact ham) hk
    rw [hap, e21] at hz0
    have hJn := J_new (x := x) (y := y) hJζ ha64 hk hc (by rw [hap]; exact e21) ham hkd hsh
    have hkn : ∀ μ' : zM, (tmk ζ a = 1 ∧ μ' = zp (k_new μζ a kd x y') 5 (a / 4) 1) ∨ (tmk ζ a = 0 ∧ μ' = k_new μζ a kd x y') → WW e A (g_new ζ a kd (tmk ζ a) x y) μ' pg (fun b => S b ∨ b = a) (fun b => T b ∨ (b = a ∧ kd = 1)) := fun μ' hμ => by
      have hRn := RA_new (y := y) hJζ.1 hRζ ha64 (b4 a ham) hk hkd hy hμ
      have m18 : μ' 1 = μ 1 := by
        rw [← m1]
        rcases hμ with ⟨-, rfl⟩ | ⟨-, rfl⟩ <;> rfl
      have g19 : (g_new ζ a kd (tmk ζ a) x y) 19 = ν 19 := by rw [← z19]; rfl
      refine ⟨av, cv, hJn, hRn, fun q => ?_, ⟨?_, ?_, hK.2.2⟩, fun q => ?_, ha, hcc.1, hcc.2.eq (hq 28 (by decide))⟩
      · rw [g19] at q ⊢
        rw [m18]; exact hZ q
      · rw [g19]; exact hK.1
      · rw [g19]; exact hK.2.1
      · rw [g19] at q ⊢; exact hC q
    have tb : ∀ G : Int32 → zM → Prop, (tmk ζ a = 1 → G (nI a) (zp (k_new μζ a kd x y') 5 (a / 4) 1)) → (tmk ζ a = 0 → G (nI a) (k_new μζ a kd x y')) → f_Bh_takeBlock μ c kd x y' G := fun G g1 g0 => by
      unfold f_Bh_takeBlock
      refine k_hold hJζ.1 hRζ hc hp e21 hkd hf hap pwr (bn_t (nI_m1 (by omega)) ?_)
      exact k_markT (ζ := ζ) (μ := k_new μζ a kd x y') hRζ.1.1 gp ha64 hRζ.2.2.2.1.2.2.2.1 hRζ.2.2.2.1.2.2.2.2.2.2.2.2.2.2.1 g1 g0
    rcases tm_or (ζ := ζ) (a := a) with tq | tq
    · refine ⟨ζ, _, a, by omega, ⟨hk, hz0⟩, hq, h21, hkn _ (Or.inl ⟨tq, rfl⟩), fun G g => tb G (fun _ => g) (fun z => ?_), mk⟩
      rw [tq] at z; exact absurd z (by decide)
    · refine ⟨ζ, _, a, by omega, ⟨hk, hz0⟩, hq, h21, hkn _ (Or.inr ⟨tq, rfl⟩), fun G g => tb G (fun z => ?_) (fun _ => g), mk⟩
      rw [tq] at z; exact absurd z (by decide)
  cases hpw : pw ν c 0 pg with
  | some p =>
    left
    obtain ⟨p1, p2, p3, p4⟩ := pw_some _ _ _ hpw
    rcases fv_hd hB (p := p) (by omega) hc p3 with ⟨-, a, w1, w2, w3, w4⟩ | ⟨w1, -⟩
    · refine found ν μ p a hJ hR rfl (by omega) p3 w1 w2 w3 w4 (fun _ _ => rfl) (fun _ _ => rfl) (fun K' k' => ?_) (fun K k => ?_)
      · refine k_pw hB hR hc (fun q => ?_) (fun p' q => ?_) (fun p' q => ?_)
        · rw [hpw] at q; cases q
        · rw [hpw] at q; cases q
        · rw [hpw] at q
          have q : p = p' := by cases q; rfl
          rw [← q]; exact k'
      · refine m_take hB hc (fun q => ?_) (fun p' q => ?_) (fun p' a' q qa => ?_)
        · rw [hpw] at q; cases q
        · rw [hpw] at q; cases q
        · rw [hpw] at q
          have q : p = p' := by cases q; rfl
          subst q
          rw [w1] at qa
          have qa : a = a' := by cases qa; rfl
          rw [← qa]; exact k
    · omega
  | none =>
    cases hpo : po ν 0 pg with
    | some p =>
      left
      obtain ⟨p1, p2, p3⟩ := po_some _ _ _ hpo
      have hJo := J_open hJ (by omega) p3 hc
      have hRo := RA_open hB.1 hR (by omega) p3 hc
      have z22 : ν 22 (64 * p) = 0 := Decidable.byContradiction (fun q => by
        have := (hB.al (a := 64 * p) (by omega) q).1
        rw [show 64 * p / 64 = p by omega, p3] at this
        exact isCl_n this rfl)
      refine found (zp ν 21 p c) _ p (64 * p) hJo hRo rfl (by omega) ?_ ?_ z22 (by omega) ?_ (fun q hq => zp_n hq) (fun b hb => ?_) (fun K' k' => ?_) (fun K k => ?_)
      · show upd (ν 21) p c p = c
        exact up_s
      · obtain ⟨r, hr⟩ : ∃ r, rm c = r + 1 := ⟨rm c - 1, by omega⟩
        rw [hr]
        show (if ν 22 (64 * p) = 0 then some (64 * p) else _) = _
        rw [if_pos z22]
      · rcases bs_v hc with ⟨-, w⟩ | ⟨-, w⟩ | ⟨-, w⟩ | ⟨-, w⟩ <;> rw [w] <;> omega
      · show upd (ν 21) p c (b / 64) = ν 21 (b / 64)
        rw [up_n]
        intro z
        obtain ⟨q1, q2⟩ := hJ.2.2.2.2.1.1 b hb
        have := (hB.al q1 q2).1
        rw [z, p3] at this
        exact isCl_n this rfl
      · refine k_pw hB hR hc (fun _ q => ?_) (fun p' _ q => ?_) (fun p' q => ?_)
        · rw [hpo] at q; cases q
        · rw [hpo] at q
          have q : p = p' := by cases q; rfl
          rw [← q]; exact k'
        · rw [hpw] at q; cases q
      · refine m_take hB hc (fun _ q => ?_) (fun p' _ q => ?_) (fun p' a' q qa => ?_)
        · rw [hpo] at q; cases q
        · rw [hpo] at q
          have q : p = p' := by cases q; rfl
          rw [← q]; exact k
        · rw [hpw] at q; cases q
    | none =>
      right
      refine ⟨zp μ 0 5 (μ 0 5 + 1), ⟨av, cv, hJ, ?_, hZ, hK, hC, ha, hcc⟩, fun G g => ?_, fun K k => ?_⟩
      · obtain ⟨hRB, hP, hO, ⟨s1, s2, s3, s4, s5, s6, s7, s8⟩, hK', hN⟩ := hR
        refine ⟨hRB, hP, hO, ⟨s1, s2, s3, s4, s5, s6, ?_, s8⟩, hK', hN⟩
        show μ 0 5 + 1 = ν 19 21 + 1
        rw [s7]
      · unfold f_Bh_takeBlock f_Bk_hold
        refine k_pw hB hR hc (fun _ _ => ?_) (fun p' _ q => ?_) (fun p' q => ?_)
        · unfold f_Bk_firstVacant
          refine k_pageA hR.1.1 gp (fun n hn en => absurd en.symm (nI_m1 (by omega))) (fun _ => bn_f rfl ?_)
          exact k_insN (bn_f rfl (bn_f rfl (nm_e g)))
        · rw [hpo] at q; cases q
        · rw [hpw] at q; cases q
      · refine m_take hB hc (fun _ _ => k) (fun p' _ q => ?_) (fun p' a' q qa => ?_)
        · rw [hpo] at q; cases q
        · rw [hpw] at q; cases q
