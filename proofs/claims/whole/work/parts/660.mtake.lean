/-! the model takes a block -/
theorem zp_id {μ : zM} {k j : Nat} {v : Int32} (h : μ k j = v) : zp μ k j v = μ := by
  funext i
  by_cases e : i = k
  · subst e
    rw [zp_s]
    funext j'
    by_cases e2 : j' = j
    · subst e2; rw [up_s, h]
    · rw [up_n e2]
  · rw [zp_n e]
def tmk (ν : zM) (a : Nat) : Int32 := if ν 19 13 = 1 ∨ ν 19 13 = 2 ∨ (ν 19 13 = 3 ∧ ¬ nI a < ν 19 17) then 1 else 0
def g_new (ζ : zM) (a : Nat) (kd m x y : Int32) : zM := zp (zp (zp (zp ζ 22 a kd) 23 a m) 24 a x) 25 a y
section MTAKE
variable {pg : Nat} {c kd : Int32} {K : Int32 → zM → Prop}
theorem m_207L {ν : zM} {a : Nat} (hc : isCl c) (ha : a < 4096) (hs : a % 64 + bs c ≤ 64) (hz : ∀ i, i < bs c → ν 20 (a + i) = 0) (k : K (nI a) (zp (zp ν 24 a 0) 25 a 0)) : ∀ (m j : Nat), j + m = bs c → F_Mo_take_207 K (m + 1) c (nI a) (nI j) ν
  | 0, j, h => by
    have hb := bs_le (c := c)
    refine br_t (by rw [sz_v hc]; exact nI_le (by omega) (by omega)) ⟨vp_in_nI ha (by decide), ?_⟩
    rw [nI_clamp (by omega)]
    exact nm_e ⟨vp_in_nI ha (by decide), nm_e k⟩
  | m + 1, j, h => by
    have hb := bs_le (c := c)
    have ih := m_207L hc ha hs hz k m (j + 1) (by omega)
    refine br_f (by rw [sz_v hc]; exact nI_ge (by omega) (by omega)) ?_
    rw [nI_add]
    refine ⟨vp_in_nI (by omega) (by decide), ?_⟩
    rw [nI_clamp (by omega), zp_id (hz j (by omega))]
    intro μ17 e17 x18 e18
    rw [nI_1] at e18
    subst e17 e18
    exact ih
theorem tk_tail {ν : zM} {a : Nat} (hc : isCl c) (ha : a < 4096) (hs : a % 64 + bs c ≤ 64) (hz : ∀ i, i < bs c → ν 20 (a + i) = 0) (k : K (nI a) (g_new ν a kd (tmk ν a) 0 0)) :
    (vp_in (nI a) 4096 ∧ ∀ μ5 : zM, μ5 = zp ν 22 (nI a).toNatClampNeg kd → (((μ5 19 13) = (1 : Int32) → (vp_in (nI a) 4096 ∧ ∀ μ8 : zM, μ8 = zp μ5 23 (nI a).toNatClampNeg (vp_nar .boolean (1 : Int32)) → (∃ n : Nat, F_Mo_take_207 K n c (nI a) (0 : Int32) μ8))) ∧ (¬ (μ5 19 13) = (1 : Int32) → (((μ5 19 13) = (2 : Int32) → (vp_in (nI a) 4096 ∧ ∀ μ21 : zM, μ21 = zp μ5 23 (nI a).toNatClampNeg (vp_nar .boolean (1 : Int32)) → (∃ n : Nat, F_Mo_take_207 K n c (nI a) (0 : Int32) μ21))) ∧ (¬ (μ5 19 13) = (2 : Int32) → ((¬ (μ5 19 13) = (3 : Int32) → (vp_in (nI a) 4096 ∧ ∀ μ24 : zM, μ24 = zp μ5 23 (nI a).toNatClampNeg (vp_nar .boolean (0 : Int32)) → (∃ n : Nat, F_Mo_take_207 K n c (nI a) (0 : Int32) μ24))) ∧ ((μ5 19 13) = (3 : Int32) → ((nI a < (μ5 19 17) → (vp_in (nI a) 4096 ∧ ∀ μ27 : zM, μ27 = zp μ5 23 (nI a).toNatClampNeg (vp_nar .boolean (0 : Int32)) → (∃ n : Nat, F_Mo_take_207 K n c (nI a) (0 : Int32) μ27))) ∧ (¬ nI a < (μ5 19 17) → (vp_in (nI a) 4096 ∧ ∀ μ29 : zM, μ29 = zp μ5 23 (nI a).toNatClampNeg (vp_nar .boolean (1 : Int32)) → (∃ n : Nat, F_Mo_take_207 K n c (nI a) (0 : Int32) μ29))))))))))) := by
  have hv : vp_in (nI a) 4096 := vp_in_nI ha (by decide)
  have hcl : (nI a).toNatClampNeg = a := nI_clamp (by omega)
  rw [hcl, nz0, nz1]
  refine ⟨hv, fun μ5 e5 => ?_⟩
  subst e5
  have fin : ∀ m : Int32, tmk ν a = m → ∀ μ8 : zM, μ8 = zp (zp ν 22 a kd) 23 a m → ∃ n : Nat, F_Mo_take_207 K n c (nI a) (0 : Int32) μ8 := fun m em μ8 e8 => by
    subst e8
    rw [em] at k
    exact ⟨bs c + 1, m_207L (ν := zp (zp ν 22 a kd) 23 a m) hc ha hs hz k (bs c) 0 (by omega)⟩
  unfold tmk at fin
  refine ⟨fun q => ⟨hv, fin 1 (if_pos (Or.inl q))⟩, fun q1 => ⟨fun q => ⟨hv, fin 1 (if_pos (Or.inr (Or.inl q)))⟩, fun q2 => ⟨fun q3 => ⟨hv, fin 0 (if_neg (fun z => ?_))⟩, fun q3 => ⟨fun q4 => ⟨hv, fin 0 (if_neg (fun z => ?_))⟩, fun q4 => ⟨hv, fin 1 (if_pos (Or.inr (Or.inr ⟨q3, q4⟩)))⟩⟩⟩⟩⟩
  · rcases z with z | z | z
    · exact q1 z
    · exact q2 z
    · exact q3 z.1
  · rcases z with z | z | z
    · exact q1 z
    · exact q2 z
    · exact z.2 q4
theorem m_92f {ν : zM} {a p : Nat} (h1 : I1 ν pg) (hp : p ≤ pg) (hc : isCl c) (ha : a < 4096) (hs : a % 64 + bs c ≤ 64) (hz : ∀ i, i < bs c → ν 20 (a + i) = 0) (k : K (nI a) (g_new ν a kd (tmk ν a) 0 0)) (m : Nat) : F_Mo_take_92 K (m + 1) c kd (nI a) (nI p) ν := by
  have hm := nI_m1 (t := a) (by omega)
  refine ⟨fun _ => bn_t hm (tk_tail hc ha hs hz k), fun _ => bn_t hm (bn_t hm (tk_tail hc ha hs hz k))⟩
theorem m_92L {ν : zM} (h1 : I1 ν pg) (hc : isCl c) (hz : ∀ p, p < pg → ν 21 p = -1 → ∀ i, i < bs c → ν 20 (64 * p + i) = 0) (k0 : po ν 0 pg = none → K (-1) (zp ν 19 21 (ν 19 21 + 1))) (k1 : ∀ p, po ν 0 pg = some p → K (nI (64 * p)) (g_new (zp ν 21 p c) (64 * p) kd (tmk ν (64 * p)) 0 0)) : ∀ (m p : Nat), p + m = pg → po ν 0 pg = po ν p m → F_Mo_take_92 K (m + 2) c kd (-1) (nI p) ν
  | 0, p, h, e => by
    have gp := h1.2.1
    refine br_t (by rw [h1.2.2]; exact nI_le (by omega) (by omega)) (bn_f rfl (nm_e (k0 (by rw [e]; rfl))))
  | m + 1, p, h, e => by
    have gp := h1.2.1
    have hb := bs_le (c := c)
    rw [po_c] at e
    refine br_f (by rw [h1.2.2]; exact nI_ge (by omega) (by omega)) (bn_f rfl ⟨vp_in_nI (by omega) (by decide), ?_⟩)
    rw [nI_clamp (by omega)]
    refine ⟨fun q => ?_, fun q => ⟨vp_in_nI (by omega) (by decide), ?_⟩⟩
    · intro x4 e4
      rw [nI_1] at e4
      subst e4
      rw [if_neg q] at e
      exact m_92L h1 hc hz k0 k1 m (p + 1) (by omega) e
    · rw [if_pos q] at e
      intro μ54 e54 x55 e55 x56 e56
      rw [nI_64m] at e55
      rw [nI_1] at e56
      subst e54 e55 e56
      exact m_92f (ν := zp ν 21 p c) (pg := pg) h1 (by omega) hc (by omega) (by omega) (hz p (by omega) q) (k1 p e) (m + 1)
theorem m_26L {ν : zM} {p : Nat} {C : Int32 → Int32 → Int32 → Int32 → zM → Prop} (hc : isCl c) (hp : p < 64) (h21 : ν 21 p = c) (c1 : ∀ a, fv (ν 22) (bs c) (64 * p) (rm c) = some a → C c kd (nI a) (nI (p + 1)) ν) (c0 : fv (ν 22) (bs c) (64 * p) (rm c) = none → C c kd (-1) (nI (p + 1)) ν) : ∀ (n j : Nat), bs c * j + bs c * n = 64 → fv (ν 22) (bs c) (64 * p) (rm c) = fv (ν 22) (bs c) (64 * p + bs c * j) n → F_Mo_take_26 K C (n + 2) c kd (-1) (nI p) (nI (64 * p + bs c * j)) ν
  | 0, j, h, e => by
    refine br_t (by rw [show (1 : Int32) = nI 1 from rfl, nI_add, nI_64m]; exact nI_le (by omega) (by omega)) ?_
    intro x60 e60
    rw [nI_1] at e60
    subst e60
    exact c0 (by rw [e]; rfl)
  | n + 1, j, h, e => by
    have hb := bs_le (c := c)
    have e1 : bs c * (n + 1) = bs c * n + bs c := Nat.mul_succ _ _
    have e2 : bs c * (j + 1) = bs c * j + bs c := Nat.mul_succ _ _
    have e3 : fv (ν 22) (bs c) (64 * p + bs c * j) (n + 1) = if ν 22 (64 * p + bs c * j) = 0 then some (64 * p + bs c * j) else fv (ν 22) (bs c) (64 * p + bs c * j + bs c) n := rfl
    rw [e3] at e
    refine br_f (by rw [show (1 : Int32) = nI 1 from rfl, nI_add, nI_64m]; exact nI_ge (by omega) (by omega)) ⟨vp_in_nI (by omega) (by decide), ?_⟩
    rw [nI_clamp (by omega), nI_clamp (by omega), h21]
    refine bn_f rfl (bn_f rfl ⟨vp_in_nI (by omega) (by decide), fun q => ?_, fun q => ?_⟩)
    · unfold f_Mo_sizeOf
      intro x70 e70
      rw [sz_v hc, nI_add, show 64 * p + bs c * j + bs c = 64 * p + bs c * (j + 1) by omega] at e70
      subst e70
      rw [if_neg q, show 64 * p + bs c * j + bs c = 64 * p + bs c * (j + 1) by omega] at e
      exact m_26L hc hp h21 c1 c0 n (j + 1) (by omega) e
    · unfold f_Mo_sizeOf
      intro x70 e70
      rw [sz_v hc, nI_add] at e70
      subst e70
      rw [if_pos q] at e
      have hC : ∀ x60 : Int32, x60 = nI p + 1 → C c kd (nI (64 * p + bs c * j)) x60 ν := fun x60 e60 => by
        rw [nI_1] at e60
        subst e60
        exact c1 _ e
      refine ⟨fun _ => hC, fun _ => ⟨vp_in_nI (by omega) (by decide), ?_⟩⟩
      rw [nI_clamp (by omega)]
      exact bn_f h21 (bn_t (nI_m1 (by omega)) hC)
theorem m_takeL {ν : zM} (hB : IB ν pg) (hc : isCl c) (h0 : pw ν c 0 pg = none → ∃ n : Nat, F_Mo_take_92 K n c kd (-1) 0 ν) (h1 : ∀ p a, pw ν c 0 pg = some p → fv (ν 22) (bs c) (64 * p) (rm c) = some a → ∃ n : Nat, F_Mo_take_92 K n c kd (nI a) 0 ν) : ∀ (m p : Nat), p + m = pg → pw ν c 0 pg = pw ν c p m → F_Mo_take_5 K (m + 1) c kd (-1) (nI p) ν
  | 0, p, h, e => by
    have gp := hB.1.2.1
    refine br_t (by rw [hB.1.2.2]; exact nI_le (by omega) (by omega)) (h0 (by rw [e]; rfl))
  | m + 1, p, h, e => by
    have gp := hB.1.2.1
    obtain ⟨r1, -, r3, -⟩ := rm_v hc
    have hb := bs_le (c := c)
    rw [pw_c] at e
    refine br_f (by rw [hB.1.2.2]; exact nI_ge (by omega) (by omega)) (bn_f rfl ?_)
    intro x58 e58
    rw [nI_64m] at e58
    subst e58
    by_cases q : ν 21 p = c
    · refine ⟨rm c + 2, m_26L hc (by omega) q (fun a ea => ?_) (fun ea => ?_) (rm c) 0 (by rw [r1]; omega) (by rw [Nat.mul_zero]; rfl)⟩
      · rcases fv_hd hB (p := p) (by omega) hc q with ⟨w1, -⟩ | ⟨-, w2⟩
        · rw [if_pos ⟨q, w1⟩] at e
          have := h1 p a e ea
          exact ⟨fun _ => this, fun _ => bn_t (nI_m1 (by
            obtain ⟨-, i, i1, i2⟩ := fv_some _ _ _ ea
            have : bs c * i ≤ bs c * rm c := Nat.mul_le_mul_left _ (by omega)
            omega)) this⟩
        · rw [w2] at ea; cases ea
      · rcases fv_hd hB (p := p) (by omega) hc q with ⟨-, a, w2, -⟩ | ⟨w1, -⟩
        · rw [w2] at ea; cases ea
        · rw [if_neg (fun z => by omega)] at e
          exact m_takeL hB hc h0 h1 m (p + 1) (by omega) e
    · refine ⟨1, br_f (by rw [show (1 : Int32) = nI 1 from rfl, nI_add, nI_64m]; exact nI_ge (by omega) (by omega)) ⟨vp_in_nI (by omega) (by decide), ?_⟩⟩
      rw [nI_clamp (by omega)]
      refine bn_t q ?_
      intro x63 e63
      rw [nI_1] at e63
      subst e63
      rw [if_neg (fun z => q z.1)] at e
      exact m_takeL hB hc h0 h1 m (p + 1) (by omega) e
/-- what is free is 0 -/
theorem IB.zero {ν : zM} {a : Nat} (hB : IB ν pg) (ha : a < 4096) (hc : isCl (ν 21 (a / 64))) (hm : a % bs (ν 21 (a / 64)) = 0) (hk : ν 22 a = 0) : ∀ i, i < bs (ν 21 (a / 64)) → ν 20 (a + i) = 0 := by
  intro i hi
  have hs := blk_in hc hm
  refine Decidable.byContradiction (fun q => ?_)
  obtain ⟨b, b1, b2, b3, b4⟩ := hB.2.2.2.2.1 (a + i) (by omega) q
  obtain ⟨bc, bm⟩ := hB.al b1 b2
  have := blk_dis hm hc bm bc hi b3 b4
  rw [← this] at b2
  exact b2 hk
theorem IB.zero' {ν : zM} {p : Nat} (hB : IB ν pg) (hp : p < 64) (hn : ν 21 p = -1) : ∀ i, i < 64 → ν 20 (64 * p + i) = 0 := by
  intro i hi
  refine Decidable.byContradiction (fun q => ?_)
  obtain ⟨b, b1, b2, b3, b4⟩ := hB.2.2.2.2.1 (64 * p + i) (by omega) q
  obtain ⟨bc, bm⟩ := hB.al b1 b2
  have hs := blk_in bc bm
  have : b / 64 = p := by omega
  rw [this, hn] at bc
  exact isCl_n bc rfl
theorem m_take {ν : zM} (hB : IB ν pg) (hc : isCl c) (k00 : pw ν c 0 pg = none → po ν 0 pg = none → K (-1) (zp ν 19 21 (ν 19 21 + 1))) (k01 : ∀ p, pw ν c 0 pg = none → po ν 0 pg = some p → K (nI (64 * p)) (g_new (zp ν 21 p c) (64 * p) kd (tmk ν (64 * p)) 0 0)) (k1 : ∀ p a, pw ν c 0 pg = some p → fv (ν 22) (bs c) (64 * p) (rm c) = some a → K (nI a) (g_new ν a kd (tmk ν a) 0 0)) : f_Mo_take ν c kd K := by
  have gp := hB.1.2.1
  have hb := bs_le (c := c)
  refine ⟨pg + 1, m_takeL hB hc (fun q => ⟨pg + 2, ?_⟩) (fun p a q qa => ⟨1, ?_⟩) pg 0 (by omega) rfl⟩
  · exact m_92L hB.1 hc (fun p hp hn i hi => hB.zero' (by omega) hn i (by omega)) (k00 q) (fun p => k01 p q) pg 0 (by omega) rfl
  · obtain ⟨p1, p2, p3, p4⟩ := pw_some _ _ _ q
    rcases fv_hd hB (p := p) (by omega) hc p3 with ⟨-, a', w1, w2, w3, w4⟩ | ⟨w1, -⟩
    · rw [w1] at qa
      have qa : a' = a := by cases qa; rfl
      subst qa
      have e21 : ν 21 (a' / 64) = c := by rw [w3]; exact p3
      exact m_92f (p := 0) hB.1 (by omega) hc (by omega) (blk_in hc w4) (by have := hB.zero (a := a') (by omega) (by rw [e21]; exact hc) (by rw [e21]; exact w4) w2; rw [e21] at this; exact this) (k1 p a' q w1) 0
    · omega
end MTAKE
