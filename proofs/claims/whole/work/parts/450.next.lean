/-! the next block -/
def oI (x : Option Nat) : Int32 := match x with
  | none => -1
  | some b => nI b
theorem nbp_some {ν : zM} : ∀ (n p q : Nat), nbp (ν 21) p n = some q → p ≤ q ∧ q < p + n ∧ ν 21 q ≠ -1 ∧ ∀ j, p ≤ j → j < q → ν 21 j = -1
  | 0, p, q, h => by simp [nbp] at h
  | n + 1, p, q, h => by
    unfold nbp at h
    by_cases e : ν 21 p = -1
    · rw [if_pos e] at h
      obtain ⟨h1, h2, h3, h4⟩ := nbp_some n (p + 1) q h
      refine ⟨by omega, by omega, h3, fun j hj1 hj2 => ?_⟩
      by_cases ej : j = p
      · rw [ej]; exact e
      · exact h4 j (by omega) hj2
    · rw [if_neg e] at h
      cases h
      exact ⟨Nat.le_refl _, by omega, e, fun j h1 h2 => by omega⟩
theorem nbp_none {ν : zM} : ∀ (n p : Nat), nbp (ν 21) p n = none → ∀ j, p ≤ j → j < p + n → ν 21 j = -1
  | 0, p, _, j, h1, h2 => by omega
  | n + 1, p, h, j, h1, h2 => by
    unfold nbp at h
    by_cases e : ν 21 p = -1
    · rw [if_pos e] at h
      by_cases ej : j = p
      · rw [ej]; exact e
      · exact nbp_none n (p + 1) h j (by omega) (by omega)
    · rw [if_neg e] at h
      cases h
theorem k_bfL {ν μ : zM} {pg pl : Nat} {K : Int32 → zM → Prop} (b1 : μ 2 7 = nI pg) (hp : pg ≤ 64) (b8 : ∀ p, p < 64 → μ 8 p = ν 21 p) (hpl : pl ≤ 4096) : ∀ (m p : Nat), p + m = pg → K (oI ((nbp (ν 21) p m).map (fun p => max pl (64 * p)))) μ → ∃ n : Nat, F_Bk_blockFrom_11 K n (nI pl) (nI p) μ
  | 0, p, h, k => ⟨1, by
    refine br_t ?_ k
    rw [b1]; exact nI_le (by omega) (by omega)⟩
  | m + 1, p, h, k => by
    unfold nbp at k
    have e8 := b8 p (by omega)
    have hc : (nI p).toNatClampNeg = p := nI_clamp (by omega)
    by_cases e : ν 21 p = -1
    · rw [if_pos e] at k
      obtain ⟨n, hn⟩ := k_bfL b1 hp b8 hpl m (p + 1) (by omega) k
      refine ⟨n + 1, ?_⟩
      refine br_f (by rw [b1]; exact nI_ge (by omega) (by omega)) ⟨vp_in_nI (by omega) (by decide), ?_⟩
      rw [hc]
      refine br_t (by rw [e8]; exact e) ?_
      intro x6 e6
      rw [nI_1] at e6
      subst e6
      exact hn
    · rw [if_neg e] at k
      refine ⟨1, ?_⟩
      refine br_f (by rw [b1]; exact nI_ge (by omega) (by omega)) ⟨vp_in_nI (by omega) (by decide), ?_⟩
      rw [hc]
      refine br_f (by rw [e8]; exact e) ?_
      unfold f_Ma_max
      rw [nI_m64]
      have k : K (nI (max pl (64 * p))) μ := k
      refine ⟨fun h2 => ?_, fun h2 => ?_⟩
      · rw [nI_ltI (by omega) (by omega)] at h2
        rw [show max pl (64 * p) = p * 64 by omega] at k; exact k
      · rw [nI_ltI (by omega) (by omega)] at h2
        rw [show max pl (64 * p) = pl by omega] at k; exact k
theorem k_bf {ν μ : zM} {pg pl : Nat} {K : Int32 → zM → Prop} (b1 : μ 2 7 = nI pg) (hp : pg ≤ 64) (b8 : ∀ p, p < 64 → μ 8 p = ν 21 p) (hpl : pl ≤ 64 * pg) (k : K (oI (nbk ν pl pg)) μ) : f_Bk_blockFrom μ (nI pl) K := by
  unfold f_Bk_blockFrom
  refine br_t (nI_pos' (by omega)) ?_
  intro x2 e2
  rw [nI_d64 (by omega)] at e2
  subst e2
  exact k_bfL b1 hp b8 (by omega) (pg - pl / 64) (pl / 64) (by omega) k
theorem m_nbL {ν : zM} {pg pl : Nat} {K : Int32 → zM → Prop} (h1 : I1 ν pg) (hpl : pl ≤ 4096) : ∀ (m p : Nat), p + m = pg → pl / 64 ≤ p → K (oI ((nbp (ν 21) p m).map (fun p => max pl (64 * p)))) ν → ∃ n : Nat, F_Mo_nextBlock_5 K n (nI (max pl (64 * p))) ν
  | 0, p, h, _, k => ⟨1, by
    obtain ⟨g1, g2, g3⟩ := h1
    refine br_t ?_ k
    rw [g3, nI_64m]; exact nI_le (by omega) (by omega)⟩
  | m + 1, p, h, hpp, k => by
    obtain ⟨g1, g2, g3⟩ := h1
    unfold nbp at k
    have hd : nI (max pl (64 * p)) / (64 : Int32) = nI p := by
      rw [nI_d64 (by omega)]; congr 1; omega
    have hc : (nI p).toNatClampNeg = p := nI_clamp (by omega)
    by_cases e : ν 21 p = -1
    · rw [if_pos e] at k
      obtain ⟨n, hn⟩ := m_nbL ⟨g1, g2, g3⟩ hpl m (p + 1) (by omega) (by omega) k
      refine ⟨n + 1, ?_⟩
      refine br_f (by rw [g3, nI_64m]; exact nI_ge (by omega) (by omega)) ?_
      rw [hd]
      refine ⟨vp_in_nI (by omega) (by decide), ?_⟩
      rw [hc]
      refine br_t e ?_
      intro x5 e5
      rw [show (1 : Int32) = nI 1 from rfl, nI_add, nI_m64] at e5
      rw [show max pl (64 * (p + 1)) = (p + 1) * 64 by omega, ← e5] at hn
      exact hn
    · rw [if_neg e] at k
      refine ⟨1, ?_⟩
      refine br_f (by rw [g3, nI_64m]; exact nI_ge (by omega) (by omega)) ?_
      rw [hd]
      refine ⟨vp_in_nI (by omega) (by decide), ?_⟩
      rw [hc]
      exact br_f e k
theorem m_nb {ν : zM} {pg pl : Nat} {K : Int32 → zM → Prop} (h1 : I1 ν pg) (hp : ν 19 17 = nI pl) (hpl : pl ≤ 64 * pg) (k : K (oI (nbk ν pl pg)) ν) : f_Mo_nextBlock ν K := by
  have g2 := h1.2.1
  unfold f_Mo_nextBlock
  intro x1 e1
  have := m_nbL (K := K) h1 (pl := pl) (by omega) (pg - pl / 64) (pl / 64) (by omega) (Nat.le_refl _) k
  rw [show max pl (64 * (pl / 64)) = pl by omega, ← hp, ← e1] at this
  exact this
/-- the next block, as the sweep needs it -/
theorem nbk_some {ν : zM} {pg pl b : Nat} (h1 : I1 ν pg) (h2 : I2 ν pg) (hpl : pl ≤ 64 * pg) (hal : pl % 64 ≠ 0 → isCl (ν 21 (pl / 64)) ∧ pl % bs (ν 21 (pl / 64)) = 0) (h : nbk ν pl pg = some b) : pl ≤ b ∧ b < 64 * pg ∧ isCl (ν 21 (b / 64)) ∧ b % bs (ν 21 (b / 64)) = 0 ∧ (∀ j, pl ≤ j → j < b → j < 4096 → ν 21 (j / 64) = -1) := by
  have g2 := h1.2.1
  unfold nbk at h
  cases hq : nbp (ν 21) (pl / 64) (pg - pl / 64) with
  | none => rw [hq] at h; cases h
  | some q =>
    rw [hq] at h
    obtain ⟨a1, a2, a3, a4⟩ := nbp_some _ _ _ hq
    have hb : b = max pl (64 * q) := by cases h; rfl
    have hbq : b / 64 = q := by omega
    have hcq : isCl (ν 21 q) := by
      rcases h2 q (by omega) with e | e
      · exact absurd e a3
      · exact e.1
    refine ⟨by omega, by omega, by rw [hbq]; exact hcq, ?_, fun j j1 j2 j3 => a4 (j / 64) (by omega) (by omega)⟩
    rw [hbq]
    by_cases e : q = pl / 64
    · have eb : b = pl := by omega
      rw [eb, e]
      by_cases e2 : pl % 64 = 0
      · rcases bs_v (e ▸ hcq) with ⟨-, w⟩ | ⟨-, w⟩ | ⟨-, w⟩ | ⟨-, w⟩ <;> rw [w] <;> omega
      · exact (hal e2).2
    · rcases bs_v hcq with ⟨-, w⟩ | ⟨-, w⟩ | ⟨-, w⟩ | ⟨-, w⟩ <;> rw [w] <;> omega
